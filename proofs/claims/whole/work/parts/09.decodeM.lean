theorem dX10_init_0 : decode cX10_init 0 = .ok (.aload_n 0, 1) := by decide +kernel
theorem dX10_init_1 : decode cX10_init 1 = .ok (.invokespecial 1, 3) := by decide +kernel
theorem dX10_init_4 : decode cX10_init 4 = .ok (.aload_n 0, 1) := by decide +kernel
theorem dX10_init_5 : decode cX10_init 5 = .ok (.bipush 120, 2) := by decide +kernel
theorem dX10_init_7 : decode cX10_init 7 = .ok (.newarray .int, 2) := by decide +kernel
theorem dX10_init_9 : decode cX10_init 9 = .ok (.putfield 7, 3) := by decide +kernel
theorem dX10_init_12 : decode cX10_init 12 = .ok (.aload_n 0, 1) := by decide +kernel
theorem dX10_init_13 : decode cX10_init 13 = .ok (.bipush 104, 2) := by decide +kernel
theorem dX10_init_15 : decode cX10_init 15 = .ok (.newarray .int, 2) := by decide +kernel
theorem dX10_init_17 : decode cX10_init 17 = .ok (.putfield 13, 3) := by decide +kernel
theorem dX10_init_20 : decode cX10_init 20 = .ok (.aload_n 0, 1) := by decide +kernel
theorem dX10_init_21 : decode cX10_init 21 = .ok (.bipush 104, 2) := by decide +kernel
theorem dX10_init_23 : decode cX10_init 23 = .ok (.newarray .int, 2) := by decide +kernel
theorem dX10_init_25 : decode cX10_init 25 = .ok (.putfield 16, 3) := by decide +kernel
theorem dX10_init_28 : decode cX10_init 28 = .ok (.aload_n 0, 1) := by decide +kernel
theorem dX10_init_29 : decode cX10_init 29 = .ok (.sipush 1456, 3) := by decide +kernel
theorem dX10_init_32 : decode cX10_init 32 = .ok (.newarray .int, 2) := by decide +kernel
theorem dX10_init_34 : decode cX10_init 34 = .ok (.putfield 19, 3) := by decide +kernel
theorem dX10_init_37 : decode cX10_init 37 = .ok (.aload_n 0, 1) := by decide +kernel
theorem dX10_init_38 : decode cX10_init 38 = .ok (.sipush 208, 3) := by decide +kernel
theorem dX10_init_41 : decode cX10_init 41 = .ok (.newarray .int, 2) := by decide +kernel
theorem dX10_init_43 : decode cX10_init 43 = .ok (.putfield 22, 3) := by decide +kernel
theorem dX10_init_46 : decode cX10_init 46 = .ok (.aload_n 0, 1) := by decide +kernel
theorem dX10_init_47 : decode cX10_init 47 = .ok (.iconst 2, 1) := by decide +kernel
theorem dX10_init_48 : decode cX10_init 48 = .ok (.newarray .boolean, 2) := by decide +kernel
theorem dX10_init_50 : decode cX10_init 50 = .ok (.putfield 25, 3) := by decide +kernel
theorem dX10_init_53 : decode cX10_init 53 = .ok (.aload_n 0, 1) := by decide +kernel
theorem dX10_init_54 : decode cX10_init 54 = .ok (.getfield 13, 3) := by decide +kernel
theorem dX10_init_57 : decode cX10_init 57 = .ok (.invokestatic 29, 3) := by decide +kernel
theorem dX10_init_60 : decode cX10_init 60 = .ok (.return_, 1) := by decide +kernel
theorem dX10_thrown_0 : decode cX10_thrown 0 = .ok (.aload_n 0, 1) := by decide +kernel
theorem dX10_thrown_1 : decode cX10_thrown 1 = .ok (.getfield 33, 3) := by decide +kernel
theorem dX10_thrown_4 : decode cX10_thrown 4 = .ok (.ireturn, 1) := by decide +kernel
theorem dX10_refused_0 : decode cX10_refused 0 = .ok (.aload_n 0, 1) := by decide +kernel
theorem dX10_refused_1 : decode cX10_refused 1 = .ok (.iload_n 1, 1) := by decide +kernel
theorem dX10_refused_2 : decode cX10_refused 2 = .ok (.putfield 33, 3) := by decide +kernel
theorem dX10_refused_5 : decode cX10_refused 5 = .ok (.iload_n 1, 1) := by decide +kernel
theorem dX10_refused_6 : decode cX10_refused 6 = .ok (.ifCond .le 7, 3) := by decide +kernel
theorem dX10_refused_9 : decode cX10_refused 9 = .ok (.iconst 1, 1) := by decide +kernel
theorem dX10_refused_10 : decode cX10_refused 10 = .ok (.goto 4, 3) := by decide +kernel
theorem dX10_refused_13 : decode cX10_refused 13 = .ok (.iconst 0, 1) := by decide +kernel
theorem dX10_refused_14 : decode cX10_refused 14 = .ok (.ireturn, 1) := by decide +kernel
theorem dX10_in_0 : decode cX10_in 0 = .ok (.lload_n 0, 1) := by decide +kernel
theorem dX10_in_1 : decode cX10_in 1 = .ok (.lload_n 2, 1) := by decide +kernel
theorem dX10_in_2 : decode cX10_in 2 = .ok (.lcmp, 1) := by decide +kernel
theorem dX10_in_3 : decode cX10_in 3 = .ok (.ifCond .lt 14, 3) := by decide +kernel
theorem dX10_in_6 : decode cX10_in 6 = .ok (.lload_n 0, 1) := by decide +kernel
theorem dX10_in_7 : decode cX10_in 7 = .ok (.lload 4, 2) := by decide +kernel
theorem dX10_in_9 : decode cX10_in 9 = .ok (.lcmp, 1) := by decide +kernel
theorem dX10_in_10 : decode cX10_in 10 = .ok (.ifCond .gt 7, 3) := by decide +kernel
theorem dX10_in_13 : decode cX10_in 13 = .ok (.iconst 1, 1) := by decide +kernel
theorem dX10_in_14 : decode cX10_in 14 = .ok (.goto 4, 3) := by decide +kernel
theorem dX10_in_17 : decode cX10_in 17 = .ok (.iconst 0, 1) := by decide +kernel
theorem dX10_in_18 : decode cX10_in 18 = .ok (.ireturn, 1) := by decide +kernel
theorem dX10_copyState_0 : decode cX10_copyState 0 = .ok (.iconst 0, 1) := by decide +kernel
theorem dX10_copyState_1 : decode cX10_copyState 1 = .ok (.istore 4, 2) := by decide +kernel
theorem dX10_copyState_3 : decode cX10_copyState 3 = .ok (.iload 4, 2) := by decide +kernel
theorem dX10_copyState_5 : decode cX10_copyState 5 = .ok (.bipush 104, 2) := by decide +kernel
theorem dX10_copyState_7 : decode cX10_copyState 7 = .ok (.if_icmp .ge 21, 3) := by decide +kernel
theorem dX10_copyState_10 : decode cX10_copyState 10 = .ok (.aload_n 2, 1) := by decide +kernel
theorem dX10_copyState_11 : decode cX10_copyState 11 = .ok (.iload_n 3, 1) := by decide +kernel
theorem dX10_copyState_12 : decode cX10_copyState 12 = .ok (.iload 4, 2) := by decide +kernel
theorem dX10_copyState_14 : decode cX10_copyState 14 = .ok (.iadd, 1) := by decide +kernel
theorem dX10_copyState_15 : decode cX10_copyState 15 = .ok (.aload_n 0, 1) := by decide +kernel
theorem dX10_copyState_16 : decode cX10_copyState 16 = .ok (.iload_n 1, 1) := by decide +kernel
theorem dX10_copyState_17 : decode cX10_copyState 17 = .ok (.iload 4, 2) := by decide +kernel
theorem dX10_copyState_19 : decode cX10_copyState 19 = .ok (.iadd, 1) := by decide +kernel
theorem dX10_copyState_20 : decode cX10_copyState 20 = .ok (.iaload, 1) := by decide +kernel
theorem dX10_copyState_21 : decode cX10_copyState 21 = .ok (.iastore, 1) := by decide +kernel
theorem dX10_copyState_22 : decode cX10_copyState 22 = .ok (.iinc 4 1, 3) := by decide +kernel
theorem dX10_copyState_25 : decode cX10_copyState 25 = .ok (.goto (-22), 3) := by decide +kernel
theorem dX10_copyState_28 : decode cX10_copyState 28 = .ok (.return_, 1) := by decide +kernel
theorem dX10_clear_0 : decode cX10_clear 0 = .ok (.iconst 0, 1) := by decide +kernel
theorem dX10_clear_1 : decode cX10_clear 1 = .ok (.istore_n 1, 1) := by decide +kernel
theorem dX10_clear_2 : decode cX10_clear 2 = .ok (.iload_n 1, 1) := by decide +kernel
theorem dX10_clear_3 : decode cX10_clear 3 = .ok (.bipush 104, 2) := by decide +kernel
theorem dX10_clear_5 : decode cX10_clear 5 = .ok (.if_icmp .ge 13, 3) := by decide +kernel
theorem dX10_clear_8 : decode cX10_clear 8 = .ok (.aload_n 0, 1) := by decide +kernel
theorem dX10_clear_9 : decode cX10_clear 9 = .ok (.iload_n 1, 1) := by decide +kernel
theorem dX10_clear_10 : decode cX10_clear 10 = .ok (.iconst 0, 1) := by decide +kernel
theorem dX10_clear_11 : decode cX10_clear 11 = .ok (.iastore, 1) := by decide +kernel
theorem dX10_clear_12 : decode cX10_clear 12 = .ok (.iinc 1 1, 3) := by decide +kernel
theorem dX10_clear_15 : decode cX10_clear 15 = .ok (.goto (-13), 3) := by decide +kernel
theorem dX10_clear_18 : decode cX10_clear 18 = .ok (.aload_n 0, 1) := by decide +kernel
theorem dX10_clear_19 : decode cX10_clear 19 = .ok (.bipush 13, 2) := by decide +kernel
theorem dX10_clear_21 : decode cX10_clear 21 = .ok (.iconst (-1), 1) := by decide +kernel
theorem dX10_clear_22 : decode cX10_clear 22 = .ok (.iastore, 1) := by decide +kernel
theorem dX10_clear_23 : decode cX10_clear 23 = .ok (.aload_n 0, 1) := by decide +kernel
theorem dX10_clear_24 : decode cX10_clear 24 = .ok (.bipush 16, 2) := by decide +kernel
theorem dX10_clear_26 : decode cX10_clear 26 = .ok (.iconst 4, 1) := by decide +kernel
theorem dX10_clear_27 : decode cX10_clear 27 = .ok (.iastore, 1) := by decide +kernel
theorem dX10_clear_28 : decode cX10_clear 28 = .ok (.return_, 1) := by decide +kernel
theorem dX10_depth_0 : decode cX10_depth 0 = .ok (.aload_n 0, 1) := by decide +kernel
theorem dX10_depth_1 : decode cX10_depth 1 = .ok (.bipush 18, 2) := by decide +kernel
theorem dX10_depth_3 : decode cX10_depth 3 = .ok (.iconst 2, 1) := by decide +kernel
theorem dX10_depth_4 : decode cX10_depth 4 = .ok (.iload_n 1, 1) := by decide +kernel
theorem dX10_depth_5 : decode cX10_depth 5 = .ok (.imul, 1) := by decide +kernel
theorem dX10_depth_6 : decode cX10_depth 6 = .ok (.iadd, 1) := by decide +kernel
theorem dX10_depth_7 : decode cX10_depth 7 = .ok (.iaload, 1) := by decide +kernel
theorem dX10_depth_8 : decode cX10_depth 8 = .ok (.ireturn, 1) := by decide +kernel
theorem dX10_ofMiner_0 : decode cX10_ofMiner 0 = .ok (.aload_n 0, 1) := by decide +kernel
theorem dX10_ofMiner_1 : decode cX10_ofMiner 1 = .ok (.bipush 24, 2) := by decide +kernel
theorem dX10_ofMiner_3 : decode cX10_ofMiner 3 = .ok (.iconst 4, 1) := by decide +kernel
theorem dX10_ofMiner_4 : decode cX10_ofMiner 4 = .ok (.iload_n 1, 1) := by decide +kernel
theorem dX10_ofMiner_5 : decode cX10_ofMiner 5 = .ok (.imul, 1) := by decide +kernel
theorem dX10_ofMiner_6 : decode cX10_ofMiner 6 = .ok (.iadd, 1) := by decide +kernel
theorem dX10_ofMiner_7 : decode cX10_ofMiner 7 = .ok (.iload_n 2, 1) := by decide +kernel
theorem dX10_ofMiner_8 : decode cX10_ofMiner 8 = .ok (.iadd, 1) := by decide +kernel
theorem dX10_ofMiner_9 : decode cX10_ofMiner 9 = .ok (.iaload, 1) := by decide +kernel
theorem dX10_ofMiner_10 : decode cX10_ofMiner 10 = .ok (.ireturn, 1) := by decide +kernel
theorem dX10_ofLamp_0 : decode cX10_ofLamp 0 = .ok (.aload_n 0, 1) := by decide +kernel
theorem dX10_ofLamp_1 : decode cX10_ofLamp 1 = .ok (.bipush 48, 2) := by decide +kernel
theorem dX10_ofLamp_3 : decode cX10_ofLamp 3 = .ok (.iconst 4, 1) := by decide +kernel
theorem dX10_ofLamp_4 : decode cX10_ofLamp 4 = .ok (.iload_n 1, 1) := by decide +kernel
theorem dX10_ofLamp_5 : decode cX10_ofLamp 5 = .ok (.imul, 1) := by decide +kernel
theorem dX10_ofLamp_6 : decode cX10_ofLamp 6 = .ok (.iadd, 1) := by decide +kernel
theorem dX10_ofLamp_7 : decode cX10_ofLamp 7 = .ok (.iload_n 2, 1) := by decide +kernel
theorem dX10_ofLamp_8 : decode cX10_ofLamp 8 = .ok (.iadd, 1) := by decide +kernel
theorem dX10_ofLamp_9 : decode cX10_ofLamp 9 = .ok (.iaload, 1) := by decide +kernel
theorem dX10_ofLamp_10 : decode cX10_ofLamp 10 = .ok (.ireturn, 1) := by decide +kernel
theorem dX10_ofOrder_0 : decode cX10_ofOrder 0 = .ok (.aload_n 0, 1) := by decide +kernel
theorem dX10_ofOrder_1 : decode cX10_ofOrder 1 = .ok (.bipush 80, 2) := by decide +kernel
theorem dX10_ofOrder_3 : decode cX10_ofOrder 3 = .ok (.iconst 4, 1) := by decide +kernel
theorem dX10_ofOrder_4 : decode cX10_ofOrder 4 = .ok (.iload_n 1, 1) := by decide +kernel
theorem dX10_ofOrder_5 : decode cX10_ofOrder 5 = .ok (.imul, 1) := by decide +kernel
theorem dX10_ofOrder_6 : decode cX10_ofOrder 6 = .ok (.iadd, 1) := by decide +kernel
theorem dX10_ofOrder_7 : decode cX10_ofOrder 7 = .ok (.iload_n 2, 1) := by decide +kernel
theorem dX10_ofOrder_8 : decode cX10_ofOrder 8 = .ok (.iadd, 1) := by decide +kernel
theorem dX10_ofOrder_9 : decode cX10_ofOrder 9 = .ok (.iaload, 1) := by decide +kernel
theorem dX10_ofOrder_10 : decode cX10_ofOrder 10 = .ok (.ireturn, 1) := by decide +kernel
theorem dX10_isGallery_0 : decode cX10_isGallery 0 = .ok (.iload_n 1, 1) := by decide +kernel
theorem dX10_isGallery_1 : decode cX10_isGallery 1 = .ok (.i2l, 1) := by decide +kernel
theorem dX10_isGallery_2 : decode cX10_isGallery 2 = .ok (.lconst 0, 1) := by decide +kernel
theorem dX10_isGallery_3 : decode cX10_isGallery 3 = .ok (.aload_n 0, 1) := by decide +kernel
theorem dX10_isGallery_4 : decode cX10_isGallery 4 = .ok (.iconst 0, 1) := by decide +kernel
theorem dX10_isGallery_5 : decode cX10_isGallery 5 = .ok (.iaload, 1) := by decide +kernel
theorem dX10_isGallery_6 : decode cX10_isGallery 6 = .ok (.iconst 1, 1) := by decide +kernel
theorem dX10_isGallery_7 : decode cX10_isGallery 7 = .ok (.isub, 1) := by decide +kernel
theorem dX10_isGallery_8 : decode cX10_isGallery 8 = .ok (.i2l, 1) := by decide +kernel
theorem dX10_isGallery_9 : decode cX10_isGallery 9 = .ok (.invokestatic 37, 3) := by decide +kernel
theorem dX10_isGallery_12 : decode cX10_isGallery 12 = .ok (.ireturn, 1) := by decide +kernel
theorem dX10_isCell_0 : decode cX10_isCell 0 = .ok (.aload_n 0, 1) := by decide +kernel
theorem dX10_isCell_1 : decode cX10_isCell 1 = .ok (.iload_n 1, 1) := by decide +kernel
theorem dX10_isCell_2 : decode cX10_isCell 2 = .ok (.invokestatic 41, 3) := by decide +kernel
theorem dX10_isCell_5 : decode cX10_isCell 5 = .ok (.ifCond .eq 24, 3) := by decide +kernel
theorem dX10_isCell_8 : decode cX10_isCell 8 = .ok (.iload_n 2, 1) := by decide +kernel
theorem dX10_isCell_9 : decode cX10_isCell 9 = .ok (.i2l, 1) := by decide +kernel
theorem dX10_isCell_10 : decode cX10_isCell 10 = .ok (.lconst 0, 1) := by decide +kernel
theorem dX10_isCell_11 : decode cX10_isCell 11 = .ok (.aload_n 0, 1) := by decide +kernel
theorem dX10_isCell_12 : decode cX10_isCell 12 = .ok (.iload_n 1, 1) := by decide +kernel
theorem dX10_isCell_13 : decode cX10_isCell 13 = .ok (.invokestatic 45, 3) := by decide +kernel
theorem dX10_isCell_16 : decode cX10_isCell 16 = .ok (.iconst 1, 1) := by decide +kernel
theorem dX10_isCell_17 : decode cX10_isCell 17 = .ok (.isub, 1) := by decide +kernel
theorem dX10_isCell_18 : decode cX10_isCell 18 = .ok (.i2l, 1) := by decide +kernel
theorem dX10_isCell_19 : decode cX10_isCell 19 = .ok (.invokestatic 37, 3) := by decide +kernel
theorem dX10_isCell_22 : decode cX10_isCell 22 = .ok (.ifCond .eq 7, 3) := by decide +kernel
theorem dX10_isCell_25 : decode cX10_isCell 25 = .ok (.iconst 1, 1) := by decide +kernel
theorem dX10_isCell_26 : decode cX10_isCell 26 = .ok (.goto 4, 3) := by decide +kernel
theorem dX10_isCell_29 : decode cX10_isCell 29 = .ok (.iconst 0, 1) := by decide +kernel
theorem dX10_isCell_30 : decode cX10_isCell 30 = .ok (.ireturn, 1) := by decide +kernel
theorem dX10_isMiner_0 : decode cX10_isMiner 0 = .ok (.iload_n 1, 1) := by decide +kernel
theorem dX10_isMiner_1 : decode cX10_isMiner 1 = .ok (.i2l, 1) := by decide +kernel
theorem dX10_isMiner_2 : decode cX10_isMiner 2 = .ok (.lconst 0, 1) := by decide +kernel
theorem dX10_isMiner_3 : decode cX10_isMiner 3 = .ok (.aload_n 0, 1) := by decide +kernel
theorem dX10_isMiner_4 : decode cX10_isMiner 4 = .ok (.iconst 1, 1) := by decide +kernel
theorem dX10_isMiner_5 : decode cX10_isMiner 5 = .ok (.iaload, 1) := by decide +kernel
theorem dX10_isMiner_6 : decode cX10_isMiner 6 = .ok (.iconst 1, 1) := by decide +kernel
theorem dX10_isMiner_7 : decode cX10_isMiner 7 = .ok (.isub, 1) := by decide +kernel
theorem dX10_isMiner_8 : decode cX10_isMiner 8 = .ok (.i2l, 1) := by decide +kernel
theorem dX10_isMiner_9 : decode cX10_isMiner 9 = .ok (.invokestatic 37, 3) := by decide +kernel
theorem dX10_isMiner_12 : decode cX10_isMiner 12 = .ok (.ireturn, 1) := by decide +kernel
theorem dX10_isLamp_0 : decode cX10_isLamp 0 = .ok (.iload_n 1, 1) := by decide +kernel
theorem dX10_isLamp_1 : decode cX10_isLamp 1 = .ok (.i2l, 1) := by decide +kernel
theorem dX10_isLamp_2 : decode cX10_isLamp 2 = .ok (.lconst 0, 1) := by decide +kernel
theorem dX10_isLamp_3 : decode cX10_isLamp 3 = .ok (.aload_n 0, 1) := by decide +kernel
theorem dX10_isLamp_4 : decode cX10_isLamp 4 = .ok (.iconst 2, 1) := by decide +kernel
theorem dX10_isLamp_5 : decode cX10_isLamp 5 = .ok (.iaload, 1) := by decide +kernel
theorem dX10_isLamp_6 : decode cX10_isLamp 6 = .ok (.iconst 1, 1) := by decide +kernel
theorem dX10_isLamp_7 : decode cX10_isLamp 7 = .ok (.isub, 1) := by decide +kernel
theorem dX10_isLamp_8 : decode cX10_isLamp 8 = .ok (.i2l, 1) := by decide +kernel
theorem dX10_isLamp_9 : decode cX10_isLamp 9 = .ok (.invokestatic 37, 3) := by decide +kernel
theorem dX10_isLamp_12 : decode cX10_isLamp 12 = .ok (.ireturn, 1) := by decide +kernel
theorem dX10_isSetting_0 : decode cX10_isSetting 0 = .ok (.iload_n 0, 1) := by decide +kernel
theorem dX10_isSetting_1 : decode cX10_isSetting 1 = .ok (.ifCond .ne 15, 3) := by decide +kernel
theorem dX10_isSetting_4 : decode cX10_isSetting 4 = .ok (.iload_n 1, 1) := by decide +kernel
theorem dX10_isSetting_5 : decode cX10_isSetting 5 = .ok (.i2l, 1) := by decide +kernel
theorem dX10_isSetting_6 : decode cX10_isSetting 6 = .ok (.lconst 0, 1) := by decide +kernel
theorem dX10_isSetting_7 : decode cX10_isSetting 7 = .ok (.ldc2_w 49, 3) := by decide +kernel
theorem dX10_isSetting_10 : decode cX10_isSetting 10 = .ok (.invokestatic 37, 3) := by decide +kernel
theorem dX10_isSetting_13 : decode cX10_isSetting 13 = .ok (.ifCond .ne 18, 3) := by decide +kernel
theorem dX10_isSetting_16 : decode cX10_isSetting 16 = .ok (.iload_n 0, 1) := by decide +kernel
theorem dX10_isSetting_17 : decode cX10_isSetting 17 = .ok (.iconst 1, 1) := by decide +kernel
theorem dX10_isSetting_18 : decode cX10_isSetting 18 = .ok (.if_icmp .ne 17, 3) := by decide +kernel
theorem dX10_isSetting_21 : decode cX10_isSetting 21 = .ok (.iload_n 1, 1) := by decide +kernel
theorem dX10_isSetting_22 : decode cX10_isSetting 22 = .ok (.i2l, 1) := by decide +kernel
theorem dX10_isSetting_23 : decode cX10_isSetting 23 = .ok (.lconst 0, 1) := by decide +kernel
theorem dX10_isSetting_24 : decode cX10_isSetting 24 = .ok (.lconst 1, 1) := by decide +kernel
theorem dX10_isSetting_25 : decode cX10_isSetting 25 = .ok (.invokestatic 37, 3) := by decide +kernel
theorem dX10_isSetting_28 : decode cX10_isSetting 28 = .ok (.ifCond .eq 7, 3) := by decide +kernel
theorem dX10_isSetting_31 : decode cX10_isSetting 31 = .ok (.iconst 1, 1) := by decide +kernel
theorem dX10_isSetting_32 : decode cX10_isSetting 32 = .ok (.goto 4, 3) := by decide +kernel
theorem dX10_isSetting_35 : decode cX10_isSetting 35 = .ok (.iconst 0, 1) := by decide +kernel
theorem dX10_isSetting_36 : decode cX10_isSetting 36 = .ok (.ireturn, 1) := by decide +kernel
theorem dX10_lights_0 : decode cX10_lights 0 = .ok (.aload_n 0, 1) := by decide +kernel
theorem dX10_lights_1 : decode cX10_lights 1 = .ok (.iload_n 1, 1) := by decide +kernel
theorem dX10_lights_2 : decode cX10_lights 2 = .ok (.iconst 3, 1) := by decide +kernel
theorem dX10_lights_3 : decode cX10_lights 3 = .ok (.invokestatic 51, 3) := by decide +kernel
theorem dX10_lights_6 : decode cX10_lights 6 = .ok (.iload_n 3, 1) := by decide +kernel
theorem dX10_lights_7 : decode cX10_lights 7 = .ok (.isub, 1) := by decide +kernel
theorem dX10_lights_8 : decode cX10_lights 8 = .ok (.istore 4, 2) := by decide +kernel
theorem dX10_lights_10 : decode cX10_lights 10 = .ok (.aload_n 0, 1) := by decide +kernel
theorem dX10_lights_11 : decode cX10_lights 11 = .ok (.iload_n 1, 1) := by decide +kernel
theorem dX10_lights_12 : decode cX10_lights 12 = .ok (.iconst 2, 1) := by decide +kernel
theorem dX10_lights_13 : decode cX10_lights 13 = .ok (.invokestatic 51, 3) := by decide +kernel
theorem dX10_lights_16 : decode cX10_lights 16 = .ok (.iload_n 2, 1) := by decide +kernel
theorem dX10_lights_17 : decode cX10_lights 17 = .ok (.if_icmp .ne 40, 3) := by decide +kernel
theorem dX10_lights_20 : decode cX10_lights 20 = .ok (.aload_n 0, 1) := by decide +kernel
theorem dX10_lights_21 : decode cX10_lights 21 = .ok (.iload_n 1, 1) := by decide +kernel
theorem dX10_lights_22 : decode cX10_lights 22 = .ok (.iconst 1, 1) := by decide +kernel
theorem dX10_lights_23 : decode cX10_lights 23 = .ok (.invokestatic 51, 3) := by decide +kernel
theorem dX10_lights_26 : decode cX10_lights 26 = .ok (.ifCond .le 31, 3) := by decide +kernel
theorem dX10_lights_29 : decode cX10_lights 29 = .ok (.iload 4, 2) := by decide +kernel
theorem dX10_lights_31 : decode cX10_lights 31 = .ok (.i2l, 1) := by decide +kernel
theorem dX10_lights_32 : decode cX10_lights 32 = .ok (.aload_n 0, 1) := by decide +kernel
theorem dX10_lights_33 : decode cX10_lights 33 = .ok (.iload_n 1, 1) := by decide +kernel
theorem dX10_lights_34 : decode cX10_lights 34 = .ok (.iconst 0, 1) := by decide +kernel
theorem dX10_lights_35 : decode cX10_lights 35 = .ok (.invokestatic 51, 3) := by decide +kernel
theorem dX10_lights_38 : decode cX10_lights 38 = .ok (.ineg, 1) := by decide +kernel
theorem dX10_lights_39 : decode cX10_lights 39 = .ok (.i2l, 1) := by decide +kernel
theorem dX10_lights_40 : decode cX10_lights 40 = .ok (.aload_n 0, 1) := by decide +kernel
theorem dX10_lights_41 : decode cX10_lights 41 = .ok (.iload_n 1, 1) := by decide +kernel
theorem dX10_lights_42 : decode cX10_lights 42 = .ok (.iconst 0, 1) := by decide +kernel
theorem dX10_lights_43 : decode cX10_lights 43 = .ok (.invokestatic 51, 3) := by decide +kernel
theorem dX10_lights_46 : decode cX10_lights 46 = .ok (.i2l, 1) := by decide +kernel
theorem dX10_lights_47 : decode cX10_lights 47 = .ok (.invokestatic 37, 3) := by decide +kernel
theorem dX10_lights_50 : decode cX10_lights 50 = .ok (.ifCond .eq 7, 3) := by decide +kernel
theorem dX10_lights_53 : decode cX10_lights 53 = .ok (.iconst 1, 1) := by decide +kernel
theorem dX10_lights_54 : decode cX10_lights 54 = .ok (.goto 4, 3) := by decide +kernel
theorem dX10_lights_57 : decode cX10_lights 57 = .ok (.iconst 0, 1) := by decide +kernel
theorem dX10_lights_58 : decode cX10_lights 58 = .ok (.ireturn, 1) := by decide +kernel
theorem dX10_isLit_0 : decode cX10_isLit 0 = .ok (.iconst 0, 1) := by decide +kernel
theorem dX10_isLit_1 : decode cX10_isLit 1 = .ok (.istore_n 3, 1) := by decide +kernel
theorem dX10_isLit_2 : decode cX10_isLit 2 = .ok (.iload_n 3, 1) := by decide +kernel
theorem dX10_isLit_3 : decode cX10_isLit 3 = .ok (.aload_n 0, 1) := by decide +kernel
theorem dX10_isLit_4 : decode cX10_isLit 4 = .ok (.iconst 2, 1) := by decide +kernel
theorem dX10_isLit_5 : decode cX10_isLit 5 = .ok (.iaload, 1) := by decide +kernel
theorem dX10_isLit_6 : decode cX10_isLit 6 = .ok (.if_icmp .ge 21, 3) := by decide +kernel
theorem dX10_isLit_9 : decode cX10_isLit 9 = .ok (.aload_n 0, 1) := by decide +kernel
theorem dX10_isLit_10 : decode cX10_isLit 10 = .ok (.iload_n 3, 1) := by decide +kernel
theorem dX10_isLit_11 : decode cX10_isLit 11 = .ok (.iload_n 1, 1) := by decide +kernel
theorem dX10_isLit_12 : decode cX10_isLit 12 = .ok (.iload_n 2, 1) := by decide +kernel
theorem dX10_isLit_13 : decode cX10_isLit 13 = .ok (.invokestatic 55, 3) := by decide +kernel
theorem dX10_isLit_16 : decode cX10_isLit 16 = .ok (.ifCond .eq 5, 3) := by decide +kernel
theorem dX10_isLit_19 : decode cX10_isLit 19 = .ok (.iconst 1, 1) := by decide +kernel
theorem dX10_isLit_20 : decode cX10_isLit 20 = .ok (.ireturn, 1) := by decide +kernel
theorem dX10_isLit_21 : decode cX10_isLit 21 = .ok (.iinc 3 1, 3) := by decide +kernel
theorem dX10_isLit_24 : decode cX10_isLit 24 = .ok (.goto (-22), 3) := by decide +kernel
theorem dX10_isLit_27 : decode cX10_isLit 27 = .ok (.iconst 0, 1) := by decide +kernel
theorem dX10_isLit_28 : decode cX10_isLit 28 = .ok (.ireturn, 1) := by decide +kernel
theorem dX10_hard_0 : decode cX10_hard 0 = .ok (.iconst 3, 1) := by decide +kernel
theorem dX10_hard_1 : decode cX10_hard 1 = .ok (.bipush 7, 2) := by decide +kernel
theorem dX10_hard_3 : decode cX10_hard 3 = .ok (.iload_n 1, 1) := by decide +kernel
theorem dX10_hard_4 : decode cX10_hard 4 = .ok (.imul, 1) := by decide +kernel
theorem dX10_hard_5 : decode cX10_hard 5 = .ok (.iconst 5, 1) := by decide +kernel
theorem dX10_hard_6 : decode cX10_hard 6 = .ok (.iload_n 0, 1) := by decide +kernel
theorem dX10_hard_7 : decode cX10_hard 7 = .ok (.imul, 1) := by decide +kernel
theorem dX10_hard_8 : decode cX10_hard 8 = .ok (.iadd, 1) := by decide +kernel
theorem dX10_hard_9 : decode cX10_hard 9 = .ok (.bipush 6, 2) := by decide +kernel
theorem dX10_hard_11 : decode cX10_hard 11 = .ok (.irem, 1) := by decide +kernel
theorem dX10_hard_12 : decode cX10_hard 12 = .ok (.iadd, 1) := by decide +kernel
theorem dX10_hard_13 : decode cX10_hard 13 = .ok (.ireturn, 1) := by decide +kernel
theorem dX10_between_0 : decode cX10_between 0 = .ok (.iload_n 0, 1) := by decide +kernel
theorem dX10_between_1 : decode cX10_between 1 = .ok (.iload_n 2, 1) := by decide +kernel
theorem dX10_between_2 : decode cX10_between 2 = .ok (.if_icmp .eq 9, 3) := by decide +kernel
theorem dX10_between_5 : decode cX10_between 5 = .ok (.iload_n 1, 1) := by decide +kernel
theorem dX10_between_6 : decode cX10_between 6 = .ok (.iload_n 3, 1) := by decide +kernel
theorem dX10_between_7 : decode cX10_between 7 = .ok (.iadd, 1) := by decide +kernel
theorem dX10_between_8 : decode cX10_between 8 = .ok (.goto 17, 3) := by decide +kernel
theorem dX10_between_11 : decode cX10_between 11 = .ok (.iload_n 1, 1) := by decide +kernel
theorem dX10_between_12 : decode cX10_between 12 = .ok (.iload_n 3, 1) := by decide +kernel
theorem dX10_between_13 : decode cX10_between 13 = .ok (.if_icmp .ge 9, 3) := by decide +kernel
theorem dX10_between_16 : decode cX10_between 16 = .ok (.iload_n 3, 1) := by decide +kernel
theorem dX10_between_17 : decode cX10_between 17 = .ok (.iload_n 1, 1) := by decide +kernel
theorem dX10_between_18 : decode cX10_between 18 = .ok (.isub, 1) := by decide +kernel
theorem dX10_between_19 : decode cX10_between 19 = .ok (.goto 6, 3) := by decide +kernel
theorem dX10_between_22 : decode cX10_between 22 = .ok (.iload_n 1, 1) := by decide +kernel
theorem dX10_between_23 : decode cX10_between 23 = .ok (.iload_n 3, 1) := by decide +kernel
theorem dX10_between_24 : decode cX10_between 24 = .ok (.isub, 1) := by decide +kernel
theorem dX10_between_25 : decode cX10_between 25 = .ok (.ireturn, 1) := by decide +kernel
theorem dX10_toMouth_0 : decode cX10_toMouth 0 = .ok (.aload_n 0, 1) := by decide +kernel
theorem dX10_toMouth_1 : decode cX10_toMouth 1 = .ok (.iconst 0, 1) := by decide +kernel
theorem dX10_toMouth_2 : decode cX10_toMouth 2 = .ok (.iconst 0, 1) := by decide +kernel
theorem dX10_toMouth_3 : decode cX10_toMouth 3 = .ok (.invokestatic 59, 3) := by decide +kernel
theorem dX10_toMouth_6 : decode cX10_toMouth 6 = .ok (.ifCond .eq 14, 3) := by decide +kernel
theorem dX10_toMouth_9 : decode cX10_toMouth 9 = .ok (.aload_n 0, 1) := by decide +kernel
theorem dX10_toMouth_10 : decode cX10_toMouth 10 = .ok (.bipush 15, 2) := by decide +kernel
theorem dX10_toMouth_12 : decode cX10_toMouth 12 = .ok (.iaload, 1) := by decide +kernel
theorem dX10_toMouth_13 : decode cX10_toMouth 13 = .ok (.ifCond .ne 7, 3) := by decide +kernel
theorem dX10_toMouth_16 : decode cX10_toMouth 16 = .ok (.iconst 1, 1) := by decide +kernel
theorem dX10_toMouth_17 : decode cX10_toMouth 17 = .ok (.goto 4, 3) := by decide +kernel
theorem dX10_toMouth_20 : decode cX10_toMouth 20 = .ok (.iconst 0, 1) := by decide +kernel
theorem dX10_toMouth_21 : decode cX10_toMouth 21 = .ok (.ireturn, 1) := by decide +kernel
theorem dX10_toTarget_0 : decode cX10_toTarget 0 = .ok (.aload_n 0, 1) := by decide +kernel
theorem dX10_toTarget_1 : decode cX10_toTarget 1 = .ok (.iconst 0, 1) := by decide +kernel
theorem dX10_toTarget_2 : decode cX10_toTarget 2 = .ok (.iconst 0, 1) := by decide +kernel
theorem dX10_toTarget_3 : decode cX10_toTarget 3 = .ok (.invokestatic 59, 3) := by decide +kernel
theorem dX10_toTarget_6 : decode cX10_toTarget 6 = .ok (.ifCond .ne 15, 3) := by decide +kernel
theorem dX10_toTarget_9 : decode cX10_toTarget 9 = .ok (.aload_n 0, 1) := by decide +kernel
theorem dX10_toTarget_10 : decode cX10_toTarget 10 = .ok (.bipush 13, 2) := by decide +kernel
theorem dX10_toTarget_12 : decode cX10_toTarget 12 = .ok (.iaload, 1) := by decide +kernel
theorem dX10_toTarget_13 : decode cX10_toTarget 13 = .ok (.iconst (-1), 1) := by decide +kernel
theorem dX10_toTarget_14 : decode cX10_toTarget 14 = .ok (.if_icmp .eq 7, 3) := by decide +kernel
theorem dX10_toTarget_17 : decode cX10_toTarget 17 = .ok (.iconst 1, 1) := by decide +kernel
theorem dX10_toTarget_18 : decode cX10_toTarget 18 = .ok (.goto 4, 3) := by decide +kernel
theorem dX10_toTarget_21 : decode cX10_toTarget 21 = .ok (.iconst 0, 1) := by decide +kernel
theorem dX10_toTarget_22 : decode cX10_toTarget 22 = .ok (.ireturn, 1) := by decide +kernel
theorem dX10_goalGallery_0 : decode cX10_goalGallery 0 = .ok (.aload_n 0, 1) := by decide +kernel
theorem dX10_goalGallery_1 : decode cX10_goalGallery 1 = .ok (.invokestatic 62, 3) := by decide +kernel
theorem dX10_goalGallery_4 : decode cX10_goalGallery 4 = .ok (.ifCond .eq 10, 3) := by decide +kernel
theorem dX10_goalGallery_7 : decode cX10_goalGallery 7 = .ok (.aload_n 0, 1) := by decide +kernel
theorem dX10_goalGallery_8 : decode cX10_goalGallery 8 = .ok (.bipush 11, 2) := by decide +kernel
theorem dX10_goalGallery_10 : decode cX10_goalGallery 10 = .ok (.iaload, 1) := by decide +kernel
theorem dX10_goalGallery_11 : decode cX10_goalGallery 11 = .ok (.goto 30, 3) := by decide +kernel
theorem dX10_goalGallery_14 : decode cX10_goalGallery 14 = .ok (.aload_n 0, 1) := by decide +kernel
theorem dX10_goalGallery_15 : decode cX10_goalGallery 15 = .ok (.invokestatic 66, 3) := by decide +kernel
theorem dX10_goalGallery_18 : decode cX10_goalGallery 18 = .ok (.ifCond .eq 12, 3) := by decide +kernel
theorem dX10_goalGallery_21 : decode cX10_goalGallery 21 = .ok (.aload_n 0, 1) := by decide +kernel
theorem dX10_goalGallery_22 : decode cX10_goalGallery 22 = .ok (.iconst 0, 1) := by decide +kernel
theorem dX10_goalGallery_23 : decode cX10_goalGallery 23 = .ok (.iconst 2, 1) := by decide +kernel
theorem dX10_goalGallery_24 : decode cX10_goalGallery 24 = .ok (.invokestatic 59, 3) := by decide +kernel
theorem dX10_goalGallery_27 : decode cX10_goalGallery 27 = .ok (.goto 14, 3) := by decide +kernel
theorem dX10_goalGallery_30 : decode cX10_goalGallery 30 = .ok (.aload_n 0, 1) := by decide +kernel
theorem dX10_goalGallery_31 : decode cX10_goalGallery 31 = .ok (.aload_n 0, 1) := by decide +kernel
theorem dX10_goalGallery_32 : decode cX10_goalGallery 32 = .ok (.iconst 0, 1) := by decide +kernel
theorem dX10_goalGallery_33 : decode cX10_goalGallery 33 = .ok (.iconst 1, 1) := by decide +kernel
theorem dX10_goalGallery_34 : decode cX10_goalGallery 34 = .ok (.invokestatic 59, 3) := by decide +kernel
theorem dX10_goalGallery_37 : decode cX10_goalGallery 37 = .ok (.iconst 2, 1) := by decide +kernel
theorem dX10_goalGallery_38 : decode cX10_goalGallery 38 = .ok (.invokestatic 51, 3) := by decide +kernel
theorem dX10_goalGallery_41 : decode cX10_goalGallery 41 = .ok (.ireturn, 1) := by decide +kernel
theorem dX10_goalCell_0 : decode cX10_goalCell 0 = .ok (.aload_n 0, 1) := by decide +kernel
theorem dX10_goalCell_1 : decode cX10_goalCell 1 = .ok (.invokestatic 62, 3) := by decide +kernel
theorem dX10_goalCell_4 : decode cX10_goalCell 4 = .ok (.ifCond .eq 7, 3) := by decide +kernel
theorem dX10_goalCell_7 : decode cX10_goalCell 7 = .ok (.iconst 0, 1) := by decide +kernel
theorem dX10_goalCell_8 : decode cX10_goalCell 8 = .ok (.goto 30, 3) := by decide +kernel
theorem dX10_goalCell_11 : decode cX10_goalCell 11 = .ok (.aload_n 0, 1) := by decide +kernel
theorem dX10_goalCell_12 : decode cX10_goalCell 12 = .ok (.invokestatic 66, 3) := by decide +kernel
theorem dX10_goalCell_15 : decode cX10_goalCell 15 = .ok (.ifCond .eq 12, 3) := by decide +kernel
theorem dX10_goalCell_18 : decode cX10_goalCell 18 = .ok (.aload_n 0, 1) := by decide +kernel
theorem dX10_goalCell_19 : decode cX10_goalCell 19 = .ok (.iconst 0, 1) := by decide +kernel
theorem dX10_goalCell_20 : decode cX10_goalCell 20 = .ok (.iconst 3, 1) := by decide +kernel
theorem dX10_goalCell_21 : decode cX10_goalCell 21 = .ok (.invokestatic 59, 3) := by decide +kernel
theorem dX10_goalCell_24 : decode cX10_goalCell 24 = .ok (.goto 14, 3) := by decide +kernel
theorem dX10_goalCell_27 : decode cX10_goalCell 27 = .ok (.aload_n 0, 1) := by decide +kernel
theorem dX10_goalCell_28 : decode cX10_goalCell 28 = .ok (.aload_n 0, 1) := by decide +kernel
theorem dX10_goalCell_29 : decode cX10_goalCell 29 = .ok (.iconst 0, 1) := by decide +kernel
theorem dX10_goalCell_30 : decode cX10_goalCell 30 = .ok (.iconst 1, 1) := by decide +kernel
theorem dX10_goalCell_31 : decode cX10_goalCell 31 = .ok (.invokestatic 59, 3) := by decide +kernel
theorem dX10_goalCell_34 : decode cX10_goalCell 34 = .ok (.iconst 3, 1) := by decide +kernel
theorem dX10_goalCell_35 : decode cX10_goalCell 35 = .ok (.invokestatic 51, 3) := by decide +kernel
theorem dX10_goalCell_38 : decode cX10_goalCell 38 = .ok (.ireturn, 1) := by decide +kernel
theorem dX10_orderDone_0 : decode cX10_orderDone 0 = .ok (.aload_n 0, 1) := by decide +kernel
theorem dX10_orderDone_1 : decode cX10_orderDone 1 = .ok (.bipush 8, 2) := by decide +kernel
theorem dX10_orderDone_3 : decode cX10_orderDone 3 = .ok (.dup2, 1) := by decide +kernel
theorem dX10_orderDone_4 : decode cX10_orderDone 4 = .ok (.iaload, 1) := by decide +kernel
theorem dX10_orderDone_5 : decode cX10_orderDone 5 = .ok (.iconst 1, 1) := by decide +kernel
theorem dX10_orderDone_6 : decode cX10_orderDone 6 = .ok (.isub, 1) := by decide +kernel
theorem dX10_orderDone_7 : decode cX10_orderDone 7 = .ok (.iastore, 1) := by decide +kernel
theorem dX10_orderDone_8 : decode cX10_orderDone 8 = .ok (.bipush 80, 2) := by decide +kernel
theorem dX10_orderDone_10 : decode cX10_orderDone 10 = .ok (.iconst 4, 1) := by decide +kernel
theorem dX10_orderDone_11 : decode cX10_orderDone 11 = .ok (.iload_n 1, 1) := by decide +kernel
theorem dX10_orderDone_12 : decode cX10_orderDone 12 = .ok (.imul, 1) := by decide +kernel
theorem dX10_orderDone_13 : decode cX10_orderDone 13 = .ok (.iadd, 1) := by decide +kernel
theorem dX10_orderDone_14 : decode cX10_orderDone 14 = .ok (.istore_n 2, 1) := by decide +kernel
theorem dX10_orderDone_15 : decode cX10_orderDone 15 = .ok (.iload_n 2, 1) := by decide +kernel
theorem dX10_orderDone_16 : decode cX10_orderDone 16 = .ok (.bipush 80, 2) := by decide +kernel
theorem dX10_orderDone_18 : decode cX10_orderDone 18 = .ok (.iconst 4, 1) := by decide +kernel
theorem dX10_orderDone_19 : decode cX10_orderDone 19 = .ok (.aload_n 0, 1) := by decide +kernel
theorem dX10_orderDone_20 : decode cX10_orderDone 20 = .ok (.bipush 8, 2) := by decide +kernel
theorem dX10_orderDone_22 : decode cX10_orderDone 22 = .ok (.iaload, 1) := by decide +kernel
theorem dX10_orderDone_23 : decode cX10_orderDone 23 = .ok (.imul, 1) := by decide +kernel
theorem dX10_orderDone_24 : decode cX10_orderDone 24 = .ok (.iadd, 1) := by decide +kernel
theorem dX10_orderDone_25 : decode cX10_orderDone 25 = .ok (.if_icmp .ge 17, 3) := by decide +kernel
theorem dX10_orderDone_28 : decode cX10_orderDone 28 = .ok (.aload_n 0, 1) := by decide +kernel
theorem dX10_orderDone_29 : decode cX10_orderDone 29 = .ok (.iload_n 2, 1) := by decide +kernel
theorem dX10_orderDone_30 : decode cX10_orderDone 30 = .ok (.aload_n 0, 1) := by decide +kernel
theorem dX10_orderDone_31 : decode cX10_orderDone 31 = .ok (.iload_n 2, 1) := by decide +kernel
theorem dX10_orderDone_32 : decode cX10_orderDone 32 = .ok (.iconst 4, 1) := by decide +kernel
theorem dX10_orderDone_33 : decode cX10_orderDone 33 = .ok (.iadd, 1) := by decide +kernel
theorem dX10_orderDone_34 : decode cX10_orderDone 34 = .ok (.iaload, 1) := by decide +kernel
theorem dX10_orderDone_35 : decode cX10_orderDone 35 = .ok (.iastore, 1) := by decide +kernel
theorem dX10_orderDone_36 : decode cX10_orderDone 36 = .ok (.iinc 2 1, 3) := by decide +kernel
theorem dX10_orderDone_39 : decode cX10_orderDone 39 = .ok (.goto (-24), 3) := by decide +kernel
theorem dX10_orderDone_42 : decode cX10_orderDone 42 = .ok (.return_, 1) := by decide +kernel
theorem dX10_pour_0 : decode cX10_pour 0 = .ok (.bipush 48, 2) := by decide +kernel
theorem dX10_pour_2 : decode cX10_pour 2 = .ok (.iconst 4, 1) := by decide +kernel
theorem dX10_pour_3 : decode cX10_pour 3 = .ok (.iload_n 1, 1) := by decide +kernel
theorem dX10_pour_4 : decode cX10_pour 4 = .ok (.imul, 1) := by decide +kernel
theorem dX10_pour_5 : decode cX10_pour 5 = .ok (.iadd, 1) := by decide +kernel
theorem dX10_pour_6 : decode cX10_pour 6 = .ok (.iconst 1, 1) := by decide +kernel
theorem dX10_pour_7 : decode cX10_pour 7 = .ok (.iadd, 1) := by decide +kernel
theorem dX10_pour_8 : decode cX10_pour 8 = .ok (.istore_n 2, 1) := by decide +kernel
theorem dX10_pour_9 : decode cX10_pour 9 = .ok (.aload_n 0, 1) := by decide +kernel
theorem dX10_pour_10 : decode cX10_pour 10 = .ok (.iload_n 2, 1) := by decide +kernel
theorem dX10_pour_11 : decode cX10_pour 11 = .ok (.dup2, 1) := by decide +kernel
theorem dX10_pour_12 : decode cX10_pour 12 = .ok (.iaload, 1) := by decide +kernel
theorem dX10_pour_13 : decode cX10_pour 13 = .ok (.aload_n 0, 1) := by decide +kernel
theorem dX10_pour_14 : decode cX10_pour 14 = .ok (.bipush 14, 2) := by decide +kernel
theorem dX10_pour_16 : decode cX10_pour 16 = .ok (.iaload, 1) := by decide +kernel
theorem dX10_pour_17 : decode cX10_pour 17 = .ok (.iadd, 1) := by decide +kernel
theorem dX10_pour_18 : decode cX10_pour 18 = .ok (.iastore, 1) := by decide +kernel
theorem dX10_pour_19 : decode cX10_pour 19 = .ok (.aload_n 0, 1) := by decide +kernel
theorem dX10_pour_20 : decode cX10_pour 20 = .ok (.iload_n 2, 1) := by decide +kernel
theorem dX10_pour_21 : decode cX10_pour 21 = .ok (.iaload, 1) := by decide +kernel
theorem dX10_pour_22 : decode cX10_pour 22 = .ok (.bipush 99, 2) := by decide +kernel
theorem dX10_pour_24 : decode cX10_pour 24 = .ok (.if_icmp .le 12, 3) := by decide +kernel
theorem dX10_pour_27 : decode cX10_pour 27 = .ok (.aload_n 0, 1) := by decide +kernel
theorem dX10_pour_28 : decode cX10_pour 28 = .ok (.iload_n 2, 1) := by decide +kernel
theorem dX10_pour_29 : decode cX10_pour 29 = .ok (.iaload, 1) := by decide +kernel
theorem dX10_pour_30 : decode cX10_pour 30 = .ok (.bipush 99, 2) := by decide +kernel
theorem dX10_pour_32 : decode cX10_pour 32 = .ok (.isub, 1) := by decide +kernel
theorem dX10_pour_33 : decode cX10_pour 33 = .ok (.goto 4, 3) := by decide +kernel
theorem dX10_pour_36 : decode cX10_pour 36 = .ok (.iconst 0, 1) := by decide +kernel
theorem dX10_pour_37 : decode cX10_pour 37 = .ok (.istore_n 3, 1) := by decide +kernel
theorem dX10_pour_38 : decode cX10_pour 38 = .ok (.aload_n 0, 1) := by decide +kernel
theorem dX10_pour_39 : decode cX10_pour 39 = .ok (.iload_n 2, 1) := by decide +kernel
theorem dX10_pour_40 : decode cX10_pour 40 = .ok (.dup2, 1) := by decide +kernel
theorem dX10_pour_41 : decode cX10_pour 41 = .ok (.iaload, 1) := by decide +kernel
theorem dX10_pour_42 : decode cX10_pour 42 = .ok (.iload_n 3, 1) := by decide +kernel
theorem dX10_pour_43 : decode cX10_pour 43 = .ok (.isub, 1) := by decide +kernel
theorem dX10_pour_44 : decode cX10_pour 44 = .ok (.iastore, 1) := by decide +kernel
theorem dX10_pour_45 : decode cX10_pour 45 = .ok (.aload_n 0, 1) := by decide +kernel
theorem dX10_pour_46 : decode cX10_pour 46 = .ok (.bipush 6, 2) := by decide +kernel
theorem dX10_pour_48 : decode cX10_pour 48 = .ok (.dup2, 1) := by decide +kernel
theorem dX10_pour_49 : decode cX10_pour 49 = .ok (.iaload, 1) := by decide +kernel
theorem dX10_pour_50 : decode cX10_pour 50 = .ok (.iload_n 3, 1) := by decide +kernel
theorem dX10_pour_51 : decode cX10_pour 51 = .ok (.iadd, 1) := by decide +kernel
theorem dX10_pour_52 : decode cX10_pour 52 = .ok (.iastore, 1) := by decide +kernel
theorem dX10_pour_53 : decode cX10_pour 53 = .ok (.aload_n 0, 1) := by decide +kernel
theorem dX10_pour_54 : decode cX10_pour 54 = .ok (.bipush 14, 2) := by decide +kernel
theorem dX10_pour_56 : decode cX10_pour 56 = .ok (.iconst 0, 1) := by decide +kernel
theorem dX10_pour_57 : decode cX10_pour 57 = .ok (.iastore, 1) := by decide +kernel
theorem dX10_pour_58 : decode cX10_pour 58 = .ok (.aload_n 0, 1) := by decide +kernel
theorem dX10_pour_59 : decode cX10_pour 59 = .ok (.bipush 15, 2) := by decide +kernel
theorem dX10_pour_61 : decode cX10_pour 61 = .ok (.iconst 0, 1) := by decide +kernel
theorem dX10_pour_62 : decode cX10_pour 62 = .ok (.iastore, 1) := by decide +kernel
theorem dX10_pour_63 : decode cX10_pour 63 = .ok (.return_, 1) := by decide +kernel
theorem dX10_takeOil_0 : decode cX10_takeOil 0 = .ok (.aload_n 0, 1) := by decide +kernel
theorem dX10_takeOil_1 : decode cX10_takeOil 1 = .ok (.iconst 0, 1) := by decide +kernel
theorem dX10_takeOil_2 : decode cX10_takeOil 2 = .ok (.iconst 2, 1) := by decide +kernel
theorem dX10_takeOil_3 : decode cX10_takeOil 3 = .ok (.invokestatic 59, 3) := by decide +kernel
theorem dX10_takeOil_6 : decode cX10_takeOil 6 = .ok (.aload_n 0, 1) := by decide +kernel
theorem dX10_takeOil_7 : decode cX10_takeOil 7 = .ok (.iconst 4, 1) := by decide +kernel
theorem dX10_takeOil_8 : decode cX10_takeOil 8 = .ok (.iaload, 1) := by decide +kernel
theorem dX10_takeOil_9 : decode cX10_takeOil 9 = .ok (.if_icmp .ge 12, 3) := by decide +kernel
theorem dX10_takeOil_12 : decode cX10_takeOil 12 = .ok (.aload_n 0, 1) := by decide +kernel
theorem dX10_takeOil_13 : decode cX10_takeOil 13 = .ok (.iconst 0, 1) := by decide +kernel
theorem dX10_takeOil_14 : decode cX10_takeOil 14 = .ok (.iconst 2, 1) := by decide +kernel
theorem dX10_takeOil_15 : decode cX10_takeOil 15 = .ok (.invokestatic 59, 3) := by decide +kernel
theorem dX10_takeOil_18 : decode cX10_takeOil 18 = .ok (.goto 6, 3) := by decide +kernel
theorem dX10_takeOil_21 : decode cX10_takeOil 21 = .ok (.aload_n 0, 1) := by decide +kernel
theorem dX10_takeOil_22 : decode cX10_takeOil 22 = .ok (.iconst 4, 1) := by decide +kernel
theorem dX10_takeOil_23 : decode cX10_takeOil 23 = .ok (.iaload, 1) := by decide +kernel
theorem dX10_takeOil_24 : decode cX10_takeOil 24 = .ok (.istore_n 1, 1) := by decide +kernel
theorem dX10_takeOil_25 : decode cX10_takeOil 25 = .ok (.aload_n 0, 1) := by decide +kernel
theorem dX10_takeOil_26 : decode cX10_takeOil 26 = .ok (.iconst 4, 1) := by decide +kernel
theorem dX10_takeOil_27 : decode cX10_takeOil 27 = .ok (.dup2, 1) := by decide +kernel
theorem dX10_takeOil_28 : decode cX10_takeOil 28 = .ok (.iaload, 1) := by decide +kernel
theorem dX10_takeOil_29 : decode cX10_takeOil 29 = .ok (.iload_n 1, 1) := by decide +kernel
theorem dX10_takeOil_30 : decode cX10_takeOil 30 = .ok (.isub, 1) := by decide +kernel
theorem dX10_takeOil_31 : decode cX10_takeOil 31 = .ok (.iastore, 1) := by decide +kernel
theorem dX10_takeOil_32 : decode cX10_takeOil 32 = .ok (.aload_n 0, 1) := by decide +kernel
theorem dX10_takeOil_33 : decode cX10_takeOil 33 = .ok (.bipush 14, 2) := by decide +kernel
theorem dX10_takeOil_35 : decode cX10_takeOil 35 = .ok (.iload_n 1, 1) := by decide +kernel
theorem dX10_takeOil_36 : decode cX10_takeOil 36 = .ok (.iastore, 1) := by decide +kernel
theorem dX10_takeOil_37 : decode cX10_takeOil 37 = .ok (.aload_n 0, 1) := by decide +kernel
theorem dX10_takeOil_38 : decode cX10_takeOil 38 = .ok (.bipush 15, 2) := by decide +kernel
theorem dX10_takeOil_40 : decode cX10_takeOil 40 = .ok (.iconst 1, 1) := by decide +kernel
theorem dX10_takeOil_41 : decode cX10_takeOil 41 = .ok (.iastore, 1) := by decide +kernel
theorem dX10_takeOil_42 : decode cX10_takeOil 42 = .ok (.return_, 1) := by decide +kernel
theorem dX10_handle_0 : decode cX10_handle 0 = .ok (.aload_n 0, 1) := by decide +kernel
theorem dX10_handle_1 : decode cX10_handle 1 = .ok (.iconst 0, 1) := by decide +kernel
theorem dX10_handle_2 : decode cX10_handle 2 = .ok (.iconst 1, 1) := by decide +kernel
theorem dX10_handle_3 : decode cX10_handle 3 = .ok (.invokestatic 59, 3) := by decide +kernel
theorem dX10_handle_6 : decode cX10_handle 6 = .ok (.istore_n 1, 1) := by decide +kernel
theorem dX10_handle_7 : decode cX10_handle 7 = .ok (.bipush 48, 2) := by decide +kernel
theorem dX10_handle_9 : decode cX10_handle 9 = .ok (.iconst 4, 1) := by decide +kernel
theorem dX10_handle_10 : decode cX10_handle 10 = .ok (.iload_n 1, 1) := by decide +kernel
theorem dX10_handle_11 : decode cX10_handle 11 = .ok (.imul, 1) := by decide +kernel
theorem dX10_handle_12 : decode cX10_handle 12 = .ok (.iadd, 1) := by decide +kernel
theorem dX10_handle_13 : decode cX10_handle 13 = .ok (.istore_n 2, 1) := by decide +kernel
theorem dX10_handle_14 : decode cX10_handle 14 = .ok (.aload_n 0, 1) := by decide +kernel
theorem dX10_handle_15 : decode cX10_handle 15 = .ok (.invokestatic 62, 3) := by decide +kernel
theorem dX10_handle_18 : decode cX10_handle 18 = .ok (.ifCond .eq 8, 3) := by decide +kernel
theorem dX10_handle_21 : decode cX10_handle 21 = .ok (.aload_n 0, 1) := by decide +kernel
theorem dX10_handle_22 : decode cX10_handle 22 = .ok (.invokestatic 69, 3) := by decide +kernel
theorem dX10_handle_25 : decode cX10_handle 25 = .ok (.return_, 1) := by decide +kernel
theorem dX10_handle_26 : decode cX10_handle 26 = .ok (.aload_n 0, 1) := by decide +kernel
theorem dX10_handle_27 : decode cX10_handle 27 = .ok (.bipush 11, 2) := by decide +kernel
theorem dX10_handle_29 : decode cX10_handle 29 = .ok (.aload_n 0, 1) := by decide +kernel
theorem dX10_handle_30 : decode cX10_handle 30 = .ok (.invokestatic 72, 3) := by decide +kernel
theorem dX10_handle_33 : decode cX10_handle 33 = .ok (.iastore, 1) := by decide +kernel
theorem dX10_handle_34 : decode cX10_handle 34 = .ok (.aload_n 0, 1) := by decide +kernel
theorem dX10_handle_35 : decode cX10_handle 35 = .ok (.iconst 0, 1) := by decide +kernel
theorem dX10_handle_36 : decode cX10_handle 36 = .ok (.iconst 0, 1) := by decide +kernel
theorem dX10_handle_37 : decode cX10_handle 37 = .ok (.invokestatic 59, 3) := by decide +kernel
theorem dX10_handle_40 : decode cX10_handle 40 = .ok (.ifCond .eq 16, 3) := by decide +kernel
theorem dX10_handle_43 : decode cX10_handle 43 = .ok (.aload_n 0, 1) := by decide +kernel
theorem dX10_handle_44 : decode cX10_handle 44 = .ok (.iload_n 1, 1) := by decide +kernel
theorem dX10_handle_45 : decode cX10_handle 45 = .ok (.invokestatic 76, 3) := by decide +kernel
theorem dX10_handle_48 : decode cX10_handle 48 = .ok (.aload_n 0, 1) := by decide +kernel
theorem dX10_handle_49 : decode cX10_handle 49 = .ok (.iconst 0, 1) := by decide +kernel
theorem dX10_handle_50 : decode cX10_handle 50 = .ok (.invokestatic 80, 3) := by decide +kernel
theorem dX10_handle_53 : decode cX10_handle 53 = .ok (.goto 63, 3) := by decide +kernel
theorem dX10_handle_56 : decode cX10_handle 56 = .ok (.aload_n 0, 1) := by decide +kernel
theorem dX10_handle_57 : decode cX10_handle 57 = .ok (.bipush 13, 2) := by decide +kernel
theorem dX10_handle_59 : decode cX10_handle 59 = .ok (.iaload, 1) := by decide +kernel
theorem dX10_handle_60 : decode cX10_handle 60 = .ok (.iconst (-1), 1) := by decide +kernel
theorem dX10_handle_61 : decode cX10_handle 61 = .ok (.if_icmp .ne 23, 3) := by decide +kernel
theorem dX10_handle_64 : decode cX10_handle 64 = .ok (.aload_n 0, 1) := by decide +kernel
theorem dX10_handle_65 : decode cX10_handle 65 = .ok (.bipush 13, 2) := by decide +kernel
theorem dX10_handle_67 : decode cX10_handle 67 = .ok (.iload_n 1, 1) := by decide +kernel
theorem dX10_handle_68 : decode cX10_handle 68 = .ok (.iastore, 1) := by decide +kernel
theorem dX10_handle_69 : decode cX10_handle 69 = .ok (.aload_n 0, 1) := by decide +kernel
theorem dX10_handle_70 : decode cX10_handle 70 = .ok (.iload_n 2, 1) := by decide +kernel
theorem dX10_handle_71 : decode cX10_handle 71 = .ok (.iconst 2, 1) := by decide +kernel
theorem dX10_handle_72 : decode cX10_handle 72 = .ok (.iadd, 1) := by decide +kernel
theorem dX10_handle_73 : decode cX10_handle 73 = .ok (.iconst (-1), 1) := by decide +kernel
theorem dX10_handle_74 : decode cX10_handle 74 = .ok (.iastore, 1) := by decide +kernel
theorem dX10_handle_75 : decode cX10_handle 75 = .ok (.aload_n 0, 1) := by decide +kernel
theorem dX10_handle_76 : decode cX10_handle 76 = .ok (.iload_n 2, 1) := by decide +kernel
theorem dX10_handle_77 : decode cX10_handle 77 = .ok (.iconst 3, 1) := by decide +kernel
theorem dX10_handle_78 : decode cX10_handle 78 = .ok (.iadd, 1) := by decide +kernel
theorem dX10_handle_79 : decode cX10_handle 79 = .ok (.iconst (-1), 1) := by decide +kernel
theorem dX10_handle_80 : decode cX10_handle 80 = .ok (.iastore, 1) := by decide +kernel
theorem dX10_handle_81 : decode cX10_handle 81 = .ok (.goto 35, 3) := by decide +kernel
theorem dX10_handle_84 : decode cX10_handle 84 = .ok (.aload_n 0, 1) := by decide +kernel
theorem dX10_handle_85 : decode cX10_handle 85 = .ok (.iload_n 2, 1) := by decide +kernel
theorem dX10_handle_86 : decode cX10_handle 86 = .ok (.iconst 2, 1) := by decide +kernel
theorem dX10_handle_87 : decode cX10_handle 87 = .ok (.iadd, 1) := by decide +kernel
theorem dX10_handle_88 : decode cX10_handle 88 = .ok (.aload_n 0, 1) := by decide +kernel
theorem dX10_handle_89 : decode cX10_handle 89 = .ok (.iconst 0, 1) := by decide +kernel
theorem dX10_handle_90 : decode cX10_handle 90 = .ok (.iconst 2, 1) := by decide +kernel
theorem dX10_handle_91 : decode cX10_handle 91 = .ok (.invokestatic 59, 3) := by decide +kernel
theorem dX10_handle_94 : decode cX10_handle 94 = .ok (.iastore, 1) := by decide +kernel
theorem dX10_handle_95 : decode cX10_handle 95 = .ok (.aload_n 0, 1) := by decide +kernel
theorem dX10_handle_96 : decode cX10_handle 96 = .ok (.iload_n 2, 1) := by decide +kernel
theorem dX10_handle_97 : decode cX10_handle 97 = .ok (.iconst 3, 1) := by decide +kernel
theorem dX10_handle_98 : decode cX10_handle 98 = .ok (.iadd, 1) := by decide +kernel
theorem dX10_handle_99 : decode cX10_handle 99 = .ok (.aload_n 0, 1) := by decide +kernel
theorem dX10_handle_100 : decode cX10_handle 100 = .ok (.iconst 0, 1) := by decide +kernel
theorem dX10_handle_101 : decode cX10_handle 101 = .ok (.iconst 3, 1) := by decide +kernel
theorem dX10_handle_102 : decode cX10_handle 102 = .ok (.invokestatic 59, 3) := by decide +kernel
theorem dX10_handle_105 : decode cX10_handle 105 = .ok (.iastore, 1) := by decide +kernel
theorem dX10_handle_106 : decode cX10_handle 106 = .ok (.aload_n 0, 1) := by decide +kernel
theorem dX10_handle_107 : decode cX10_handle 107 = .ok (.bipush 13, 2) := by decide +kernel
theorem dX10_handle_109 : decode cX10_handle 109 = .ok (.iconst (-1), 1) := by decide +kernel
theorem dX10_handle_110 : decode cX10_handle 110 = .ok (.iastore, 1) := by decide +kernel
theorem dX10_handle_111 : decode cX10_handle 111 = .ok (.aload_n 0, 1) := by decide +kernel
theorem dX10_handle_112 : decode cX10_handle 112 = .ok (.iconst 0, 1) := by decide +kernel
theorem dX10_handle_113 : decode cX10_handle 113 = .ok (.invokestatic 80, 3) := by decide +kernel
theorem dX10_handle_116 : decode cX10_handle 116 = .ok (.return_, 1) := by decide +kernel
theorem dX10_handleAll_0 : decode cX10_handleAll 0 = .ok (.aload_n 0, 1) := by decide +kernel
theorem dX10_handleAll_1 : decode cX10_handleAll 1 = .ok (.bipush 8, 2) := by decide +kernel
theorem dX10_handleAll_3 : decode cX10_handleAll 3 = .ok (.iaload, 1) := by decide +kernel
theorem dX10_handleAll_4 : decode cX10_handleAll 4 = .ok (.ifCond .le 32, 3) := by decide +kernel
theorem dX10_handleAll_7 : decode cX10_handleAll 7 = .ok (.aload_n 0, 1) := by decide +kernel
theorem dX10_handleAll_8 : decode cX10_handleAll 8 = .ok (.bipush 11, 2) := by decide +kernel
theorem dX10_handleAll_10 : decode cX10_handleAll 10 = .ok (.iaload, 1) := by decide +kernel
theorem dX10_handleAll_11 : decode cX10_handleAll 11 = .ok (.aload_n 0, 1) := by decide +kernel
theorem dX10_handleAll_12 : decode cX10_handleAll 12 = .ok (.bipush 12, 2) := by decide +kernel
theorem dX10_handleAll_14 : decode cX10_handleAll 14 = .ok (.iaload, 1) := by decide +kernel
theorem dX10_handleAll_15 : decode cX10_handleAll 15 = .ok (.aload_n 0, 1) := by decide +kernel
theorem dX10_handleAll_16 : decode cX10_handleAll 16 = .ok (.invokestatic 72, 3) := by decide +kernel
theorem dX10_handleAll_19 : decode cX10_handleAll 19 = .ok (.aload_n 0, 1) := by decide +kernel
theorem dX10_handleAll_20 : decode cX10_handleAll 20 = .ok (.invokestatic 83, 3) := by decide +kernel
theorem dX10_handleAll_23 : decode cX10_handleAll 23 = .ok (.invokestatic 86, 3) := by decide +kernel
theorem dX10_handleAll_26 : decode cX10_handleAll 26 = .ok (.ifCond .ne 10, 3) := by decide +kernel
theorem dX10_handleAll_29 : decode cX10_handleAll 29 = .ok (.aload_n 0, 1) := by decide +kernel
theorem dX10_handleAll_30 : decode cX10_handleAll 30 = .ok (.invokestatic 90, 3) := by decide +kernel
theorem dX10_handleAll_33 : decode cX10_handleAll 33 = .ok (.goto (-33), 3) := by decide +kernel
theorem dX10_handleAll_36 : decode cX10_handleAll 36 = .ok (.return_, 1) := by decide +kernel
theorem dX10_step_0 : decode cX10_step 0 = .ok (.aload_n 0, 1) := by decide +kernel
theorem dX10_step_1 : decode cX10_step 1 = .ok (.invokestatic 72, 3) := by decide +kernel
theorem dX10_step_4 : decode cX10_step 4 = .ok (.istore_n 1, 1) := by decide +kernel
theorem dX10_step_5 : decode cX10_step 5 = .ok (.iload_n 1, 1) := by decide +kernel
theorem dX10_step_6 : decode cX10_step 6 = .ok (.aload_n 0, 1) := by decide +kernel
theorem dX10_step_7 : decode cX10_step 7 = .ok (.bipush 11, 2) := by decide +kernel
theorem dX10_step_9 : decode cX10_step 9 = .ok (.iaload, 1) := by decide +kernel
theorem dX10_step_10 : decode cX10_step 10 = .ok (.if_icmp .ne 29, 3) := by decide +kernel
theorem dX10_step_13 : decode cX10_step 13 = .ok (.aload_n 0, 1) := by decide +kernel
theorem dX10_step_14 : decode cX10_step 14 = .ok (.bipush 12, 2) := by decide +kernel
theorem dX10_step_16 : decode cX10_step 16 = .ok (.dup2, 1) := by decide +kernel
theorem dX10_step_17 : decode cX10_step 17 = .ok (.iaload, 1) := by decide +kernel
theorem dX10_step_18 : decode cX10_step 18 = .ok (.aload_n 0, 1) := by decide +kernel
theorem dX10_step_19 : decode cX10_step 19 = .ok (.invokestatic 83, 3) := by decide +kernel
theorem dX10_step_22 : decode cX10_step 22 = .ok (.aload_n 0, 1) := by decide +kernel
theorem dX10_step_23 : decode cX10_step 23 = .ok (.bipush 12, 2) := by decide +kernel
theorem dX10_step_25 : decode cX10_step 25 = .ok (.iaload, 1) := by decide +kernel
theorem dX10_step_26 : decode cX10_step 26 = .ok (.if_icmp .le 7, 3) := by decide +kernel
theorem dX10_step_29 : decode cX10_step 29 = .ok (.iconst 1, 1) := by decide +kernel
theorem dX10_step_30 : decode cX10_step 30 = .ok (.goto 4, 3) := by decide +kernel
theorem dX10_step_33 : decode cX10_step 33 = .ok (.iconst (-1), 1) := by decide +kernel
theorem dX10_step_34 : decode cX10_step 34 = .ok (.iadd, 1) := by decide +kernel
theorem dX10_step_35 : decode cX10_step 35 = .ok (.iastore, 1) := by decide +kernel
theorem dX10_step_36 : decode cX10_step 36 = .ok (.goto 31, 3) := by decide +kernel
theorem dX10_step_39 : decode cX10_step 39 = .ok (.aload_n 0, 1) := by decide +kernel
theorem dX10_step_40 : decode cX10_step 40 = .ok (.bipush 12, 2) := by decide +kernel
theorem dX10_step_42 : decode cX10_step 42 = .ok (.iaload, 1) := by decide +kernel
theorem dX10_step_43 : decode cX10_step 43 = .ok (.ifCond .le 14, 3) := by decide +kernel
theorem dX10_step_46 : decode cX10_step 46 = .ok (.aload_n 0, 1) := by decide +kernel
theorem dX10_step_47 : decode cX10_step 47 = .ok (.bipush 12, 2) := by decide +kernel
theorem dX10_step_49 : decode cX10_step 49 = .ok (.dup2, 1) := by decide +kernel
theorem dX10_step_50 : decode cX10_step 50 = .ok (.iaload, 1) := by decide +kernel
theorem dX10_step_51 : decode cX10_step 51 = .ok (.iconst 1, 1) := by decide +kernel
theorem dX10_step_52 : decode cX10_step 52 = .ok (.isub, 1) := by decide +kernel
theorem dX10_step_53 : decode cX10_step 53 = .ok (.iastore, 1) := by decide +kernel
theorem dX10_step_54 : decode cX10_step 54 = .ok (.goto 13, 3) := by decide +kernel
theorem dX10_step_57 : decode cX10_step 57 = .ok (.aload_n 0, 1) := by decide +kernel
theorem dX10_step_58 : decode cX10_step 58 = .ok (.bipush 11, 2) := by decide +kernel
theorem dX10_step_60 : decode cX10_step 60 = .ok (.iload_n 1, 1) := by decide +kernel
theorem dX10_step_61 : decode cX10_step 61 = .ok (.iastore, 1) := by decide +kernel
theorem dX10_step_62 : decode cX10_step 62 = .ok (.aload_n 0, 1) := by decide +kernel
theorem dX10_step_63 : decode cX10_step 63 = .ok (.bipush 12, 2) := by decide +kernel
theorem dX10_step_65 : decode cX10_step 65 = .ok (.iconst 1, 1) := by decide +kernel
theorem dX10_step_66 : decode cX10_step 66 = .ok (.iastore, 1) := by decide +kernel
theorem dX10_step_67 : decode cX10_step 67 = .ok (.return_, 1) := by decide +kernel
theorem dX10_ladGoes_0 : decode cX10_ladGoes 0 = .ok (.aload_n 0, 1) := by decide +kernel
theorem dX10_ladGoes_1 : decode cX10_ladGoes 1 = .ok (.invokestatic 93, 3) := by decide +kernel
theorem dX10_ladGoes_4 : decode cX10_ladGoes 4 = .ok (.iconst 0, 1) := by decide +kernel
theorem dX10_ladGoes_5 : decode cX10_ladGoes 5 = .ok (.istore_n 1, 1) := by decide +kernel
theorem dX10_ladGoes_6 : decode cX10_ladGoes 6 = .ok (.iload_n 1, 1) := by decide +kernel
theorem dX10_ladGoes_7 : decode cX10_ladGoes 7 = .ok (.aload_n 0, 1) := by decide +kernel
theorem dX10_ladGoes_8 : decode cX10_ladGoes 8 = .ok (.bipush 16, 2) := by decide +kernel
theorem dX10_ladGoes_10 : decode cX10_ladGoes 10 = .ok (.iaload, 1) := by decide +kernel
theorem dX10_ladGoes_11 : decode cX10_ladGoes 11 = .ok (.if_icmp .ge 24, 3) := by decide +kernel
theorem dX10_ladGoes_14 : decode cX10_ladGoes 14 = .ok (.aload_n 0, 1) := by decide +kernel
theorem dX10_ladGoes_15 : decode cX10_ladGoes 15 = .ok (.bipush 8, 2) := by decide +kernel
theorem dX10_ladGoes_17 : decode cX10_ladGoes 17 = .ok (.iaload, 1) := by decide +kernel
theorem dX10_ladGoes_18 : decode cX10_ladGoes 18 = .ok (.ifCond .le 17, 3) := by decide +kernel
theorem dX10_ladGoes_21 : decode cX10_ladGoes 21 = .ok (.aload_n 0, 1) := by decide +kernel
theorem dX10_ladGoes_22 : decode cX10_ladGoes 22 = .ok (.invokestatic 96, 3) := by decide +kernel
theorem dX10_ladGoes_25 : decode cX10_ladGoes 25 = .ok (.aload_n 0, 1) := by decide +kernel
theorem dX10_ladGoes_26 : decode cX10_ladGoes 26 = .ok (.invokestatic 93, 3) := by decide +kernel
theorem dX10_ladGoes_29 : decode cX10_ladGoes 29 = .ok (.iinc 1 1, 3) := by decide +kernel
theorem dX10_ladGoes_32 : decode cX10_ladGoes 32 = .ok (.goto (-26), 3) := by decide +kernel
theorem dX10_ladGoes_35 : decode cX10_ladGoes 35 = .ok (.return_, 1) := by decide +kernel
theorem dX10_mine_0 : decode cX10_mine 0 = .ok (.aload_n 0, 1) := by decide +kernel
theorem dX10_mine_1 : decode cX10_mine 1 = .ok (.iload_n 1, 1) := by decide +kernel
theorem dX10_mine_2 : decode cX10_mine 2 = .ok (.iconst 0, 1) := by decide +kernel
theorem dX10_mine_3 : decode cX10_mine 3 = .ok (.invokestatic 99, 3) := by decide +kernel
theorem dX10_mine_6 : decode cX10_mine 6 = .ok (.istore_n 2, 1) := by decide +kernel
theorem dX10_mine_7 : decode cX10_mine 7 = .ok (.bipush 18, 2) := by decide +kernel
theorem dX10_mine_9 : decode cX10_mine 9 = .ok (.iconst 2, 1) := by decide +kernel
theorem dX10_mine_10 : decode cX10_mine 10 = .ok (.iload_n 2, 1) := by decide +kernel
theorem dX10_mine_11 : decode cX10_mine 11 = .ok (.imul, 1) := by decide +kernel
theorem dX10_mine_12 : decode cX10_mine 12 = .ok (.iadd, 1) := by decide +kernel
theorem dX10_mine_13 : decode cX10_mine 13 = .ok (.istore_n 3, 1) := by decide +kernel
theorem dX10_mine_14 : decode cX10_mine 14 = .ok (.aload_n 0, 1) := by decide +kernel
theorem dX10_mine_15 : decode cX10_mine 15 = .ok (.iload_n 3, 1) := by decide +kernel
theorem dX10_mine_16 : decode cX10_mine 16 = .ok (.iaload, 1) := by decide +kernel
theorem dX10_mine_17 : decode cX10_mine 17 = .ok (.bipush 60, 2) := by decide +kernel
theorem dX10_mine_19 : decode cX10_mine 19 = .ok (.if_icmp .ne 4, 3) := by decide +kernel
theorem dX10_mine_22 : decode cX10_mine 22 = .ok (.return_, 1) := by decide +kernel
theorem dX10_mine_23 : decode cX10_mine 23 = .ok (.aload_n 0, 1) := by decide +kernel
theorem dX10_mine_24 : decode cX10_mine 24 = .ok (.iload_n 2, 1) := by decide +kernel
theorem dX10_mine_25 : decode cX10_mine 25 = .ok (.aload_n 0, 1) := by decide +kernel
theorem dX10_mine_26 : decode cX10_mine 26 = .ok (.iload_n 3, 1) := by decide +kernel
theorem dX10_mine_27 : decode cX10_mine 27 = .ok (.iaload, 1) := by decide +kernel
theorem dX10_mine_28 : decode cX10_mine 28 = .ok (.invokestatic 102, 3) := by decide +kernel
theorem dX10_mine_31 : decode cX10_mine 31 = .ok (.ifCond .ne 26, 3) := by decide +kernel
theorem dX10_mine_34 : decode cX10_mine 34 = .ok (.aload_n 0, 1) := by decide +kernel
theorem dX10_mine_35 : decode cX10_mine 35 = .ok (.bipush 24, 2) := by decide +kernel
theorem dX10_mine_37 : decode cX10_mine 37 = .ok (.iconst 4, 1) := by decide +kernel
theorem dX10_mine_38 : decode cX10_mine 38 = .ok (.iload_n 1, 1) := by decide +kernel
theorem dX10_mine_39 : decode cX10_mine 39 = .ok (.imul, 1) := by decide +kernel
theorem dX10_mine_40 : decode cX10_mine 40 = .ok (.iadd, 1) := by decide +kernel
theorem dX10_mine_41 : decode cX10_mine 41 = .ok (.iconst 3, 1) := by decide +kernel
theorem dX10_mine_42 : decode cX10_mine 42 = .ok (.iadd, 1) := by decide +kernel
theorem dX10_mine_43 : decode cX10_mine 43 = .ok (.dup2, 1) := by decide +kernel
theorem dX10_mine_44 : decode cX10_mine 44 = .ok (.iaload, 1) := by decide +kernel
theorem dX10_mine_45 : decode cX10_mine 45 = .ok (.iconst 1, 1) := by decide +kernel
theorem dX10_mine_46 : decode cX10_mine 46 = .ok (.iadd, 1) := by decide +kernel
theorem dX10_mine_47 : decode cX10_mine 47 = .ok (.iastore, 1) := by decide +kernel
theorem dX10_mine_48 : decode cX10_mine 48 = .ok (.aload_n 0, 1) := by decide +kernel
theorem dX10_mine_49 : decode cX10_mine 49 = .ok (.bipush 9, 2) := by decide +kernel
theorem dX10_mine_51 : decode cX10_mine 51 = .ok (.dup2, 1) := by decide +kernel
theorem dX10_mine_52 : decode cX10_mine 52 = .ok (.iaload, 1) := by decide +kernel
theorem dX10_mine_53 : decode cX10_mine 53 = .ok (.iconst 1, 1) := by decide +kernel
theorem dX10_mine_54 : decode cX10_mine 54 = .ok (.iadd, 1) := by decide +kernel
theorem dX10_mine_55 : decode cX10_mine 55 = .ok (.iastore, 1) := by decide +kernel
theorem dX10_mine_56 : decode cX10_mine 56 = .ok (.return_, 1) := by decide +kernel
theorem dX10_mine_57 : decode cX10_mine 57 = .ok (.aload_n 0, 1) := by decide +kernel
theorem dX10_mine_58 : decode cX10_mine 58 = .ok (.bipush 24, 2) := by decide +kernel
theorem dX10_mine_60 : decode cX10_mine 60 = .ok (.iconst 4, 1) := by decide +kernel
theorem dX10_mine_61 : decode cX10_mine 61 = .ok (.iload_n 1, 1) := by decide +kernel
theorem dX10_mine_62 : decode cX10_mine 62 = .ok (.imul, 1) := by decide +kernel
theorem dX10_mine_63 : decode cX10_mine 63 = .ok (.iadd, 1) := by decide +kernel
theorem dX10_mine_64 : decode cX10_mine 64 = .ok (.iconst 2, 1) := by decide +kernel
theorem dX10_mine_65 : decode cX10_mine 65 = .ok (.iadd, 1) := by decide +kernel
theorem dX10_mine_66 : decode cX10_mine 66 = .ok (.dup2, 1) := by decide +kernel
theorem dX10_mine_67 : decode cX10_mine 67 = .ok (.iaload, 1) := by decide +kernel
theorem dX10_mine_68 : decode cX10_mine 68 = .ok (.aload_n 0, 1) := by decide +kernel
theorem dX10_mine_69 : decode cX10_mine 69 = .ok (.iload_n 1, 1) := by decide +kernel
theorem dX10_mine_70 : decode cX10_mine 70 = .ok (.iconst 1, 1) := by decide +kernel
theorem dX10_mine_71 : decode cX10_mine 71 = .ok (.invokestatic 99, 3) := by decide +kernel
theorem dX10_mine_74 : decode cX10_mine 74 = .ok (.iadd, 1) := by decide +kernel
theorem dX10_mine_75 : decode cX10_mine 75 = .ok (.iastore, 1) := by decide +kernel
theorem dX10_mine_76 : decode cX10_mine 76 = .ok (.aload_n 0, 1) := by decide +kernel
theorem dX10_mine_77 : decode cX10_mine 77 = .ok (.iload_n 3, 1) := by decide +kernel
theorem dX10_mine_78 : decode cX10_mine 78 = .ok (.iconst 1, 1) := by decide +kernel
theorem dX10_mine_79 : decode cX10_mine 79 = .ok (.iadd, 1) := by decide +kernel
theorem dX10_mine_80 : decode cX10_mine 80 = .ok (.dup2, 1) := by decide +kernel
theorem dX10_mine_81 : decode cX10_mine 81 = .ok (.iaload, 1) := by decide +kernel
theorem dX10_mine_82 : decode cX10_mine 82 = .ok (.aload_n 0, 1) := by decide +kernel
theorem dX10_mine_83 : decode cX10_mine 83 = .ok (.iload_n 1, 1) := by decide +kernel
theorem dX10_mine_84 : decode cX10_mine 84 = .ok (.iconst 1, 1) := by decide +kernel
theorem dX10_mine_85 : decode cX10_mine 85 = .ok (.invokestatic 99, 3) := by decide +kernel
theorem dX10_mine_88 : decode cX10_mine 88 = .ok (.iadd, 1) := by decide +kernel
theorem dX10_mine_89 : decode cX10_mine 89 = .ok (.iastore, 1) := by decide +kernel
theorem dX10_mine_90 : decode cX10_mine 90 = .ok (.aload_n 0, 1) := by decide +kernel
theorem dX10_mine_91 : decode cX10_mine 91 = .ok (.iload_n 3, 1) := by decide +kernel
theorem dX10_mine_92 : decode cX10_mine 92 = .ok (.iaload, 1) := by decide +kernel
theorem dX10_mine_93 : decode cX10_mine 93 = .ok (.bipush 60, 2) := by decide +kernel
theorem dX10_mine_95 : decode cX10_mine 95 = .ok (.if_icmp .ge 51, 3) := by decide +kernel
theorem dX10_mine_98 : decode cX10_mine 98 = .ok (.aload_n 0, 1) := by decide +kernel
theorem dX10_mine_99 : decode cX10_mine 99 = .ok (.iload_n 3, 1) := by decide +kernel
theorem dX10_mine_100 : decode cX10_mine 100 = .ok (.iconst 1, 1) := by decide +kernel
theorem dX10_mine_101 : decode cX10_mine 101 = .ok (.iadd, 1) := by decide +kernel
theorem dX10_mine_102 : decode cX10_mine 102 = .ok (.iaload, 1) := by decide +kernel
theorem dX10_mine_103 : decode cX10_mine 103 = .ok (.iload_n 2, 1) := by decide +kernel
theorem dX10_mine_104 : decode cX10_mine 104 = .ok (.aload_n 0, 1) := by decide +kernel
theorem dX10_mine_105 : decode cX10_mine 105 = .ok (.iload_n 3, 1) := by decide +kernel
theorem dX10_mine_106 : decode cX10_mine 106 = .ok (.iaload, 1) := by decide +kernel
theorem dX10_mine_107 : decode cX10_mine 107 = .ok (.invokestatic 106, 3) := by decide +kernel
theorem dX10_mine_110 : decode cX10_mine 110 = .ok (.if_icmp .lt 36, 3) := by decide +kernel
theorem dX10_mine_113 : decode cX10_mine 113 = .ok (.aload_n 0, 1) := by decide +kernel
theorem dX10_mine_114 : decode cX10_mine 114 = .ok (.iload_n 3, 1) := by decide +kernel
theorem dX10_mine_115 : decode cX10_mine 115 = .ok (.iconst 1, 1) := by decide +kernel
theorem dX10_mine_116 : decode cX10_mine 116 = .ok (.iadd, 1) := by decide +kernel
theorem dX10_mine_117 : decode cX10_mine 117 = .ok (.dup2, 1) := by decide +kernel
theorem dX10_mine_118 : decode cX10_mine 118 = .ok (.iaload, 1) := by decide +kernel
theorem dX10_mine_119 : decode cX10_mine 119 = .ok (.iload_n 2, 1) := by decide +kernel
theorem dX10_mine_120 : decode cX10_mine 120 = .ok (.aload_n 0, 1) := by decide +kernel
theorem dX10_mine_121 : decode cX10_mine 121 = .ok (.iload_n 3, 1) := by decide +kernel
theorem dX10_mine_122 : decode cX10_mine 122 = .ok (.iaload, 1) := by decide +kernel
theorem dX10_mine_123 : decode cX10_mine 123 = .ok (.invokestatic 106, 3) := by decide +kernel
theorem dX10_mine_126 : decode cX10_mine 126 = .ok (.isub, 1) := by decide +kernel
theorem dX10_mine_127 : decode cX10_mine 127 = .ok (.iastore, 1) := by decide +kernel
theorem dX10_mine_128 : decode cX10_mine 128 = .ok (.aload_n 0, 1) := by decide +kernel
theorem dX10_mine_129 : decode cX10_mine 129 = .ok (.iload_n 3, 1) := by decide +kernel
theorem dX10_mine_130 : decode cX10_mine 130 = .ok (.dup2, 1) := by decide +kernel
theorem dX10_mine_131 : decode cX10_mine 131 = .ok (.iaload, 1) := by decide +kernel
theorem dX10_mine_132 : decode cX10_mine 132 = .ok (.iconst 1, 1) := by decide +kernel
theorem dX10_mine_133 : decode cX10_mine 133 = .ok (.iadd, 1) := by decide +kernel
theorem dX10_mine_134 : decode cX10_mine 134 = .ok (.iastore, 1) := by decide +kernel
theorem dX10_mine_135 : decode cX10_mine 135 = .ok (.aload_n 0, 1) := by decide +kernel
theorem dX10_mine_136 : decode cX10_mine 136 = .ok (.bipush 10, 2) := by decide +kernel
theorem dX10_mine_138 : decode cX10_mine 138 = .ok (.dup2, 1) := by decide +kernel
theorem dX10_mine_139 : decode cX10_mine 139 = .ok (.iaload, 1) := by decide +kernel
theorem dX10_mine_140 : decode cX10_mine 140 = .ok (.iconst 1, 1) := by decide +kernel
theorem dX10_mine_141 : decode cX10_mine 141 = .ok (.iadd, 1) := by decide +kernel
theorem dX10_mine_142 : decode cX10_mine 142 = .ok (.iastore, 1) := by decide +kernel
theorem dX10_mine_143 : decode cX10_mine 143 = .ok (.goto (-53), 3) := by decide +kernel
theorem dX10_mine_146 : decode cX10_mine 146 = .ok (.return_, 1) := by decide +kernel
theorem dX10_burn_0 : decode cX10_burn 0 = .ok (.iconst 0, 1) := by decide +kernel
theorem dX10_burn_1 : decode cX10_burn 1 = .ok (.istore_n 1, 1) := by decide +kernel
theorem dX10_burn_2 : decode cX10_burn 2 = .ok (.iload_n 1, 1) := by decide +kernel
theorem dX10_burn_3 : decode cX10_burn 3 = .ok (.aload_n 0, 1) := by decide +kernel
theorem dX10_burn_4 : decode cX10_burn 4 = .ok (.iconst 2, 1) := by decide +kernel
theorem dX10_burn_5 : decode cX10_burn 5 = .ok (.iaload, 1) := by decide +kernel
theorem dX10_burn_6 : decode cX10_burn 6 = .ok (.if_icmp .ge 39, 3) := by decide +kernel
theorem dX10_burn_9 : decode cX10_burn 9 = .ok (.aload_n 0, 1) := by decide +kernel
theorem dX10_burn_10 : decode cX10_burn 10 = .ok (.iload_n 1, 1) := by decide +kernel
theorem dX10_burn_11 : decode cX10_burn 11 = .ok (.iconst 1, 1) := by decide +kernel
theorem dX10_burn_12 : decode cX10_burn 12 = .ok (.invokestatic 51, 3) := by decide +kernel
theorem dX10_burn_15 : decode cX10_burn 15 = .ok (.ifCond .le 24, 3) := by decide +kernel
theorem dX10_burn_18 : decode cX10_burn 18 = .ok (.aload_n 0, 1) := by decide +kernel
theorem dX10_burn_19 : decode cX10_burn 19 = .ok (.bipush 48, 2) := by decide +kernel
theorem dX10_burn_21 : decode cX10_burn 21 = .ok (.iconst 4, 1) := by decide +kernel
theorem dX10_burn_22 : decode cX10_burn 22 = .ok (.iload_n 1, 1) := by decide +kernel
theorem dX10_burn_23 : decode cX10_burn 23 = .ok (.imul, 1) := by decide +kernel
theorem dX10_burn_24 : decode cX10_burn 24 = .ok (.iadd, 1) := by decide +kernel
theorem dX10_burn_25 : decode cX10_burn 25 = .ok (.iconst 1, 1) := by decide +kernel
theorem dX10_burn_26 : decode cX10_burn 26 = .ok (.iadd, 1) := by decide +kernel
theorem dX10_burn_27 : decode cX10_burn 27 = .ok (.dup2, 1) := by decide +kernel
theorem dX10_burn_28 : decode cX10_burn 28 = .ok (.iaload, 1) := by decide +kernel
theorem dX10_burn_29 : decode cX10_burn 29 = .ok (.iconst 1, 1) := by decide +kernel
theorem dX10_burn_30 : decode cX10_burn 30 = .ok (.isub, 1) := by decide +kernel
theorem dX10_burn_31 : decode cX10_burn 31 = .ok (.iastore, 1) := by decide +kernel
theorem dX10_burn_32 : decode cX10_burn 32 = .ok (.aload_n 0, 1) := by decide +kernel
theorem dX10_burn_33 : decode cX10_burn 33 = .ok (.iconst 5, 1) := by decide +kernel
theorem dX10_burn_34 : decode cX10_burn 34 = .ok (.dup2, 1) := by decide +kernel
theorem dX10_burn_35 : decode cX10_burn 35 = .ok (.iaload, 1) := by decide +kernel
theorem dX10_burn_36 : decode cX10_burn 36 = .ok (.iconst 1, 1) := by decide +kernel
theorem dX10_burn_37 : decode cX10_burn 37 = .ok (.iadd, 1) := by decide +kernel
theorem dX10_burn_38 : decode cX10_burn 38 = .ok (.iastore, 1) := by decide +kernel
theorem dX10_burn_39 : decode cX10_burn 39 = .ok (.iinc 1 1, 3) := by decide +kernel
theorem dX10_burn_42 : decode cX10_burn 42 = .ok (.goto (-40), 3) := by decide +kernel
theorem dX10_burn_45 : decode cX10_burn 45 = .ok (.return_, 1) := by decide +kernel
theorem dX10_forward_0 : decode cX10_forward 0 = .ok (.iconst (-1), 1) := by decide +kernel
theorem dX10_forward_1 : decode cX10_forward 1 = .ok (.istore_n 2, 1) := by decide +kernel
theorem dX10_forward_2 : decode cX10_forward 2 = .ok (.iconst 0, 1) := by decide +kernel
theorem dX10_forward_3 : decode cX10_forward 3 = .ok (.istore_n 3, 1) := by decide +kernel
theorem dX10_forward_4 : decode cX10_forward 4 = .ok (.iload_n 3, 1) := by decide +kernel
theorem dX10_forward_5 : decode cX10_forward 5 = .ok (.aload_n 0, 1) := by decide +kernel
theorem dX10_forward_6 : decode cX10_forward 6 = .ok (.iconst 2, 1) := by decide +kernel
theorem dX10_forward_7 : decode cX10_forward 7 = .ok (.iaload, 1) := by decide +kernel
theorem dX10_forward_8 : decode cX10_forward 8 = .ok (.if_icmp .ge 82, 3) := by decide +kernel
theorem dX10_forward_11 : decode cX10_forward 11 = .ok (.aload_n 0, 1) := by decide +kernel
theorem dX10_forward_12 : decode cX10_forward 12 = .ok (.iload_n 3, 1) := by decide +kernel
theorem dX10_forward_13 : decode cX10_forward 13 = .ok (.iconst 2, 1) := by decide +kernel
theorem dX10_forward_14 : decode cX10_forward 14 = .ok (.invokestatic 51, 3) := by decide +kernel
theorem dX10_forward_17 : decode cX10_forward 17 = .ok (.iload_n 1, 1) := by decide +kernel
theorem dX10_forward_18 : decode cX10_forward 18 = .ok (.if_icmp .ne 32, 3) := by decide +kernel
theorem dX10_forward_21 : decode cX10_forward 21 = .ok (.aload_n 0, 1) := by decide +kernel
theorem dX10_forward_22 : decode cX10_forward 22 = .ok (.iload_n 3, 1) := by decide +kernel
theorem dX10_forward_23 : decode cX10_forward 23 = .ok (.iconst 1, 1) := by decide +kernel
theorem dX10_forward_24 : decode cX10_forward 24 = .ok (.invokestatic 51, 3) := by decide +kernel
theorem dX10_forward_27 : decode cX10_forward 27 = .ok (.ifCond .le 23, 3) := by decide +kernel
theorem dX10_forward_30 : decode cX10_forward 30 = .ok (.aload_n 0, 1) := by decide +kernel
theorem dX10_forward_31 : decode cX10_forward 31 = .ok (.iload_n 3, 1) := by decide +kernel
theorem dX10_forward_32 : decode cX10_forward 32 = .ok (.iconst 3, 1) := by decide +kernel
theorem dX10_forward_33 : decode cX10_forward 33 = .ok (.invokestatic 51, 3) := by decide +kernel
theorem dX10_forward_36 : decode cX10_forward 36 = .ok (.aload_n 0, 1) := by decide +kernel
theorem dX10_forward_37 : decode cX10_forward 37 = .ok (.iload_n 1, 1) := by decide +kernel
theorem dX10_forward_38 : decode cX10_forward 38 = .ok (.invokestatic 45, 3) := by decide +kernel
theorem dX10_forward_41 : decode cX10_forward 41 = .ok (.iconst 1, 1) := by decide +kernel
theorem dX10_forward_42 : decode cX10_forward 42 = .ok (.isub, 1) := by decide +kernel
theorem dX10_forward_43 : decode cX10_forward 43 = .ok (.if_icmp .ge 7, 3) := by decide +kernel
theorem dX10_forward_46 : decode cX10_forward 46 = .ok (.iconst 1, 1) := by decide +kernel
theorem dX10_forward_47 : decode cX10_forward 47 = .ok (.goto 4, 3) := by decide +kernel
theorem dX10_forward_50 : decode cX10_forward 50 = .ok (.iconst 0, 1) := by decide +kernel
theorem dX10_forward_51 : decode cX10_forward 51 = .ok (.istore 4, 2) := by decide +kernel
theorem dX10_forward_53 : decode cX10_forward 53 = .ok (.iload 4, 2) := by decide +kernel
theorem dX10_forward_55 : decode cX10_forward 55 = .ok (.ifCond .eq 27, 3) := by decide +kernel
theorem dX10_forward_58 : decode cX10_forward 58 = .ok (.iload_n 2, 1) := by decide +kernel
theorem dX10_forward_59 : decode cX10_forward 59 = .ok (.iconst (-1), 1) := by decide +kernel
theorem dX10_forward_60 : decode cX10_forward 60 = .ok (.if_icmp .eq 18, 3) := by decide +kernel
theorem dX10_forward_63 : decode cX10_forward 63 = .ok (.aload_n 0, 1) := by decide +kernel
theorem dX10_forward_64 : decode cX10_forward 64 = .ok (.iload_n 3, 1) := by decide +kernel
theorem dX10_forward_65 : decode cX10_forward 65 = .ok (.iconst 1, 1) := by decide +kernel
theorem dX10_forward_66 : decode cX10_forward 66 = .ok (.invokestatic 51, 3) := by decide +kernel
theorem dX10_forward_69 : decode cX10_forward 69 = .ok (.aload_n 0, 1) := by decide +kernel
theorem dX10_forward_70 : decode cX10_forward 70 = .ok (.iload_n 2, 1) := by decide +kernel
theorem dX10_forward_71 : decode cX10_forward 71 = .ok (.iconst 1, 1) := by decide +kernel
theorem dX10_forward_72 : decode cX10_forward 72 = .ok (.invokestatic 51, 3) := by decide +kernel
theorem dX10_forward_75 : decode cX10_forward 75 = .ok (.if_icmp .le 7, 3) := by decide +kernel
theorem dX10_forward_78 : decode cX10_forward 78 = .ok (.iload_n 3, 1) := by decide +kernel
theorem dX10_forward_79 : decode cX10_forward 79 = .ok (.goto 4, 3) := by decide +kernel
theorem dX10_forward_82 : decode cX10_forward 82 = .ok (.iload_n 2, 1) := by decide +kernel
theorem dX10_forward_83 : decode cX10_forward 83 = .ok (.istore_n 2, 1) := by decide +kernel
theorem dX10_forward_84 : decode cX10_forward 84 = .ok (.iinc 3 1, 3) := by decide +kernel
theorem dX10_forward_87 : decode cX10_forward 87 = .ok (.goto (-83), 3) := by decide +kernel
theorem dX10_forward_90 : decode cX10_forward 90 = .ok (.iload_n 2, 1) := by decide +kernel
theorem dX10_forward_91 : decode cX10_forward 91 = .ok (.ireturn, 1) := by decide +kernel
theorem dX10_isWorked_0 : decode cX10_isWorked 0 = .ok (.iconst 0, 1) := by decide +kernel
theorem dX10_isWorked_1 : decode cX10_isWorked 1 = .ok (.istore_n 2, 1) := by decide +kernel
theorem dX10_isWorked_2 : decode cX10_isWorked 2 = .ok (.iload_n 2, 1) := by decide +kernel
theorem dX10_isWorked_3 : decode cX10_isWorked 3 = .ok (.aload_n 0, 1) := by decide +kernel
theorem dX10_isWorked_4 : decode cX10_isWorked 4 = .ok (.iconst 1, 1) := by decide +kernel
theorem dX10_isWorked_5 : decode cX10_isWorked 5 = .ok (.iaload, 1) := by decide +kernel
theorem dX10_isWorked_6 : decode cX10_isWorked 6 = .ok (.if_icmp .ge 21, 3) := by decide +kernel
theorem dX10_isWorked_9 : decode cX10_isWorked 9 = .ok (.aload_n 0, 1) := by decide +kernel
theorem dX10_isWorked_10 : decode cX10_isWorked 10 = .ok (.iload_n 2, 1) := by decide +kernel
theorem dX10_isWorked_11 : decode cX10_isWorked 11 = .ok (.iconst 0, 1) := by decide +kernel
theorem dX10_isWorked_12 : decode cX10_isWorked 12 = .ok (.invokestatic 99, 3) := by decide +kernel
theorem dX10_isWorked_15 : decode cX10_isWorked 15 = .ok (.iload_n 1, 1) := by decide +kernel
theorem dX10_isWorked_16 : decode cX10_isWorked 16 = .ok (.if_icmp .ne 5, 3) := by decide +kernel
theorem dX10_isWorked_19 : decode cX10_isWorked 19 = .ok (.iconst 1, 1) := by decide +kernel
theorem dX10_isWorked_20 : decode cX10_isWorked 20 = .ok (.ireturn, 1) := by decide +kernel
theorem dX10_isWorked_21 : decode cX10_isWorked 21 = .ok (.iinc 2 1, 3) := by decide +kernel
theorem dX10_isWorked_24 : decode cX10_isWorked 24 = .ok (.goto (-22), 3) := by decide +kernel
theorem dX10_isWorked_27 : decode cX10_isWorked 27 = .ok (.iconst 0, 1) := by decide +kernel
theorem dX10_isWorked_28 : decode cX10_isWorked 28 = .ok (.ireturn, 1) := by decide +kernel
theorem dX10_looksHimself_0 : decode cX10_looksHimself 0 = .ok (.iconst 0, 1) := by decide +kernel
theorem dX10_looksHimself_1 : decode cX10_looksHimself 1 = .ok (.istore_n 1, 1) := by decide +kernel
theorem dX10_looksHimself_2 : decode cX10_looksHimself 2 = .ok (.iload_n 1, 1) := by decide +kernel
theorem dX10_looksHimself_3 : decode cX10_looksHimself 3 = .ok (.aload_n 0, 1) := by decide +kernel
theorem dX10_looksHimself_4 : decode cX10_looksHimself 4 = .ok (.iconst 0, 1) := by decide +kernel
theorem dX10_looksHimself_5 : decode cX10_looksHimself 5 = .ok (.iaload, 1) := by decide +kernel
theorem dX10_looksHimself_6 : decode cX10_looksHimself 6 = .ok (.if_icmp .ge 87, 3) := by decide +kernel
theorem dX10_looksHimself_9 : decode cX10_looksHimself 9 = .ok (.aload_n 0, 1) := by decide +kernel
theorem dX10_looksHimself_10 : decode cX10_looksHimself 10 = .ok (.iload_n 1, 1) := by decide +kernel
theorem dX10_looksHimself_11 : decode cX10_looksHimself 11 = .ok (.invokestatic 110, 3) := by decide +kernel
theorem dX10_looksHimself_14 : decode cX10_looksHimself 14 = .ok (.ifCond .eq 38, 3) := by decide +kernel
theorem dX10_looksHimself_17 : decode cX10_looksHimself 17 = .ok (.aload_n 0, 1) := by decide +kernel
theorem dX10_looksHimself_18 : decode cX10_looksHimself 18 = .ok (.iload_n 1, 1) := by decide +kernel
theorem dX10_looksHimself_19 : decode cX10_looksHimself 19 = .ok (.invokestatic 45, 3) := by decide +kernel
theorem dX10_looksHimself_22 : decode cX10_looksHimself 22 = .ok (.i2l, 1) := by decide +kernel
theorem dX10_looksHimself_23 : decode cX10_looksHimself 23 = .ok (.ldc2_w 113, 3) := by decide +kernel
theorem dX10_looksHimself_26 : decode cX10_looksHimself 26 = .ok (.ldc2_w 115, 3) := by decide +kernel
theorem dX10_looksHimself_29 : decode cX10_looksHimself 29 = .ok (.invokestatic 37, 3) := by decide +kernel
theorem dX10_looksHimself_32 : decode cX10_looksHimself 32 = .ok (.ifCond .eq 20, 3) := by decide +kernel
theorem dX10_looksHimself_35 : decode cX10_looksHimself 35 = .ok (.aload_n 0, 1) := by decide +kernel
theorem dX10_looksHimself_36 : decode cX10_looksHimself 36 = .ok (.iload_n 1, 1) := by decide +kernel
theorem dX10_looksHimself_37 : decode cX10_looksHimself 37 = .ok (.aload_n 0, 1) := by decide +kernel
theorem dX10_looksHimself_38 : decode cX10_looksHimself 38 = .ok (.iload_n 1, 1) := by decide +kernel
theorem dX10_looksHimself_39 : decode cX10_looksHimself 39 = .ok (.invokestatic 45, 3) := by decide +kernel
theorem dX10_looksHimself_42 : decode cX10_looksHimself 42 = .ok (.invokestatic 102, 3) := by decide +kernel
theorem dX10_looksHimself_45 : decode cX10_looksHimself 45 = .ok (.ifCond .ne 7, 3) := by decide +kernel
theorem dX10_looksHimself_48 : decode cX10_looksHimself 48 = .ok (.iconst 1, 1) := by decide +kernel
theorem dX10_looksHimself_49 : decode cX10_looksHimself 49 = .ok (.goto 4, 3) := by decide +kernel
theorem dX10_looksHimself_52 : decode cX10_looksHimself 52 = .ok (.iconst 0, 1) := by decide +kernel
theorem dX10_looksHimself_53 : decode cX10_looksHimself 53 = .ok (.istore_n 2, 1) := by decide +kernel
theorem dX10_looksHimself_54 : decode cX10_looksHimself 54 = .ok (.iload_n 2, 1) := by decide +kernel
theorem dX10_looksHimself_55 : decode cX10_looksHimself 55 = .ok (.ifCond .eq 32, 3) := by decide +kernel
theorem dX10_looksHimself_58 : decode cX10_looksHimself 58 = .ok (.aload_n 0, 1) := by decide +kernel
theorem dX10_looksHimself_59 : decode cX10_looksHimself 59 = .ok (.iload_n 1, 1) := by decide +kernel
theorem dX10_looksHimself_60 : decode cX10_looksHimself 60 = .ok (.invokestatic 117, 3) := by decide +kernel
theorem dX10_looksHimself_63 : decode cX10_looksHimself 63 = .ok (.iconst (-1), 1) := by decide +kernel
theorem dX10_looksHimself_64 : decode cX10_looksHimself 64 = .ok (.if_icmp .eq 23, 3) := by decide +kernel
theorem dX10_looksHimself_67 : decode cX10_looksHimself 67 = .ok (.aload_n 0, 1) := by decide +kernel
theorem dX10_looksHimself_68 : decode cX10_looksHimself 68 = .ok (.iconst 0, 1) := by decide +kernel
theorem dX10_looksHimself_69 : decode cX10_looksHimself 69 = .ok (.aload_n 0, 1) := by decide +kernel
theorem dX10_looksHimself_70 : decode cX10_looksHimself 70 = .ok (.iload_n 1, 1) := by decide +kernel
theorem dX10_looksHimself_71 : decode cX10_looksHimself 71 = .ok (.invokestatic 117, 3) := by decide +kernel
theorem dX10_looksHimself_74 : decode cX10_looksHimself 74 = .ok (.iload_n 1, 1) := by decide +kernel
theorem dX10_looksHimself_75 : decode cX10_looksHimself 75 = .ok (.aload_n 0, 1) := by decide +kernel
theorem dX10_looksHimself_76 : decode cX10_looksHimself 76 = .ok (.iload_n 1, 1) := by decide +kernel
theorem dX10_looksHimself_77 : decode cX10_looksHimself 77 = .ok (.invokestatic 45, 3) := by decide +kernel
theorem dX10_looksHimself_80 : decode cX10_looksHimself 80 = .ok (.iconst 1, 1) := by decide +kernel
theorem dX10_looksHimself_81 : decode cX10_looksHimself 81 = .ok (.isub, 1) := by decide +kernel
theorem dX10_looksHimself_82 : decode cX10_looksHimself 82 = .ok (.invokestatic 120, 3) := by decide +kernel
theorem dX10_looksHimself_85 : decode cX10_looksHimself 85 = .ok (.pop, 1) := by decide +kernel
theorem dX10_looksHimself_86 : decode cX10_looksHimself 86 = .ok (.return_, 1) := by decide +kernel
theorem dX10_looksHimself_87 : decode cX10_looksHimself 87 = .ok (.iinc 1 1, 3) := by decide +kernel
theorem dX10_looksHimself_90 : decode cX10_looksHimself 90 = .ok (.goto (-88), 3) := by decide +kernel
theorem dX10_looksHimself_93 : decode cX10_looksHimself 93 = .ok (.return_, 1) := by decide +kernel
theorem dX10_hour_0 : decode cX10_hour 0 = .ok (.aload_n 0, 1) := by decide +kernel
theorem dX10_hour_1 : decode cX10_hour 1 = .ok (.iconst 3, 1) := by decide +kernel
theorem dX10_hour_2 : decode cX10_hour 2 = .ok (.dup2, 1) := by decide +kernel
theorem dX10_hour_3 : decode cX10_hour 3 = .ok (.iaload, 1) := by decide +kernel
theorem dX10_hour_4 : decode cX10_hour 4 = .ok (.iconst 1, 1) := by decide +kernel
theorem dX10_hour_5 : decode cX10_hour 5 = .ok (.iadd, 1) := by decide +kernel
theorem dX10_hour_6 : decode cX10_hour 6 = .ok (.iastore, 1) := by decide +kernel
theorem dX10_hour_7 : decode cX10_hour 7 = .ok (.iconst 0, 1) := by decide +kernel
theorem dX10_hour_8 : decode cX10_hour 8 = .ok (.istore_n 1, 1) := by decide +kernel
theorem dX10_hour_9 : decode cX10_hour 9 = .ok (.iload_n 1, 1) := by decide +kernel
theorem dX10_hour_10 : decode cX10_hour 10 = .ok (.aload_n 0, 1) := by decide +kernel
theorem dX10_hour_11 : decode cX10_hour 11 = .ok (.iconst 1, 1) := by decide +kernel
theorem dX10_hour_12 : decode cX10_hour 12 = .ok (.iaload, 1) := by decide +kernel
theorem dX10_hour_13 : decode cX10_hour 13 = .ok (.if_icmp .ge 14, 3) := by decide +kernel
theorem dX10_hour_16 : decode cX10_hour 16 = .ok (.aload_n 0, 1) := by decide +kernel
theorem dX10_hour_17 : decode cX10_hour 17 = .ok (.iload_n 1, 1) := by decide +kernel
theorem dX10_hour_18 : decode cX10_hour 18 = .ok (.invokestatic 124, 3) := by decide +kernel
theorem dX10_hour_21 : decode cX10_hour 21 = .ok (.iinc 1 1, 3) := by decide +kernel
theorem dX10_hour_24 : decode cX10_hour 24 = .ok (.goto (-15), 3) := by decide +kernel
theorem dX10_hour_27 : decode cX10_hour 27 = .ok (.aload_n 0, 1) := by decide +kernel
theorem dX10_hour_28 : decode cX10_hour 28 = .ok (.invokestatic 127, 3) := by decide +kernel
theorem dX10_hour_31 : decode cX10_hour 31 = .ok (.aload_n 0, 1) := by decide +kernel
theorem dX10_hour_32 : decode cX10_hour 32 = .ok (.invokestatic 130, 3) := by decide +kernel
theorem dX10_hour_35 : decode cX10_hour 35 = .ok (.aload_n 0, 1) := by decide +kernel
theorem dX10_hour_36 : decode cX10_hour 36 = .ok (.bipush 17, 2) := by decide +kernel
theorem dX10_hour_38 : decode cX10_hour 38 = .ok (.iaload, 1) := by decide +kernel
theorem dX10_hour_39 : decode cX10_hour 39 = .ok (.iconst 1, 1) := by decide +kernel
theorem dX10_hour_40 : decode cX10_hour 40 = .ok (.if_icmp .ne 14, 3) := by decide +kernel
theorem dX10_hour_43 : decode cX10_hour 43 = .ok (.aload_n 0, 1) := by decide +kernel
theorem dX10_hour_44 : decode cX10_hour 44 = .ok (.bipush 8, 2) := by decide +kernel
theorem dX10_hour_46 : decode cX10_hour 46 = .ok (.iaload, 1) := by decide +kernel
theorem dX10_hour_47 : decode cX10_hour 47 = .ok (.ifCond .ne 7, 3) := by decide +kernel
theorem dX10_hour_50 : decode cX10_hour 50 = .ok (.aload_n 0, 1) := by decide +kernel
theorem dX10_hour_51 : decode cX10_hour 51 = .ok (.invokestatic 133, 3) := by decide +kernel
theorem dX10_hour_54 : decode cX10_hour 54 = .ok (.return_, 1) := by decide +kernel
theorem dX10_hoursOn_0 : decode cX10_hoursOn 0 = .ok (.aload_n 0, 1) := by decide +kernel
theorem dX10_hoursOn_1 : decode cX10_hoursOn 1 = .ok (.bipush 10, 2) := by decide +kernel
theorem dX10_hoursOn_3 : decode cX10_hoursOn 3 = .ok (.iaload, 1) := by decide +kernel
theorem dX10_hoursOn_4 : decode cX10_hoursOn 4 = .ok (.istore_n 2, 1) := by decide +kernel
theorem dX10_hoursOn_5 : decode cX10_hoursOn 5 = .ok (.iconst 0, 1) := by decide +kernel
theorem dX10_hoursOn_6 : decode cX10_hoursOn 6 = .ok (.istore_n 3, 1) := by decide +kernel
theorem dX10_hoursOn_7 : decode cX10_hoursOn 7 = .ok (.iload_n 3, 1) := by decide +kernel
theorem dX10_hoursOn_8 : decode cX10_hoursOn 8 = .ok (.iload_n 1, 1) := by decide +kernel
theorem dX10_hoursOn_9 : decode cX10_hoursOn 9 = .ok (.if_icmp .ge 13, 3) := by decide +kernel
theorem dX10_hoursOn_12 : decode cX10_hoursOn 12 = .ok (.aload_n 0, 1) := by decide +kernel
theorem dX10_hoursOn_13 : decode cX10_hoursOn 13 = .ok (.invokestatic 136, 3) := by decide +kernel
theorem dX10_hoursOn_16 : decode cX10_hoursOn 16 = .ok (.iinc 3 1, 3) := by decide +kernel
theorem dX10_hoursOn_19 : decode cX10_hoursOn 19 = .ok (.goto (-12), 3) := by decide +kernel
theorem dX10_hoursOn_22 : decode cX10_hoursOn 22 = .ok (.aload_n 0, 1) := by decide +kernel
theorem dX10_hoursOn_23 : decode cX10_hoursOn 23 = .ok (.bipush 10, 2) := by decide +kernel
theorem dX10_hoursOn_25 : decode cX10_hoursOn 25 = .ok (.iaload, 1) := by decide +kernel
theorem dX10_hoursOn_26 : decode cX10_hoursOn 26 = .ok (.iload_n 2, 1) := by decide +kernel
theorem dX10_hoursOn_27 : decode cX10_hoursOn 27 = .ok (.isub, 1) := by decide +kernel
theorem dX10_hoursOn_28 : decode cX10_hoursOn 28 = .ok (.ireturn, 1) := by decide +kernel
theorem dX10_galleryOn_0 : decode cX10_galleryOn 0 = .ok (.aload_n 0, 1) := by decide +kernel
theorem dX10_galleryOn_1 : decode cX10_galleryOn 1 = .ok (.iconst 0, 1) := by decide +kernel
theorem dX10_galleryOn_2 : decode cX10_galleryOn 2 = .ok (.iaload, 1) := by decide +kernel
theorem dX10_galleryOn_3 : decode cX10_galleryOn 3 = .ok (.istore_n 2, 1) := by decide +kernel
theorem dX10_galleryOn_4 : decode cX10_galleryOn 4 = .ok (.aload_n 0, 1) := by decide +kernel
theorem dX10_galleryOn_5 : decode cX10_galleryOn 5 = .ok (.bipush 18, 2) := by decide +kernel
theorem dX10_galleryOn_7 : decode cX10_galleryOn 7 = .ok (.iconst 2, 1) := by decide +kernel
theorem dX10_galleryOn_8 : decode cX10_galleryOn 8 = .ok (.iload_n 2, 1) := by decide +kernel
theorem dX10_galleryOn_9 : decode cX10_galleryOn 9 = .ok (.imul, 1) := by decide +kernel
theorem dX10_galleryOn_10 : decode cX10_galleryOn 10 = .ok (.iadd, 1) := by decide +kernel
theorem dX10_galleryOn_11 : decode cX10_galleryOn 11 = .ok (.iload_n 1, 1) := by decide +kernel
theorem dX10_galleryOn_12 : decode cX10_galleryOn 12 = .ok (.iastore, 1) := by decide +kernel
theorem dX10_galleryOn_13 : decode cX10_galleryOn 13 = .ok (.aload_n 0, 1) := by decide +kernel
theorem dX10_galleryOn_14 : decode cX10_galleryOn 14 = .ok (.bipush 18, 2) := by decide +kernel
theorem dX10_galleryOn_16 : decode cX10_galleryOn 16 = .ok (.iconst 2, 1) := by decide +kernel
theorem dX10_galleryOn_17 : decode cX10_galleryOn 17 = .ok (.iload_n 2, 1) := by decide +kernel
theorem dX10_galleryOn_18 : decode cX10_galleryOn 18 = .ok (.imul, 1) := by decide +kernel
theorem dX10_galleryOn_19 : decode cX10_galleryOn 19 = .ok (.iadd, 1) := by decide +kernel
theorem dX10_galleryOn_20 : decode cX10_galleryOn 20 = .ok (.iconst 1, 1) := by decide +kernel
theorem dX10_galleryOn_21 : decode cX10_galleryOn 21 = .ok (.iadd, 1) := by decide +kernel
theorem dX10_galleryOn_22 : decode cX10_galleryOn 22 = .ok (.iconst 0, 1) := by decide +kernel
theorem dX10_galleryOn_23 : decode cX10_galleryOn 23 = .ok (.iastore, 1) := by decide +kernel
theorem dX10_galleryOn_24 : decode cX10_galleryOn 24 = .ok (.aload_n 0, 1) := by decide +kernel
theorem dX10_galleryOn_25 : decode cX10_galleryOn 25 = .ok (.iconst 0, 1) := by decide +kernel
theorem dX10_galleryOn_26 : decode cX10_galleryOn 26 = .ok (.dup2, 1) := by decide +kernel
theorem dX10_galleryOn_27 : decode cX10_galleryOn 27 = .ok (.iaload, 1) := by decide +kernel
theorem dX10_galleryOn_28 : decode cX10_galleryOn 28 = .ok (.iconst 1, 1) := by decide +kernel
theorem dX10_galleryOn_29 : decode cX10_galleryOn 29 = .ok (.iadd, 1) := by decide +kernel
theorem dX10_galleryOn_30 : decode cX10_galleryOn 30 = .ok (.iastore, 1) := by decide +kernel
theorem dX10_galleryOn_31 : decode cX10_galleryOn 31 = .ok (.iload_n 2, 1) := by decide +kernel
theorem dX10_galleryOn_32 : decode cX10_galleryOn 32 = .ok (.ireturn, 1) := by decide +kernel
theorem dX10_minerOn_0 : decode cX10_minerOn 0 = .ok (.bipush 24, 2) := by decide +kernel
theorem dX10_minerOn_2 : decode cX10_minerOn 2 = .ok (.iconst 4, 1) := by decide +kernel
theorem dX10_minerOn_3 : decode cX10_minerOn 3 = .ok (.aload_n 0, 1) := by decide +kernel
theorem dX10_minerOn_4 : decode cX10_minerOn 4 = .ok (.iconst 1, 1) := by decide +kernel
theorem dX10_minerOn_5 : decode cX10_minerOn 5 = .ok (.iaload, 1) := by decide +kernel
theorem dX10_minerOn_6 : decode cX10_minerOn 6 = .ok (.imul, 1) := by decide +kernel
theorem dX10_minerOn_7 : decode cX10_minerOn 7 = .ok (.iadd, 1) := by decide +kernel
theorem dX10_minerOn_8 : decode cX10_minerOn 8 = .ok (.istore_n 3, 1) := by decide +kernel
theorem dX10_minerOn_9 : decode cX10_minerOn 9 = .ok (.aload_n 0, 1) := by decide +kernel
theorem dX10_minerOn_10 : decode cX10_minerOn 10 = .ok (.iload_n 3, 1) := by decide +kernel
theorem dX10_minerOn_11 : decode cX10_minerOn 11 = .ok (.iload_n 1, 1) := by decide +kernel
theorem dX10_minerOn_12 : decode cX10_minerOn 12 = .ok (.iastore, 1) := by decide +kernel
theorem dX10_minerOn_13 : decode cX10_minerOn 13 = .ok (.aload_n 0, 1) := by decide +kernel
theorem dX10_minerOn_14 : decode cX10_minerOn 14 = .ok (.iload_n 3, 1) := by decide +kernel
theorem dX10_minerOn_15 : decode cX10_minerOn 15 = .ok (.iconst 1, 1) := by decide +kernel
theorem dX10_minerOn_16 : decode cX10_minerOn 16 = .ok (.iadd, 1) := by decide +kernel
theorem dX10_minerOn_17 : decode cX10_minerOn 17 = .ok (.iload_n 2, 1) := by decide +kernel
theorem dX10_minerOn_18 : decode cX10_minerOn 18 = .ok (.iastore, 1) := by decide +kernel
theorem dX10_minerOn_19 : decode cX10_minerOn 19 = .ok (.aload_n 0, 1) := by decide +kernel
theorem dX10_minerOn_20 : decode cX10_minerOn 20 = .ok (.iload_n 3, 1) := by decide +kernel
theorem dX10_minerOn_21 : decode cX10_minerOn 21 = .ok (.iconst 2, 1) := by decide +kernel
theorem dX10_minerOn_22 : decode cX10_minerOn 22 = .ok (.iadd, 1) := by decide +kernel
theorem dX10_minerOn_23 : decode cX10_minerOn 23 = .ok (.iconst 0, 1) := by decide +kernel
theorem dX10_minerOn_24 : decode cX10_minerOn 24 = .ok (.iastore, 1) := by decide +kernel
theorem dX10_minerOn_25 : decode cX10_minerOn 25 = .ok (.aload_n 0, 1) := by decide +kernel
theorem dX10_minerOn_26 : decode cX10_minerOn 26 = .ok (.iload_n 3, 1) := by decide +kernel
theorem dX10_minerOn_27 : decode cX10_minerOn 27 = .ok (.iconst 3, 1) := by decide +kernel
theorem dX10_minerOn_28 : decode cX10_minerOn 28 = .ok (.iadd, 1) := by decide +kernel
theorem dX10_minerOn_29 : decode cX10_minerOn 29 = .ok (.iconst 0, 1) := by decide +kernel
theorem dX10_minerOn_30 : decode cX10_minerOn 30 = .ok (.iastore, 1) := by decide +kernel
theorem dX10_minerOn_31 : decode cX10_minerOn 31 = .ok (.aload_n 0, 1) := by decide +kernel
theorem dX10_minerOn_32 : decode cX10_minerOn 32 = .ok (.iconst 1, 1) := by decide +kernel
theorem dX10_minerOn_33 : decode cX10_minerOn 33 = .ok (.dup2, 1) := by decide +kernel
theorem dX10_minerOn_34 : decode cX10_minerOn 34 = .ok (.iaload, 1) := by decide +kernel
theorem dX10_minerOn_35 : decode cX10_minerOn 35 = .ok (.iconst 1, 1) := by decide +kernel
theorem dX10_minerOn_36 : decode cX10_minerOn 36 = .ok (.iadd, 1) := by decide +kernel
theorem dX10_minerOn_37 : decode cX10_minerOn 37 = .ok (.iastore, 1) := by decide +kernel
theorem dX10_minerOn_38 : decode cX10_minerOn 38 = .ok (.aload_n 0, 1) := by decide +kernel
theorem dX10_minerOn_39 : decode cX10_minerOn 39 = .ok (.iconst 1, 1) := by decide +kernel
theorem dX10_minerOn_40 : decode cX10_minerOn 40 = .ok (.iaload, 1) := by decide +kernel
theorem dX10_minerOn_41 : decode cX10_minerOn 41 = .ok (.iconst 1, 1) := by decide +kernel
theorem dX10_minerOn_42 : decode cX10_minerOn 42 = .ok (.isub, 1) := by decide +kernel
theorem dX10_minerOn_43 : decode cX10_minerOn 43 = .ok (.ireturn, 1) := by decide +kernel
theorem dX10_lampOn_0 : decode cX10_lampOn 0 = .ok (.bipush 48, 2) := by decide +kernel
theorem dX10_lampOn_2 : decode cX10_lampOn 2 = .ok (.iconst 4, 1) := by decide +kernel
theorem dX10_lampOn_3 : decode cX10_lampOn 3 = .ok (.aload_n 0, 1) := by decide +kernel
theorem dX10_lampOn_4 : decode cX10_lampOn 4 = .ok (.iconst 2, 1) := by decide +kernel
theorem dX10_lampOn_5 : decode cX10_lampOn 5 = .ok (.iaload, 1) := by decide +kernel
theorem dX10_lampOn_6 : decode cX10_lampOn 6 = .ok (.imul, 1) := by decide +kernel
theorem dX10_lampOn_7 : decode cX10_lampOn 7 = .ok (.iadd, 1) := by decide +kernel
theorem dX10_lampOn_8 : decode cX10_lampOn 8 = .ok (.istore 5, 2) := by decide +kernel
theorem dX10_lampOn_10 : decode cX10_lampOn 10 = .ok (.aload_n 0, 1) := by decide +kernel
theorem dX10_lampOn_11 : decode cX10_lampOn 11 = .ok (.iload 5, 2) := by decide +kernel
theorem dX10_lampOn_13 : decode cX10_lampOn 13 = .ok (.iload_n 3, 1) := by decide +kernel
theorem dX10_lampOn_14 : decode cX10_lampOn 14 = .ok (.iastore, 1) := by decide +kernel
theorem dX10_lampOn_15 : decode cX10_lampOn 15 = .ok (.aload_n 0, 1) := by decide +kernel
theorem dX10_lampOn_16 : decode cX10_lampOn 16 = .ok (.iload 5, 2) := by decide +kernel
theorem dX10_lampOn_18 : decode cX10_lampOn 18 = .ok (.iconst 1, 1) := by decide +kernel
theorem dX10_lampOn_19 : decode cX10_lampOn 19 = .ok (.iadd, 1) := by decide +kernel
theorem dX10_lampOn_20 : decode cX10_lampOn 20 = .ok (.iload 4, 2) := by decide +kernel
theorem dX10_lampOn_22 : decode cX10_lampOn 22 = .ok (.iastore, 1) := by decide +kernel
theorem dX10_lampOn_23 : decode cX10_lampOn 23 = .ok (.aload_n 0, 1) := by decide +kernel
theorem dX10_lampOn_24 : decode cX10_lampOn 24 = .ok (.iload 5, 2) := by decide +kernel
theorem dX10_lampOn_26 : decode cX10_lampOn 26 = .ok (.iconst 2, 1) := by decide +kernel
theorem dX10_lampOn_27 : decode cX10_lampOn 27 = .ok (.iadd, 1) := by decide +kernel
theorem dX10_lampOn_28 : decode cX10_lampOn 28 = .ok (.iload_n 1, 1) := by decide +kernel
theorem dX10_lampOn_29 : decode cX10_lampOn 29 = .ok (.iastore, 1) := by decide +kernel
theorem dX10_lampOn_30 : decode cX10_lampOn 30 = .ok (.aload_n 0, 1) := by decide +kernel
theorem dX10_lampOn_31 : decode cX10_lampOn 31 = .ok (.iload 5, 2) := by decide +kernel
theorem dX10_lampOn_33 : decode cX10_lampOn 33 = .ok (.iconst 3, 1) := by decide +kernel
theorem dX10_lampOn_34 : decode cX10_lampOn 34 = .ok (.iadd, 1) := by decide +kernel
theorem dX10_lampOn_35 : decode cX10_lampOn 35 = .ok (.iload_n 2, 1) := by decide +kernel
theorem dX10_lampOn_36 : decode cX10_lampOn 36 = .ok (.iastore, 1) := by decide +kernel
theorem dX10_lampOn_37 : decode cX10_lampOn 37 = .ok (.aload_n 0, 1) := by decide +kernel
theorem dX10_lampOn_38 : decode cX10_lampOn 38 = .ok (.bipush 7, 2) := by decide +kernel
theorem dX10_lampOn_40 : decode cX10_lampOn 40 = .ok (.dup2, 1) := by decide +kernel
theorem dX10_lampOn_41 : decode cX10_lampOn 41 = .ok (.iaload, 1) := by decide +kernel
theorem dX10_lampOn_42 : decode cX10_lampOn 42 = .ok (.iload 4, 2) := by decide +kernel
theorem dX10_lampOn_44 : decode cX10_lampOn 44 = .ok (.iadd, 1) := by decide +kernel
theorem dX10_lampOn_45 : decode cX10_lampOn 45 = .ok (.iastore, 1) := by decide +kernel
theorem dX10_lampOn_46 : decode cX10_lampOn 46 = .ok (.aload_n 0, 1) := by decide +kernel
theorem dX10_lampOn_47 : decode cX10_lampOn 47 = .ok (.iconst 2, 1) := by decide +kernel
theorem dX10_lampOn_48 : decode cX10_lampOn 48 = .ok (.dup2, 1) := by decide +kernel
theorem dX10_lampOn_49 : decode cX10_lampOn 49 = .ok (.iaload, 1) := by decide +kernel
theorem dX10_lampOn_50 : decode cX10_lampOn 50 = .ok (.iconst 1, 1) := by decide +kernel
theorem dX10_lampOn_51 : decode cX10_lampOn 51 = .ok (.iadd, 1) := by decide +kernel
theorem dX10_lampOn_52 : decode cX10_lampOn 52 = .ok (.iastore, 1) := by decide +kernel
theorem dX10_lampOn_53 : decode cX10_lampOn 53 = .ok (.aload_n 0, 1) := by decide +kernel
theorem dX10_lampOn_54 : decode cX10_lampOn 54 = .ok (.iconst 2, 1) := by decide +kernel
theorem dX10_lampOn_55 : decode cX10_lampOn 55 = .ok (.iaload, 1) := by decide +kernel
theorem dX10_lampOn_56 : decode cX10_lampOn 56 = .ok (.iconst 1, 1) := by decide +kernel
theorem dX10_lampOn_57 : decode cX10_lampOn 57 = .ok (.isub, 1) := by decide +kernel
theorem dX10_lampOn_58 : decode cX10_lampOn 58 = .ok (.ireturn, 1) := by decide +kernel
theorem dX10_storeOn_0 : decode cX10_storeOn 0 = .ok (.aload_n 0, 1) := by decide +kernel
theorem dX10_storeOn_1 : decode cX10_storeOn 1 = .ok (.iconst 4, 1) := by decide +kernel
theorem dX10_storeOn_2 : decode cX10_storeOn 2 = .ok (.dup2, 1) := by decide +kernel
theorem dX10_storeOn_3 : decode cX10_storeOn 3 = .ok (.iaload, 1) := by decide +kernel
theorem dX10_storeOn_4 : decode cX10_storeOn 4 = .ok (.iload_n 1, 1) := by decide +kernel
theorem dX10_storeOn_5 : decode cX10_storeOn 5 = .ok (.iadd, 1) := by decide +kernel
theorem dX10_storeOn_6 : decode cX10_storeOn 6 = .ok (.iastore, 1) := by decide +kernel
theorem dX10_storeOn_7 : decode cX10_storeOn 7 = .ok (.aload_n 0, 1) := by decide +kernel
theorem dX10_storeOn_8 : decode cX10_storeOn 8 = .ok (.bipush 7, 2) := by decide +kernel
theorem dX10_storeOn_10 : decode cX10_storeOn 10 = .ok (.dup2, 1) := by decide +kernel
theorem dX10_storeOn_11 : decode cX10_storeOn 11 = .ok (.iaload, 1) := by decide +kernel
theorem dX10_storeOn_12 : decode cX10_storeOn 12 = .ok (.iload_n 1, 1) := by decide +kernel
theorem dX10_storeOn_13 : decode cX10_storeOn 13 = .ok (.iadd, 1) := by decide +kernel
theorem dX10_storeOn_14 : decode cX10_storeOn 14 = .ok (.iastore, 1) := by decide +kernel
theorem dX10_storeOn_15 : decode cX10_storeOn 15 = .ok (.aload_n 0, 1) := by decide +kernel
theorem dX10_storeOn_16 : decode cX10_storeOn 16 = .ok (.iconst 4, 1) := by decide +kernel
theorem dX10_storeOn_17 : decode cX10_storeOn 17 = .ok (.iaload, 1) := by decide +kernel
theorem dX10_storeOn_18 : decode cX10_storeOn 18 = .ok (.ireturn, 1) := by decide +kernel
theorem dX10_orderOn_0 : decode cX10_orderOn 0 = .ok (.bipush 80, 2) := by decide +kernel
theorem dX10_orderOn_2 : decode cX10_orderOn 2 = .ok (.iconst 4, 1) := by decide +kernel
theorem dX10_orderOn_3 : decode cX10_orderOn 3 = .ok (.aload_n 0, 1) := by decide +kernel
theorem dX10_orderOn_4 : decode cX10_orderOn 4 = .ok (.bipush 8, 2) := by decide +kernel
theorem dX10_orderOn_6 : decode cX10_orderOn 6 = .ok (.iaload, 1) := by decide +kernel
theorem dX10_orderOn_7 : decode cX10_orderOn 7 = .ok (.imul, 1) := by decide +kernel
theorem dX10_orderOn_8 : decode cX10_orderOn 8 = .ok (.iadd, 1) := by decide +kernel
theorem dX10_orderOn_9 : decode cX10_orderOn 9 = .ok (.istore 5, 2) := by decide +kernel
theorem dX10_orderOn_11 : decode cX10_orderOn 11 = .ok (.aload_n 0, 1) := by decide +kernel
theorem dX10_orderOn_12 : decode cX10_orderOn 12 = .ok (.iload 5, 2) := by decide +kernel
theorem dX10_orderOn_14 : decode cX10_orderOn 14 = .ok (.iload_n 1, 1) := by decide +kernel
theorem dX10_orderOn_15 : decode cX10_orderOn 15 = .ok (.iastore, 1) := by decide +kernel
theorem dX10_orderOn_16 : decode cX10_orderOn 16 = .ok (.aload_n 0, 1) := by decide +kernel
theorem dX10_orderOn_17 : decode cX10_orderOn 17 = .ok (.iload 5, 2) := by decide +kernel
theorem dX10_orderOn_19 : decode cX10_orderOn 19 = .ok (.iconst 1, 1) := by decide +kernel
theorem dX10_orderOn_20 : decode cX10_orderOn 20 = .ok (.iadd, 1) := by decide +kernel
theorem dX10_orderOn_21 : decode cX10_orderOn 21 = .ok (.iload_n 2, 1) := by decide +kernel
theorem dX10_orderOn_22 : decode cX10_orderOn 22 = .ok (.iastore, 1) := by decide +kernel
theorem dX10_orderOn_23 : decode cX10_orderOn 23 = .ok (.aload_n 0, 1) := by decide +kernel
theorem dX10_orderOn_24 : decode cX10_orderOn 24 = .ok (.iload 5, 2) := by decide +kernel
theorem dX10_orderOn_26 : decode cX10_orderOn 26 = .ok (.iconst 2, 1) := by decide +kernel
theorem dX10_orderOn_27 : decode cX10_orderOn 27 = .ok (.iadd, 1) := by decide +kernel
theorem dX10_orderOn_28 : decode cX10_orderOn 28 = .ok (.iload_n 3, 1) := by decide +kernel
theorem dX10_orderOn_29 : decode cX10_orderOn 29 = .ok (.iastore, 1) := by decide +kernel
theorem dX10_orderOn_30 : decode cX10_orderOn 30 = .ok (.aload_n 0, 1) := by decide +kernel
theorem dX10_orderOn_31 : decode cX10_orderOn 31 = .ok (.iload 5, 2) := by decide +kernel
theorem dX10_orderOn_33 : decode cX10_orderOn 33 = .ok (.iconst 3, 1) := by decide +kernel
theorem dX10_orderOn_34 : decode cX10_orderOn 34 = .ok (.iadd, 1) := by decide +kernel
theorem dX10_orderOn_35 : decode cX10_orderOn 35 = .ok (.iload 4, 2) := by decide +kernel
theorem dX10_orderOn_37 : decode cX10_orderOn 37 = .ok (.iastore, 1) := by decide +kernel
theorem dX10_orderOn_38 : decode cX10_orderOn 38 = .ok (.aload_n 0, 1) := by decide +kernel
theorem dX10_orderOn_39 : decode cX10_orderOn 39 = .ok (.bipush 8, 2) := by decide +kernel
theorem dX10_orderOn_41 : decode cX10_orderOn 41 = .ok (.dup2, 1) := by decide +kernel
theorem dX10_orderOn_42 : decode cX10_orderOn 42 = .ok (.iaload, 1) := by decide +kernel
theorem dX10_orderOn_43 : decode cX10_orderOn 43 = .ok (.iconst 1, 1) := by decide +kernel
theorem dX10_orderOn_44 : decode cX10_orderOn 44 = .ok (.iadd, 1) := by decide +kernel
theorem dX10_orderOn_45 : decode cX10_orderOn 45 = .ok (.iastore, 1) := by decide +kernel
theorem dX10_orderOn_46 : decode cX10_orderOn 46 = .ok (.aload_n 0, 1) := by decide +kernel
theorem dX10_orderOn_47 : decode cX10_orderOn 47 = .ok (.bipush 8, 2) := by decide +kernel
theorem dX10_orderOn_49 : decode cX10_orderOn 49 = .ok (.iaload, 1) := by decide +kernel
theorem dX10_orderOn_50 : decode cX10_orderOn 50 = .ok (.ireturn, 1) := by decide +kernel
theorem dX10_canMiner_0 : decode cX10_canMiner 0 = .ok (.aload_n 0, 1) := by decide +kernel
theorem dX10_canMiner_1 : decode cX10_canMiner 1 = .ok (.iload_n 1, 1) := by decide +kernel
theorem dX10_canMiner_2 : decode cX10_canMiner 2 = .ok (.invokestatic 41, 3) := by decide +kernel
theorem dX10_canMiner_5 : decode cX10_canMiner 5 = .ok (.ifCond .eq 15, 3) := by decide +kernel
theorem dX10_canMiner_8 : decode cX10_canMiner 8 = .ok (.aload_n 0, 1) := by decide +kernel
theorem dX10_canMiner_9 : decode cX10_canMiner 9 = .ok (.iconst 1, 1) := by decide +kernel
theorem dX10_canMiner_10 : decode cX10_canMiner 10 = .ok (.iaload, 1) := by decide +kernel
theorem dX10_canMiner_11 : decode cX10_canMiner 11 = .ok (.bipush 6, 2) := by decide +kernel
theorem dX10_canMiner_13 : decode cX10_canMiner 13 = .ok (.if_icmp .ge 7, 3) := by decide +kernel
theorem dX10_canMiner_16 : decode cX10_canMiner 16 = .ok (.iconst 1, 1) := by decide +kernel
theorem dX10_canMiner_17 : decode cX10_canMiner 17 = .ok (.goto 4, 3) := by decide +kernel
theorem dX10_canMiner_20 : decode cX10_canMiner 20 = .ok (.iconst 0, 1) := by decide +kernel
theorem dX10_canMiner_21 : decode cX10_canMiner 21 = .ok (.ireturn, 1) := by decide +kernel
theorem dX10_canLamp_0 : decode cX10_canLamp 0 = .ok (.aload_n 0, 1) := by decide +kernel
theorem dX10_canLamp_1 : decode cX10_canLamp 1 = .ok (.iload_n 1, 1) := by decide +kernel
theorem dX10_canLamp_2 : decode cX10_canLamp 2 = .ok (.iload_n 2, 1) := by decide +kernel
theorem dX10_canLamp_3 : decode cX10_canLamp 3 = .ok (.invokestatic 139, 3) := by decide +kernel
theorem dX10_canLamp_6 : decode cX10_canLamp 6 = .ok (.ifCond .eq 15, 3) := by decide +kernel
theorem dX10_canLamp_9 : decode cX10_canLamp 9 = .ok (.aload_n 0, 1) := by decide +kernel
theorem dX10_canLamp_10 : decode cX10_canLamp 10 = .ok (.iconst 2, 1) := by decide +kernel
theorem dX10_canLamp_11 : decode cX10_canLamp 11 = .ok (.iaload, 1) := by decide +kernel
theorem dX10_canLamp_12 : decode cX10_canLamp 12 = .ok (.bipush 8, 2) := by decide +kernel
theorem dX10_canLamp_14 : decode cX10_canLamp 14 = .ok (.if_icmp .ge 7, 3) := by decide +kernel
theorem dX10_canLamp_17 : decode cX10_canLamp 17 = .ok (.iconst 1, 1) := by decide +kernel
theorem dX10_canLamp_18 : decode cX10_canLamp 18 = .ok (.goto 4, 3) := by decide +kernel
theorem dX10_canLamp_21 : decode cX10_canLamp 21 = .ok (.iconst 0, 1) := by decide +kernel
theorem dX10_canLamp_22 : decode cX10_canLamp 22 = .ok (.ireturn, 1) := by decide +kernel
theorem dX10_canHang_0 : decode cX10_canHang 0 = .ok (.aload_n 0, 1) := by decide +kernel
theorem dX10_canHang_1 : decode cX10_canHang 1 = .ok (.iload_n 1, 1) := by decide +kernel
theorem dX10_canHang_2 : decode cX10_canHang 2 = .ok (.invokestatic 142, 3) := by decide +kernel
theorem dX10_canHang_5 : decode cX10_canHang 5 = .ok (.ifCond .eq 25, 3) := by decide +kernel
theorem dX10_canHang_8 : decode cX10_canHang 8 = .ok (.aload_n 0, 1) := by decide +kernel
theorem dX10_canHang_9 : decode cX10_canHang 9 = .ok (.iload_n 2, 1) := by decide +kernel
theorem dX10_canHang_10 : decode cX10_canHang 10 = .ok (.iload_n 3, 1) := by decide +kernel
theorem dX10_canHang_11 : decode cX10_canHang 11 = .ok (.invokestatic 139, 3) := by decide +kernel
theorem dX10_canHang_14 : decode cX10_canHang 14 = .ok (.ifCond .eq 16, 3) := by decide +kernel
theorem dX10_canHang_17 : decode cX10_canHang 17 = .ok (.aload_n 0, 1) := by decide +kernel
theorem dX10_canHang_18 : decode cX10_canHang 18 = .ok (.bipush 8, 2) := by decide +kernel
theorem dX10_canHang_20 : decode cX10_canHang 20 = .ok (.iaload, 1) := by decide +kernel
theorem dX10_canHang_21 : decode cX10_canHang 21 = .ok (.bipush 6, 2) := by decide +kernel
theorem dX10_canHang_23 : decode cX10_canHang 23 = .ok (.if_icmp .ge 7, 3) := by decide +kernel
theorem dX10_canHang_26 : decode cX10_canHang 26 = .ok (.iconst 1, 1) := by decide +kernel
theorem dX10_canHang_27 : decode cX10_canHang 27 = .ok (.goto 4, 3) := by decide +kernel
theorem dX10_canHang_30 : decode cX10_canHang 30 = .ok (.iconst 0, 1) := by decide +kernel
theorem dX10_canHang_31 : decode cX10_canHang 31 = .ok (.ireturn, 1) := by decide +kernel
theorem dX10_canFill_0 : decode cX10_canFill 0 = .ok (.aload_n 0, 1) := by decide +kernel
theorem dX10_canFill_1 : decode cX10_canFill 1 = .ok (.iload_n 1, 1) := by decide +kernel
theorem dX10_canFill_2 : decode cX10_canFill 2 = .ok (.invokestatic 142, 3) := by decide +kernel
theorem dX10_canFill_5 : decode cX10_canFill 5 = .ok (.ifCond .eq 28, 3) := by decide +kernel
theorem dX10_canFill_8 : decode cX10_canFill 8 = .ok (.iload_n 2, 1) := by decide +kernel
theorem dX10_canFill_9 : decode cX10_canFill 9 = .ok (.i2l, 1) := by decide +kernel
theorem dX10_canFill_10 : decode cX10_canFill 10 = .ok (.lconst 1, 1) := by decide +kernel
theorem dX10_canFill_11 : decode cX10_canFill 11 = .ok (.ldc2_w 145, 3) := by decide +kernel
theorem dX10_canFill_14 : decode cX10_canFill 14 = .ok (.invokestatic 37, 3) := by decide +kernel
theorem dX10_canFill_17 : decode cX10_canFill 17 = .ok (.ifCond .eq 16, 3) := by decide +kernel
theorem dX10_canFill_20 : decode cX10_canFill 20 = .ok (.aload_n 0, 1) := by decide +kernel
theorem dX10_canFill_21 : decode cX10_canFill 21 = .ok (.bipush 8, 2) := by decide +kernel
theorem dX10_canFill_23 : decode cX10_canFill 23 = .ok (.iaload, 1) := by decide +kernel
theorem dX10_canFill_24 : decode cX10_canFill 24 = .ok (.bipush 6, 2) := by decide +kernel
theorem dX10_canFill_26 : decode cX10_canFill 26 = .ok (.if_icmp .ge 7, 3) := by decide +kernel
theorem dX10_canFill_29 : decode cX10_canFill 29 = .ok (.iconst 1, 1) := by decide +kernel
theorem dX10_canFill_30 : decode cX10_canFill 30 = .ok (.goto 4, 3) := by decide +kernel
theorem dX10_canFill_33 : decode cX10_canFill 33 = .ok (.iconst 0, 1) := by decide +kernel
theorem dX10_canFill_34 : decode cX10_canFill 34 = .ok (.ireturn, 1) := by decide +kernel
theorem dX10_change_0 : decode cX10_change 0 = .ok (.aload_n 0, 1) := by decide +kernel
theorem dX10_change_1 : decode cX10_change 1 = .ok (.iload_n 1, 1) := by decide +kernel
theorem dX10_change_2 : decode cX10_change 2 = .ok (.iaload, 1) := by decide +kernel
theorem dX10_change_3 : decode cX10_change 3 = .ok (.istore_n 3, 1) := by decide +kernel
theorem dX10_change_4 : decode cX10_change 4 = .ok (.aload_n 0, 1) := by decide +kernel
theorem dX10_change_5 : decode cX10_change 5 = .ok (.iload_n 1, 1) := by decide +kernel
theorem dX10_change_6 : decode cX10_change 6 = .ok (.iload_n 2, 1) := by decide +kernel
theorem dX10_change_7 : decode cX10_change 7 = .ok (.iastore, 1) := by decide +kernel
theorem dX10_change_8 : decode cX10_change 8 = .ok (.iload_n 3, 1) := by decide +kernel
theorem dX10_change_9 : decode cX10_change 9 = .ok (.ireturn, 1) := by decide +kernel
theorem dX10_append_0 : decode cX10_append 0 = .ok (.aload_n 0, 1) := by decide +kernel
theorem dX10_append_1 : decode cX10_append 1 = .ok (.iload_n 1, 1) := by decide +kernel
theorem dX10_append_2 : decode cX10_append 2 = .ok (.i2l, 1) := by decide +kernel
theorem dX10_append_3 : decode cX10_append 3 = .ok (.lconst 0, 1) := by decide +kernel
theorem dX10_append_4 : decode cX10_append 4 = .ok (.ldc2_w 147, 3) := by decide +kernel
theorem dX10_append_7 : decode cX10_append 7 = .ok (.invokestatic 37, 3) := by decide +kernel
theorem dX10_append_10 : decode cX10_append 10 = .ok (.ifCond .ne 7, 3) := by decide +kernel
theorem dX10_append_13 : decode cX10_append 13 = .ok (.iconst 1, 1) := by decide +kernel
theorem dX10_append_14 : decode cX10_append 14 = .ok (.goto 17, 3) := by decide +kernel
theorem dX10_append_17 : decode cX10_append 17 = .ok (.aload_n 0, 1) := by decide +kernel
theorem dX10_append_18 : decode cX10_append 18 = .ok (.getfield 149, 3) := by decide +kernel
theorem dX10_append_21 : decode cX10_append 21 = .ok (.bipush 120, 2) := by decide +kernel
theorem dX10_append_23 : decode cX10_append 23 = .ok (.if_icmp .ne 7, 3) := by decide +kernel
theorem dX10_append_26 : decode cX10_append 26 = .ok (.iconst 2, 1) := by decide +kernel
theorem dX10_append_27 : decode cX10_append 27 = .ok (.goto 4, 3) := by decide +kernel
theorem dX10_append_30 : decode cX10_append 30 = .ok (.iconst 0, 1) := by decide +kernel
theorem dX10_append_31 : decode cX10_append 31 = .ok (.invokevirtual 152, 3) := by decide +kernel
theorem dX10_append_34 : decode cX10_append 34 = .ok (.ifCond .eq 5, 3) := by decide +kernel
theorem dX10_append_37 : decode cX10_append 37 = .ok (.iconst 0, 1) := by decide +kernel
theorem dX10_append_38 : decode cX10_append 38 = .ok (.ireturn, 1) := by decide +kernel
theorem dX10_append_39 : decode cX10_append 39 = .ok (.aload_n 0, 1) := by decide +kernel
theorem dX10_append_40 : decode cX10_append 40 = .ok (.getfield 7, 3) := by decide +kernel
theorem dX10_append_43 : decode cX10_append 43 = .ok (.aload_n 0, 1) := by decide +kernel
theorem dX10_append_44 : decode cX10_append 44 = .ok (.getfield 149, 3) := by decide +kernel
theorem dX10_append_47 : decode cX10_append 47 = .ok (.iload_n 1, 1) := by decide +kernel
theorem dX10_append_48 : decode cX10_append 48 = .ok (.iastore, 1) := by decide +kernel
theorem dX10_append_49 : decode cX10_append 49 = .ok (.aload_n 0, 1) := by decide +kernel
theorem dX10_append_50 : decode cX10_append 50 = .ok (.dup, 1) := by decide +kernel
theorem dX10_append_51 : decode cX10_append 51 = .ok (.getfield 149, 3) := by decide +kernel
theorem dX10_append_54 : decode cX10_append 54 = .ok (.iconst 1, 1) := by decide +kernel
theorem dX10_append_55 : decode cX10_append 55 = .ok (.iadd, 1) := by decide +kernel
theorem dX10_append_56 : decode cX10_append 56 = .ok (.putfield 149, 3) := by decide +kernel
theorem dX10_append_59 : decode cX10_append 59 = .ok (.aload_n 0, 1) := by decide +kernel
theorem dX10_append_60 : decode cX10_append 60 = .ok (.getfield 149, 3) := by decide +kernel
theorem dX10_append_63 : decode cX10_append 63 = .ok (.ireturn, 1) := by decide +kernel
theorem dX10_clearText_0 : decode cX10_clearText 0 = .ok (.aload_n 0, 1) := by decide +kernel
theorem dX10_clearText_1 : decode cX10_clearText 1 = .ok (.iconst 0, 1) := by decide +kernel
theorem dX10_clearText_2 : decode cX10_clearText 2 = .ok (.putfield 33, 3) := by decide +kernel
theorem dX10_clearText_5 : decode cX10_clearText 5 = .ok (.aload_n 0, 1) := by decide +kernel
theorem dX10_clearText_6 : decode cX10_clearText 6 = .ok (.getfield 149, 3) := by decide +kernel
theorem dX10_clearText_9 : decode cX10_clearText 9 = .ok (.istore_n 1, 1) := by decide +kernel
theorem dX10_clearText_10 : decode cX10_clearText 10 = .ok (.aload_n 0, 1) := by decide +kernel
theorem dX10_clearText_11 : decode cX10_clearText 11 = .ok (.iconst 0, 1) := by decide +kernel
theorem dX10_clearText_12 : decode cX10_clearText 12 = .ok (.putfield 149, 3) := by decide +kernel
theorem dX10_clearText_15 : decode cX10_clearText 15 = .ok (.iload_n 1, 1) := by decide +kernel
theorem dX10_clearText_16 : decode cX10_clearText 16 = .ok (.ireturn, 1) := by decide +kernel
theorem dX10_figures_0 : decode cX10_figures 0 = .ok (.iconst 0, 1) := by decide +kernel
theorem dX10_figures_1 : decode cX10_figures 1 = .ok (.istore 5, 2) := by decide +kernel
theorem dX10_figures_3 : decode cX10_figures 3 = .ok (.iload_n 2, 1) := by decide +kernel
theorem dX10_figures_4 : decode cX10_figures 4 = .ok (.iconst 3, 1) := by decide +kernel
theorem dX10_figures_5 : decode cX10_figures 5 = .ok (.if_icmp .ne 8, 3) := by decide +kernel
theorem dX10_figures_8 : decode cX10_figures 8 = .ok (.bipush 100, 2) := by decide +kernel
theorem dX10_figures_10 : decode cX10_figures 10 = .ok (.goto 14, 3) := by decide +kernel
theorem dX10_figures_13 : decode cX10_figures 13 = .ok (.iload_n 2, 1) := by decide +kernel
theorem dX10_figures_14 : decode cX10_figures 14 = .ok (.iconst 2, 1) := by decide +kernel
theorem dX10_figures_15 : decode cX10_figures 15 = .ok (.if_icmp .ne 8, 3) := by decide +kernel
theorem dX10_figures_18 : decode cX10_figures 18 = .ok (.bipush 10, 2) := by decide +kernel
theorem dX10_figures_20 : decode cX10_figures 20 = .ok (.goto 4, 3) := by decide +kernel
theorem dX10_figures_23 : decode cX10_figures 23 = .ok (.iconst 1, 1) := by decide +kernel
theorem dX10_figures_24 : decode cX10_figures 24 = .ok (.istore 6, 2) := by decide +kernel
theorem dX10_figures_26 : decode cX10_figures 26 = .ok (.iload 6, 2) := by decide +kernel
theorem dX10_figures_28 : decode cX10_figures 28 = .ok (.ifCond .le 104, 3) := by decide +kernel
theorem dX10_figures_31 : decode cX10_figures 31 = .ok (.iload_n 1, 1) := by decide +kernel
theorem dX10_figures_32 : decode cX10_figures 32 = .ok (.iconst (-1), 1) := by decide +kernel
theorem dX10_figures_33 : decode cX10_figures 33 = .ok (.if_icmp .eq 99, 3) := by decide +kernel
theorem dX10_figures_36 : decode cX10_figures 36 = .ok (.aload_n 0, 1) := by decide +kernel
theorem dX10_figures_37 : decode cX10_figures 37 = .ok (.getfield 156, 3) := by decide +kernel
theorem dX10_figures_40 : decode cX10_figures 40 = .ok (.aload_n 0, 1) := by decide +kernel
theorem dX10_figures_41 : decode cX10_figures 41 = .ok (.getfield 149, 3) := by decide +kernel
theorem dX10_figures_44 : decode cX10_figures 44 = .ok (.if_icmp .ge 18, 3) := by decide +kernel
theorem dX10_figures_47 : decode cX10_figures 47 = .ok (.aload_n 0, 1) := by decide +kernel
theorem dX10_figures_48 : decode cX10_figures 48 = .ok (.getfield 7, 3) := by decide +kernel
theorem dX10_figures_51 : decode cX10_figures 51 = .ok (.aload_n 0, 1) := by decide +kernel
theorem dX10_figures_52 : decode cX10_figures 52 = .ok (.getfield 156, 3) := by decide +kernel
theorem dX10_figures_55 : decode cX10_figures 55 = .ok (.iaload, 1) := by decide +kernel
theorem dX10_figures_56 : decode cX10_figures 56 = .ok (.bipush 48, 2) := by decide +kernel
theorem dX10_figures_58 : decode cX10_figures 58 = .ok (.isub, 1) := by decide +kernel
theorem dX10_figures_59 : decode cX10_figures 59 = .ok (.goto 4, 3) := by decide +kernel
theorem dX10_figures_62 : decode cX10_figures 62 = .ok (.iconst (-1), 1) := by decide +kernel
theorem dX10_figures_63 : decode cX10_figures 63 = .ok (.istore 7, 2) := by decide +kernel
theorem dX10_figures_65 : decode cX10_figures 65 = .ok (.iload 5, 2) := by decide +kernel
theorem dX10_figures_67 : decode cX10_figures 67 = .ok (.iload 7, 2) := by decide +kernel
theorem dX10_figures_69 : decode cX10_figures 69 = .ok (.iload 6, 2) := by decide +kernel
theorem dX10_figures_71 : decode cX10_figures 71 = .ok (.imul, 1) := by decide +kernel
theorem dX10_figures_72 : decode cX10_figures 72 = .ok (.iadd, 1) := by decide +kernel
theorem dX10_figures_73 : decode cX10_figures 73 = .ok (.istore 8, 2) := by decide +kernel
theorem dX10_figures_75 : decode cX10_figures 75 = .ok (.iload 7, 2) := by decide +kernel
theorem dX10_figures_77 : decode cX10_figures 77 = .ok (.i2l, 1) := by decide +kernel
theorem dX10_figures_78 : decode cX10_figures 78 = .ok (.lconst 0, 1) := by decide +kernel
theorem dX10_figures_79 : decode cX10_figures 79 = .ok (.ldc2_w 159, 3) := by decide +kernel
theorem dX10_figures_82 : decode cX10_figures 82 = .ok (.invokestatic 37, 3) := by decide +kernel
theorem dX10_figures_85 : decode cX10_figures 85 = .ok (.ifCond .eq 21, 3) := by decide +kernel
theorem dX10_figures_88 : decode cX10_figures 88 = .ok (.iload 8, 2) := by decide +kernel
theorem dX10_figures_90 : decode cX10_figures 90 = .ok (.iload 4, 2) := by decide +kernel
theorem dX10_figures_92 : decode cX10_figures 92 = .ok (.if_icmp .gt 14, 3) := by decide +kernel
theorem dX10_figures_95 : decode cX10_figures 95 = .ok (.iload 8, 2) := by decide +kernel
theorem dX10_figures_97 : decode cX10_figures 97 = .ok (.iload 6, 2) := by decide +kernel
theorem dX10_figures_99 : decode cX10_figures 99 = .ok (.iadd, 1) := by decide +kernel
theorem dX10_figures_100 : decode cX10_figures 100 = .ok (.iconst 1, 1) := by decide +kernel
theorem dX10_figures_101 : decode cX10_figures 101 = .ok (.isub, 1) := by decide +kernel
theorem dX10_figures_102 : decode cX10_figures 102 = .ok (.iload_n 3, 1) := by decide +kernel
theorem dX10_figures_103 : decode cX10_figures 103 = .ok (.if_icmp .ge 5, 3) := by decide +kernel
theorem dX10_figures_106 : decode cX10_figures 106 = .ok (.iconst (-1), 1) := by decide +kernel
theorem dX10_figures_107 : decode cX10_figures 107 = .ok (.ireturn, 1) := by decide +kernel
theorem dX10_figures_108 : decode cX10_figures 108 = .ok (.iload 8, 2) := by decide +kernel
theorem dX10_figures_110 : decode cX10_figures 110 = .ok (.istore 5, 2) := by decide +kernel
theorem dX10_figures_112 : decode cX10_figures 112 = .ok (.aload_n 0, 1) := by decide +kernel
theorem dX10_figures_113 : decode cX10_figures 113 = .ok (.dup, 1) := by decide +kernel
theorem dX10_figures_114 : decode cX10_figures 114 = .ok (.getfield 156, 3) := by decide +kernel
theorem dX10_figures_117 : decode cX10_figures 117 = .ok (.iconst 1, 1) := by decide +kernel
theorem dX10_figures_118 : decode cX10_figures 118 = .ok (.iadd, 1) := by decide +kernel
theorem dX10_figures_119 : decode cX10_figures 119 = .ok (.putfield 156, 3) := by decide +kernel
theorem dX10_figures_122 : decode cX10_figures 122 = .ok (.iload 6, 2) := by decide +kernel
theorem dX10_figures_124 : decode cX10_figures 124 = .ok (.bipush 10, 2) := by decide +kernel
theorem dX10_figures_126 : decode cX10_figures 126 = .ok (.idiv, 1) := by decide +kernel
theorem dX10_figures_127 : decode cX10_figures 127 = .ok (.istore 6, 2) := by decide +kernel
theorem dX10_figures_129 : decode cX10_figures 129 = .ok (.goto (-103), 3) := by decide +kernel
theorem dX10_figures_132 : decode cX10_figures 132 = .ok (.iload_n 1, 1) := by decide +kernel
theorem dX10_figures_133 : decode cX10_figures 133 = .ok (.iconst (-1), 1) := by decide +kernel
theorem dX10_figures_134 : decode cX10_figures 134 = .ok (.if_icmp .ne 7, 3) := by decide +kernel
theorem dX10_figures_137 : decode cX10_figures 137 = .ok (.iconst (-1), 1) := by decide +kernel
theorem dX10_figures_138 : decode cX10_figures 138 = .ok (.goto 5, 3) := by decide +kernel
theorem dX10_figures_141 : decode cX10_figures 141 = .ok (.iload 5, 2) := by decide +kernel
theorem dX10_figures_143 : decode cX10_figures 143 = .ok (.ireturn, 1) := by decide +kernel
theorem dX10_done_0 : decode cX10_done 0 = .ok (.aload_n 0, 1) := by decide +kernel
theorem dX10_done_1 : decode cX10_done 1 = .ok (.dup, 1) := by decide +kernel
theorem dX10_done_2 : decode cX10_done 2 = .ok (.getfield 161, 3) := by decide +kernel
theorem dX10_done_5 : decode cX10_done 5 = .ok (.iload_n 1, 1) := by decide +kernel
theorem dX10_done_6 : decode cX10_done 6 = .ok (.ifCond .eq 7, 3) := by decide +kernel
theorem dX10_done_9 : decode cX10_done 9 = .ok (.iconst 0, 1) := by decide +kernel
theorem dX10_done_10 : decode cX10_done 10 = .ok (.goto 4, 3) := by decide +kernel
theorem dX10_done_13 : decode cX10_done 13 = .ok (.iconst 1, 1) := by decide +kernel
theorem dX10_done_14 : decode cX10_done 14 = .ok (.iadd, 1) := by decide +kernel
theorem dX10_done_15 : decode cX10_done 15 = .ok (.putfield 161, 3) := by decide +kernel
theorem dX10_done_18 : decode cX10_done 18 = .ok (.iconst 1, 1) := by decide +kernel
theorem dX10_done_19 : decode cX10_done 19 = .ok (.ireturn, 1) := by decide +kernel
theorem dX10_gallerySign_0 : decode cX10_gallerySign 0 = .ok (.aload_n 0, 1) := by decide +kernel
theorem dX10_gallerySign_1 : decode cX10_gallerySign 1 = .ok (.iload_n 1, 1) := by decide +kernel
theorem dX10_gallerySign_2 : decode cX10_gallerySign 2 = .ok (.iconst 1, 1) := by decide +kernel
theorem dX10_gallerySign_3 : decode cX10_gallerySign 3 = .ok (.iconst 0, 1) := by decide +kernel
theorem dX10_gallerySign_4 : decode cX10_gallerySign 4 = .ok (.iconst 2, 1) := by decide +kernel
theorem dX10_gallerySign_5 : decode cX10_gallerySign 5 = .ok (.invokevirtual 164, 3) := by decide +kernel
theorem dX10_gallerySign_8 : decode cX10_gallerySign 8 = .ok (.ireturn, 1) := by decide +kernel
theorem dX10_cellSign_0 : decode cX10_cellSign 0 = .ok (.aload_n 0, 1) := by decide +kernel
theorem dX10_cellSign_1 : decode cX10_cellSign 1 = .ok (.iload_n 1, 1) := by decide +kernel
theorem dX10_cellSign_2 : decode cX10_cellSign 2 = .ok (.iconst 2, 1) := by decide +kernel
theorem dX10_cellSign_3 : decode cX10_cellSign 3 = .ok (.iconst 0, 1) := by decide +kernel
theorem dX10_cellSign_4 : decode cX10_cellSign 4 = .ok (.bipush 59, 2) := by decide +kernel
theorem dX10_cellSign_6 : decode cX10_cellSign 6 = .ok (.invokevirtual 164, 3) := by decide +kernel
theorem dX10_cellSign_9 : decode cX10_cellSign 9 = .ok (.ireturn, 1) := by decide +kernel
theorem dX10_lampSign_0 : decode cX10_lampSign 0 = .ok (.aload_n 0, 1) := by decide +kernel
theorem dX10_lampSign_1 : decode cX10_lampSign 1 = .ok (.iload_n 1, 1) := by decide +kernel
theorem dX10_lampSign_2 : decode cX10_lampSign 2 = .ok (.iconst 1, 1) := by decide +kernel
theorem dX10_lampSign_3 : decode cX10_lampSign 3 = .ok (.iconst 0, 1) := by decide +kernel
theorem dX10_lampSign_4 : decode cX10_lampSign 4 = .ok (.bipush 7, 2) := by decide +kernel
theorem dX10_lampSign_6 : decode cX10_lampSign 6 = .ok (.invokevirtual 164, 3) := by decide +kernel
theorem dX10_lampSign_9 : decode cX10_lampSign 9 = .ok (.ireturn, 1) := by decide +kernel
theorem dX10_readLamp_0 : decode cX10_readLamp 0 = .ok (.aload_n 0, 1) := by decide +kernel
theorem dX10_readLamp_1 : decode cX10_readLamp 1 = .ok (.iconst 0, 1) := by decide +kernel
theorem dX10_readLamp_2 : decode cX10_readLamp 2 = .ok (.invokevirtual 167, 3) := by decide +kernel
theorem dX10_readLamp_5 : decode cX10_readLamp 5 = .ok (.istore_n 2, 1) := by decide +kernel
theorem dX10_readLamp_6 : decode cX10_readLamp 6 = .ok (.aload_n 0, 1) := by decide +kernel
theorem dX10_readLamp_7 : decode cX10_readLamp 7 = .ok (.iload_n 2, 1) := by decide +kernel
theorem dX10_readLamp_8 : decode cX10_readLamp 8 = .ok (.invokevirtual 171, 3) := by decide +kernel
theorem dX10_readLamp_11 : decode cX10_readLamp 11 = .ok (.istore_n 3, 1) := by decide +kernel
theorem dX10_readLamp_12 : decode cX10_readLamp 12 = .ok (.aload_n 0, 1) := by decide +kernel
theorem dX10_readLamp_13 : decode cX10_readLamp 13 = .ok (.iload_n 3, 1) := by decide +kernel
theorem dX10_readLamp_14 : decode cX10_readLamp 14 = .ok (.iconst 1, 1) := by decide +kernel
theorem dX10_readLamp_15 : decode cX10_readLamp 15 = .ok (.iconst 1, 1) := by decide +kernel
theorem dX10_readLamp_16 : decode cX10_readLamp 16 = .ok (.bipush 9, 2) := by decide +kernel
theorem dX10_readLamp_18 : decode cX10_readLamp 18 = .ok (.invokevirtual 164, 3) := by decide +kernel
theorem dX10_readLamp_21 : decode cX10_readLamp 21 = .ok (.istore 4, 2) := by decide +kernel
theorem dX10_readLamp_23 : decode cX10_readLamp 23 = .ok (.aload_n 0, 1) := by decide +kernel
theorem dX10_readLamp_24 : decode cX10_readLamp 24 = .ok (.iload 4, 2) := by decide +kernel
theorem dX10_readLamp_26 : decode cX10_readLamp 26 = .ok (.iconst 2, 1) := by decide +kernel
theorem dX10_readLamp_27 : decode cX10_readLamp 27 = .ok (.iconst 0, 1) := by decide +kernel
theorem dX10_readLamp_28 : decode cX10_readLamp 28 = .ok (.bipush 99, 2) := by decide +kernel
theorem dX10_readLamp_30 : decode cX10_readLamp 30 = .ok (.invokevirtual 164, 3) := by decide +kernel
theorem dX10_readLamp_33 : decode cX10_readLamp 33 = .ok (.istore 5, 2) := by decide +kernel
theorem dX10_readLamp_35 : decode cX10_readLamp 35 = .ok (.iload 5, 2) := by decide +kernel
theorem dX10_readLamp_37 : decode cX10_readLamp 37 = .ok (.iconst (-1), 1) := by decide +kernel
theorem dX10_readLamp_38 : decode cX10_readLamp 38 = .ok (.if_icmp .eq 41, 3) := by decide +kernel
theorem dX10_readLamp_41 : decode cX10_readLamp 41 = .ok (.aload_n 0, 1) := by decide +kernel
theorem dX10_readLamp_42 : decode cX10_readLamp 42 = .ok (.aload_n 1, 1) := by decide +kernel
theorem dX10_readLamp_43 : decode cX10_readLamp 43 = .ok (.iload_n 2, 1) := by decide +kernel
theorem dX10_readLamp_44 : decode cX10_readLamp 44 = .ok (.iload_n 3, 1) := by decide +kernel
theorem dX10_readLamp_45 : decode cX10_readLamp 45 = .ok (.invokestatic 174, 3) := by decide +kernel
theorem dX10_readLamp_48 : decode cX10_readLamp 48 = .ok (.ifCond .eq 20, 3) := by decide +kernel
theorem dX10_readLamp_51 : decode cX10_readLamp 51 = .ok (.aload_n 1, 1) := by decide +kernel
theorem dX10_readLamp_52 : decode cX10_readLamp 52 = .ok (.iload_n 2, 1) := by decide +kernel
theorem dX10_readLamp_53 : decode cX10_readLamp 53 = .ok (.iload_n 3, 1) := by decide +kernel
theorem dX10_readLamp_54 : decode cX10_readLamp 54 = .ok (.iload 4, 2) := by decide +kernel
theorem dX10_readLamp_56 : decode cX10_readLamp 56 = .ok (.iload 5, 2) := by decide +kernel
theorem dX10_readLamp_58 : decode cX10_readLamp 58 = .ok (.invokestatic 177, 3) := by decide +kernel
theorem dX10_readLamp_61 : decode cX10_readLamp 61 = .ok (.ifCond .lt 7, 3) := by decide +kernel
theorem dX10_readLamp_64 : decode cX10_readLamp 64 = .ok (.iconst 1, 1) := by decide +kernel
theorem dX10_readLamp_65 : decode cX10_readLamp 65 = .ok (.goto 4, 3) := by decide +kernel
theorem dX10_readLamp_68 : decode cX10_readLamp 68 = .ok (.iconst 0, 1) := by decide +kernel
theorem dX10_readLamp_69 : decode cX10_readLamp 69 = .ok (.invokevirtual 180, 3) := by decide +kernel
theorem dX10_readLamp_72 : decode cX10_readLamp 72 = .ok (.ifCond .eq 7, 3) := by decide +kernel
theorem dX10_readLamp_75 : decode cX10_readLamp 75 = .ok (.iconst 1, 1) := by decide +kernel
theorem dX10_readLamp_76 : decode cX10_readLamp 76 = .ok (.goto 4, 3) := by decide +kernel
theorem dX10_readLamp_79 : decode cX10_readLamp 79 = .ok (.iconst 0, 1) := by decide +kernel
theorem dX10_readLamp_80 : decode cX10_readLamp 80 = .ok (.ireturn, 1) := by decide +kernel
theorem dX10_readHang_0 : decode cX10_readHang 0 = .ok (.aload_n 0, 1) := by decide +kernel
theorem dX10_readHang_1 : decode cX10_readHang 1 = .ok (.iconst 0, 1) := by decide +kernel
theorem dX10_readHang_2 : decode cX10_readHang 2 = .ok (.invokevirtual 184, 3) := by decide +kernel
theorem dX10_readHang_5 : decode cX10_readHang 5 = .ok (.istore_n 2, 1) := by decide +kernel
theorem dX10_readHang_6 : decode cX10_readHang 6 = .ok (.aload_n 0, 1) := by decide +kernel
theorem dX10_readHang_7 : decode cX10_readHang 7 = .ok (.iload_n 2, 1) := by decide +kernel
theorem dX10_readHang_8 : decode cX10_readHang 8 = .ok (.invokevirtual 167, 3) := by decide +kernel
theorem dX10_readHang_11 : decode cX10_readHang 11 = .ok (.istore_n 3, 1) := by decide +kernel
theorem dX10_readHang_12 : decode cX10_readHang 12 = .ok (.aload_n 0, 1) := by decide +kernel
theorem dX10_readHang_13 : decode cX10_readHang 13 = .ok (.iload_n 3, 1) := by decide +kernel
theorem dX10_readHang_14 : decode cX10_readHang 14 = .ok (.invokevirtual 171, 3) := by decide +kernel
theorem dX10_readHang_17 : decode cX10_readHang 17 = .ok (.istore 4, 2) := by decide +kernel
theorem dX10_readHang_19 : decode cX10_readHang 19 = .ok (.iload 4, 2) := by decide +kernel
theorem dX10_readHang_21 : decode cX10_readHang 21 = .ok (.iconst (-1), 1) := by decide +kernel
theorem dX10_readHang_22 : decode cX10_readHang 22 = .ok (.if_icmp .eq 42, 3) := by decide +kernel
theorem dX10_readHang_25 : decode cX10_readHang 25 = .ok (.aload_n 0, 1) := by decide +kernel
theorem dX10_readHang_26 : decode cX10_readHang 26 = .ok (.aload_n 1, 1) := by decide +kernel
theorem dX10_readHang_27 : decode cX10_readHang 27 = .ok (.iload_n 2, 1) := by decide +kernel
theorem dX10_readHang_28 : decode cX10_readHang 28 = .ok (.iload_n 3, 1) := by decide +kernel
theorem dX10_readHang_29 : decode cX10_readHang 29 = .ok (.iload 4, 2) := by decide +kernel
theorem dX10_readHang_31 : decode cX10_readHang 31 = .ok (.invokestatic 187, 3) := by decide +kernel
theorem dX10_readHang_34 : decode cX10_readHang 34 = .ok (.ifCond .eq 19, 3) := by decide +kernel
theorem dX10_readHang_37 : decode cX10_readHang 37 = .ok (.aload_n 1, 1) := by decide +kernel
theorem dX10_readHang_38 : decode cX10_readHang 38 = .ok (.iconst 0, 1) := by decide +kernel
theorem dX10_readHang_39 : decode cX10_readHang 39 = .ok (.iload_n 2, 1) := by decide +kernel
theorem dX10_readHang_40 : decode cX10_readHang 40 = .ok (.iload_n 3, 1) := by decide +kernel
theorem dX10_readHang_41 : decode cX10_readHang 41 = .ok (.iload 4, 2) := by decide +kernel
theorem dX10_readHang_43 : decode cX10_readHang 43 = .ok (.invokestatic 120, 3) := by decide +kernel
theorem dX10_readHang_46 : decode cX10_readHang 46 = .ok (.ifCond .le 7, 3) := by decide +kernel
theorem dX10_readHang_49 : decode cX10_readHang 49 = .ok (.iconst 1, 1) := by decide +kernel
theorem dX10_readHang_50 : decode cX10_readHang 50 = .ok (.goto 4, 3) := by decide +kernel
theorem dX10_readHang_53 : decode cX10_readHang 53 = .ok (.iconst 0, 1) := by decide +kernel
theorem dX10_readHang_54 : decode cX10_readHang 54 = .ok (.invokevirtual 180, 3) := by decide +kernel
theorem dX10_readHang_57 : decode cX10_readHang 57 = .ok (.ifCond .eq 7, 3) := by decide +kernel
theorem dX10_readHang_60 : decode cX10_readHang 60 = .ok (.iconst 1, 1) := by decide +kernel
theorem dX10_readHang_61 : decode cX10_readHang 61 = .ok (.goto 4, 3) := by decide +kernel
theorem dX10_readHang_64 : decode cX10_readHang 64 = .ok (.iconst 0, 1) := by decide +kernel
theorem dX10_readHang_65 : decode cX10_readHang 65 = .ok (.ireturn, 1) := by decide +kernel
theorem dX10_readCommand_0 : decode cX10_readCommand 0 = .ok (.aload_n 0, 1) := by decide +kernel
theorem dX10_readCommand_1 : decode cX10_readCommand 1 = .ok (.getfield 7, 3) := by decide +kernel
theorem dX10_readCommand_4 : decode cX10_readCommand 4 = .ok (.aload_n 0, 1) := by decide +kernel
theorem dX10_readCommand_5 : decode cX10_readCommand 5 = .ok (.getfield 156, 3) := by decide +kernel
theorem dX10_readCommand_8 : decode cX10_readCommand 8 = .ok (.iaload, 1) := by decide +kernel
theorem dX10_readCommand_9 : decode cX10_readCommand 9 = .ok (.istore_n 2, 1) := by decide +kernel
theorem dX10_readCommand_10 : decode cX10_readCommand 10 = .ok (.aload_n 0, 1) := by decide +kernel
theorem dX10_readCommand_11 : decode cX10_readCommand 11 = .ok (.dup, 1) := by decide +kernel
theorem dX10_readCommand_12 : decode cX10_readCommand 12 = .ok (.getfield 156, 3) := by decide +kernel
theorem dX10_readCommand_15 : decode cX10_readCommand 15 = .ok (.iconst 1, 1) := by decide +kernel
theorem dX10_readCommand_16 : decode cX10_readCommand 16 = .ok (.iadd, 1) := by decide +kernel
theorem dX10_readCommand_17 : decode cX10_readCommand 17 = .ok (.putfield 156, 3) := by decide +kernel
theorem dX10_readCommand_20 : decode cX10_readCommand 20 = .ok (.iload_n 2, 1) := by decide +kernel
theorem dX10_readCommand_21 : decode cX10_readCommand 21 = .ok (.tableswitch 407 97 116 #[329, 407, 407, 407, 407, 266, 95, 260, 407, 407, 407, 201, 143, 407, 407, 407, 407, 407, 207, 366], 95) := by decide +kernel
theorem dX10_readCommand_116 : decode cX10_readCommand 116 = .ok (.aload_n 0, 1) := by decide +kernel
theorem dX10_readCommand_117 : decode cX10_readCommand 117 = .ok (.iconst 0, 1) := by decide +kernel
theorem dX10_readCommand_118 : decode cX10_readCommand 118 = .ok (.iconst 2, 1) := by decide +kernel
theorem dX10_readCommand_119 : decode cX10_readCommand 119 = .ok (.iconst 1, 1) := by decide +kernel
theorem dX10_readCommand_120 : decode cX10_readCommand 120 = .ok (.bipush 60, 2) := by decide +kernel
theorem dX10_readCommand_122 : decode cX10_readCommand 122 = .ok (.invokevirtual 164, 3) := by decide +kernel
theorem dX10_readCommand_125 : decode cX10_readCommand 125 = .ok (.istore_n 3, 1) := by decide +kernel
theorem dX10_readCommand_126 : decode cX10_readCommand 126 = .ok (.iload_n 3, 1) := by decide +kernel
theorem dX10_readCommand_127 : decode cX10_readCommand 127 = .ok (.iconst (-1), 1) := by decide +kernel
theorem dX10_readCommand_128 : decode cX10_readCommand 128 = .ok (.if_icmp .eq 34, 3) := by decide +kernel
theorem dX10_readCommand_131 : decode cX10_readCommand 131 = .ok (.aload_n 0, 1) := by decide +kernel
theorem dX10_readCommand_132 : decode cX10_readCommand 132 = .ok (.aload_n 1, 1) := by decide +kernel
theorem dX10_readCommand_133 : decode cX10_readCommand 133 = .ok (.iconst 0, 1) := by decide +kernel
theorem dX10_readCommand_134 : decode cX10_readCommand 134 = .ok (.iaload, 1) := by decide +kernel
theorem dX10_readCommand_135 : decode cX10_readCommand 135 = .ok (.iconst 3, 1) := by decide +kernel
theorem dX10_readCommand_136 : decode cX10_readCommand 136 = .ok (.if_icmp .ge 15, 3) := by decide +kernel
theorem dX10_readCommand_139 : decode cX10_readCommand 139 = .ok (.aload_n 1, 1) := by decide +kernel
theorem dX10_readCommand_140 : decode cX10_readCommand 140 = .ok (.iload_n 3, 1) := by decide +kernel
theorem dX10_readCommand_141 : decode cX10_readCommand 141 = .ok (.invokestatic 190, 3) := by decide +kernel
theorem dX10_readCommand_144 : decode cX10_readCommand 144 = .ok (.ifCond .lt 7, 3) := by decide +kernel
theorem dX10_readCommand_147 : decode cX10_readCommand 147 = .ok (.iconst 1, 1) := by decide +kernel
theorem dX10_readCommand_148 : decode cX10_readCommand 148 = .ok (.goto 4, 3) := by decide +kernel
theorem dX10_readCommand_151 : decode cX10_readCommand 151 = .ok (.iconst 0, 1) := by decide +kernel
theorem dX10_readCommand_152 : decode cX10_readCommand 152 = .ok (.invokevirtual 180, 3) := by decide +kernel
theorem dX10_readCommand_155 : decode cX10_readCommand 155 = .ok (.ifCond .eq 7, 3) := by decide +kernel
theorem dX10_readCommand_158 : decode cX10_readCommand 158 = .ok (.iconst 1, 1) := by decide +kernel
theorem dX10_readCommand_159 : decode cX10_readCommand 159 = .ok (.goto 4, 3) := by decide +kernel
theorem dX10_readCommand_162 : decode cX10_readCommand 162 = .ok (.iconst 0, 1) := by decide +kernel
theorem dX10_readCommand_163 : decode cX10_readCommand 163 = .ok (.ireturn, 1) := by decide +kernel
theorem dX10_readCommand_164 : decode cX10_readCommand 164 = .ok (.aload_n 0, 1) := by decide +kernel
theorem dX10_readCommand_165 : decode cX10_readCommand 165 = .ok (.iconst 0, 1) := by decide +kernel
theorem dX10_readCommand_166 : decode cX10_readCommand 166 = .ok (.invokevirtual 167, 3) := by decide +kernel
theorem dX10_readCommand_169 : decode cX10_readCommand 169 = .ok (.istore_n 3, 1) := by decide +kernel
theorem dX10_readCommand_170 : decode cX10_readCommand 170 = .ok (.aload_n 0, 1) := by decide +kernel
theorem dX10_readCommand_171 : decode cX10_readCommand 171 = .ok (.iload_n 3, 1) := by decide +kernel
theorem dX10_readCommand_172 : decode cX10_readCommand 172 = .ok (.iconst 1, 1) := by decide +kernel
theorem dX10_readCommand_173 : decode cX10_readCommand 173 = .ok (.iconst 1, 1) := by decide +kernel
theorem dX10_readCommand_174 : decode cX10_readCommand 174 = .ok (.iconst 5, 1) := by decide +kernel
theorem dX10_readCommand_175 : decode cX10_readCommand 175 = .ok (.invokevirtual 164, 3) := by decide +kernel
theorem dX10_readCommand_178 : decode cX10_readCommand 178 = .ok (.istore 4, 2) := by decide +kernel
theorem dX10_readCommand_180 : decode cX10_readCommand 180 = .ok (.iload 4, 2) := by decide +kernel
theorem dX10_readCommand_182 : decode cX10_readCommand 182 = .ok (.iconst (-1), 1) := by decide +kernel
theorem dX10_readCommand_183 : decode cX10_readCommand 183 = .ok (.if_icmp .eq 37, 3) := by decide +kernel
theorem dX10_readCommand_186 : decode cX10_readCommand 186 = .ok (.aload_n 0, 1) := by decide +kernel
theorem dX10_readCommand_187 : decode cX10_readCommand 187 = .ok (.aload_n 1, 1) := by decide +kernel
theorem dX10_readCommand_188 : decode cX10_readCommand 188 = .ok (.iload_n 3, 1) := by decide +kernel
theorem dX10_readCommand_189 : decode cX10_readCommand 189 = .ok (.invokestatic 193, 3) := by decide +kernel
theorem dX10_readCommand_192 : decode cX10_readCommand 192 = .ok (.ifCond .eq 17, 3) := by decide +kernel
theorem dX10_readCommand_195 : decode cX10_readCommand 195 = .ok (.aload_n 1, 1) := by decide +kernel
theorem dX10_readCommand_196 : decode cX10_readCommand 196 = .ok (.iload_n 3, 1) := by decide +kernel
theorem dX10_readCommand_197 : decode cX10_readCommand 197 = .ok (.iload 4, 2) := by decide +kernel
theorem dX10_readCommand_199 : decode cX10_readCommand 199 = .ok (.invokestatic 196, 3) := by decide +kernel
theorem dX10_readCommand_202 : decode cX10_readCommand 202 = .ok (.ifCond .lt 7, 3) := by decide +kernel
theorem dX10_readCommand_205 : decode cX10_readCommand 205 = .ok (.iconst 1, 1) := by decide +kernel
theorem dX10_readCommand_206 : decode cX10_readCommand 206 = .ok (.goto 4, 3) := by decide +kernel
theorem dX10_readCommand_209 : decode cX10_readCommand 209 = .ok (.iconst 0, 1) := by decide +kernel
theorem dX10_readCommand_210 : decode cX10_readCommand 210 = .ok (.invokevirtual 180, 3) := by decide +kernel
theorem dX10_readCommand_213 : decode cX10_readCommand 213 = .ok (.ifCond .eq 7, 3) := by decide +kernel
theorem dX10_readCommand_216 : decode cX10_readCommand 216 = .ok (.iconst 1, 1) := by decide +kernel
theorem dX10_readCommand_217 : decode cX10_readCommand 217 = .ok (.goto 4, 3) := by decide +kernel
theorem dX10_readCommand_220 : decode cX10_readCommand 220 = .ok (.iconst 0, 1) := by decide +kernel
theorem dX10_readCommand_221 : decode cX10_readCommand 221 = .ok (.ireturn, 1) := by decide +kernel
theorem dX10_readCommand_222 : decode cX10_readCommand 222 = .ok (.aload_n 0, 1) := by decide +kernel
theorem dX10_readCommand_223 : decode cX10_readCommand 223 = .ok (.aload_n 1, 1) := by decide +kernel
theorem dX10_readCommand_224 : decode cX10_readCommand 224 = .ok (.invokevirtual 199, 3) := by decide +kernel
theorem dX10_readCommand_227 : decode cX10_readCommand 227 = .ok (.ireturn, 1) := by decide +kernel
theorem dX10_readCommand_228 : decode cX10_readCommand 228 = .ok (.aload_n 0, 1) := by decide +kernel
theorem dX10_readCommand_229 : decode cX10_readCommand 229 = .ok (.iconst 0, 1) := by decide +kernel
theorem dX10_readCommand_230 : decode cX10_readCommand 230 = .ok (.iconst 3, 1) := by decide +kernel
theorem dX10_readCommand_231 : decode cX10_readCommand 231 = .ok (.iconst 0, 1) := by decide +kernel
theorem dX10_readCommand_232 : decode cX10_readCommand 232 = .ok (.sipush 999, 3) := by decide +kernel
theorem dX10_readCommand_235 : decode cX10_readCommand 235 = .ok (.invokevirtual 164, 3) := by decide +kernel
theorem dX10_readCommand_238 : decode cX10_readCommand 238 = .ok (.istore_n 3, 1) := by decide +kernel
theorem dX10_readCommand_239 : decode cX10_readCommand 239 = .ok (.iload_n 3, 1) := by decide +kernel
theorem dX10_readCommand_240 : decode cX10_readCommand 240 = .ok (.iconst (-1), 1) := by decide +kernel
theorem dX10_readCommand_241 : decode cX10_readCommand 241 = .ok (.if_icmp .eq 38, 3) := by decide +kernel
theorem dX10_readCommand_244 : decode cX10_readCommand 244 = .ok (.aload_n 0, 1) := by decide +kernel
theorem dX10_readCommand_245 : decode cX10_readCommand 245 = .ok (.aload_n 1, 1) := by decide +kernel
theorem dX10_readCommand_246 : decode cX10_readCommand 246 = .ok (.iconst 4, 1) := by decide +kernel
theorem dX10_readCommand_247 : decode cX10_readCommand 247 = .ok (.iaload, 1) := by decide +kernel
theorem dX10_readCommand_248 : decode cX10_readCommand 248 = .ok (.iload_n 3, 1) := by decide +kernel
theorem dX10_readCommand_249 : decode cX10_readCommand 249 = .ok (.iadd, 1) := by decide +kernel
theorem dX10_readCommand_250 : decode cX10_readCommand 250 = .ok (.sipush 9999, 3) := by decide +kernel
theorem dX10_readCommand_253 : decode cX10_readCommand 253 = .ok (.if_icmp .gt 15, 3) := by decide +kernel
theorem dX10_readCommand_256 : decode cX10_readCommand 256 = .ok (.aload_n 1, 1) := by decide +kernel
theorem dX10_readCommand_257 : decode cX10_readCommand 257 = .ok (.iload_n 3, 1) := by decide +kernel
theorem dX10_readCommand_258 : decode cX10_readCommand 258 = .ok (.invokestatic 202, 3) := by decide +kernel
theorem dX10_readCommand_261 : decode cX10_readCommand 261 = .ok (.ifCond .lt 7, 3) := by decide +kernel
theorem dX10_readCommand_264 : decode cX10_readCommand 264 = .ok (.iconst 1, 1) := by decide +kernel
theorem dX10_readCommand_265 : decode cX10_readCommand 265 = .ok (.goto 4, 3) := by decide +kernel
theorem dX10_readCommand_268 : decode cX10_readCommand 268 = .ok (.iconst 0, 1) := by decide +kernel
theorem dX10_readCommand_269 : decode cX10_readCommand 269 = .ok (.invokevirtual 180, 3) := by decide +kernel
theorem dX10_readCommand_272 : decode cX10_readCommand 272 = .ok (.ifCond .eq 7, 3) := by decide +kernel
theorem dX10_readCommand_275 : decode cX10_readCommand 275 = .ok (.iconst 1, 1) := by decide +kernel
theorem dX10_readCommand_276 : decode cX10_readCommand 276 = .ok (.goto 4, 3) := by decide +kernel
theorem dX10_readCommand_279 : decode cX10_readCommand 279 = .ok (.iconst 0, 1) := by decide +kernel
theorem dX10_readCommand_280 : decode cX10_readCommand 280 = .ok (.ireturn, 1) := by decide +kernel
theorem dX10_readCommand_281 : decode cX10_readCommand 281 = .ok (.aload_n 0, 1) := by decide +kernel
theorem dX10_readCommand_282 : decode cX10_readCommand 282 = .ok (.aload_n 1, 1) := by decide +kernel
theorem dX10_readCommand_283 : decode cX10_readCommand 283 = .ok (.invokevirtual 205, 3) := by decide +kernel
theorem dX10_readCommand_286 : decode cX10_readCommand 286 = .ok (.ireturn, 1) := by decide +kernel
theorem dX10_readCommand_287 : decode cX10_readCommand 287 = .ok (.aload_n 0, 1) := by decide +kernel
theorem dX10_readCommand_288 : decode cX10_readCommand 288 = .ok (.iconst 0, 1) := by decide +kernel
theorem dX10_readCommand_289 : decode cX10_readCommand 289 = .ok (.invokevirtual 184, 3) := by decide +kernel
theorem dX10_readCommand_292 : decode cX10_readCommand 292 = .ok (.istore_n 3, 1) := by decide +kernel
theorem dX10_readCommand_293 : decode cX10_readCommand 293 = .ok (.aload_n 0, 1) := by decide +kernel
theorem dX10_readCommand_294 : decode cX10_readCommand 294 = .ok (.iload_n 3, 1) := by decide +kernel
theorem dX10_readCommand_295 : decode cX10_readCommand 295 = .ok (.iconst 2, 1) := by decide +kernel
theorem dX10_readCommand_296 : decode cX10_readCommand 296 = .ok (.iconst 1, 1) := by decide +kernel
theorem dX10_readCommand_297 : decode cX10_readCommand 297 = .ok (.bipush 99, 2) := by decide +kernel
theorem dX10_readCommand_299 : decode cX10_readCommand 299 = .ok (.invokevirtual 164, 3) := by decide +kernel
theorem dX10_readCommand_302 : decode cX10_readCommand 302 = .ok (.istore 4, 2) := by decide +kernel
theorem dX10_readCommand_304 : decode cX10_readCommand 304 = .ok (.iload 4, 2) := by decide +kernel
theorem dX10_readCommand_306 : decode cX10_readCommand 306 = .ok (.iconst (-1), 1) := by decide +kernel
theorem dX10_readCommand_307 : decode cX10_readCommand 307 = .ok (.if_icmp .eq 41, 3) := by decide +kernel
theorem dX10_readCommand_310 : decode cX10_readCommand 310 = .ok (.aload_n 0, 1) := by decide +kernel
theorem dX10_readCommand_311 : decode cX10_readCommand 311 = .ok (.aload_n 1, 1) := by decide +kernel
theorem dX10_readCommand_312 : decode cX10_readCommand 312 = .ok (.iload_n 3, 1) := by decide +kernel
theorem dX10_readCommand_313 : decode cX10_readCommand 313 = .ok (.iload 4, 2) := by decide +kernel
theorem dX10_readCommand_315 : decode cX10_readCommand 315 = .ok (.invokestatic 208, 3) := by decide +kernel
theorem dX10_readCommand_318 : decode cX10_readCommand 318 = .ok (.ifCond .eq 19, 3) := by decide +kernel
theorem dX10_readCommand_321 : decode cX10_readCommand 321 = .ok (.aload_n 1, 1) := by decide +kernel
theorem dX10_readCommand_322 : decode cX10_readCommand 322 = .ok (.iconst 1, 1) := by decide +kernel
theorem dX10_readCommand_323 : decode cX10_readCommand 323 = .ok (.iload_n 3, 1) := by decide +kernel
theorem dX10_readCommand_324 : decode cX10_readCommand 324 = .ok (.iload 4, 2) := by decide +kernel
theorem dX10_readCommand_326 : decode cX10_readCommand 326 = .ok (.iconst (-1), 1) := by decide +kernel
theorem dX10_readCommand_327 : decode cX10_readCommand 327 = .ok (.invokestatic 120, 3) := by decide +kernel
theorem dX10_readCommand_330 : decode cX10_readCommand 330 = .ok (.ifCond .le 7, 3) := by decide +kernel
theorem dX10_readCommand_333 : decode cX10_readCommand 333 = .ok (.iconst 1, 1) := by decide +kernel
theorem dX10_readCommand_334 : decode cX10_readCommand 334 = .ok (.goto 4, 3) := by decide +kernel
theorem dX10_readCommand_337 : decode cX10_readCommand 337 = .ok (.iconst 0, 1) := by decide +kernel
theorem dX10_readCommand_338 : decode cX10_readCommand 338 = .ok (.invokevirtual 180, 3) := by decide +kernel
theorem dX10_readCommand_341 : decode cX10_readCommand 341 = .ok (.ifCond .eq 7, 3) := by decide +kernel
theorem dX10_readCommand_344 : decode cX10_readCommand 344 = .ok (.iconst 1, 1) := by decide +kernel
theorem dX10_readCommand_345 : decode cX10_readCommand 345 = .ok (.goto 4, 3) := by decide +kernel
theorem dX10_readCommand_348 : decode cX10_readCommand 348 = .ok (.iconst 0, 1) := by decide +kernel
theorem dX10_readCommand_349 : decode cX10_readCommand 349 = .ok (.ireturn, 1) := by decide +kernel
theorem dX10_readCommand_350 : decode cX10_readCommand 350 = .ok (.aload_n 0, 1) := by decide +kernel
theorem dX10_readCommand_351 : decode cX10_readCommand 351 = .ok (.iconst 0, 1) := by decide +kernel
theorem dX10_readCommand_352 : decode cX10_readCommand 352 = .ok (.iconst 1, 1) := by decide +kernel
theorem dX10_readCommand_353 : decode cX10_readCommand 353 = .ok (.iconst 0, 1) := by decide +kernel
theorem dX10_readCommand_354 : decode cX10_readCommand 354 = .ok (.iconst 1, 1) := by decide +kernel
theorem dX10_readCommand_355 : decode cX10_readCommand 355 = .ok (.invokevirtual 164, 3) := by decide +kernel
theorem dX10_readCommand_358 : decode cX10_readCommand 358 = .ok (.istore_n 3, 1) := by decide +kernel
theorem dX10_readCommand_359 : decode cX10_readCommand 359 = .ok (.aload_n 1, 1) := by decide +kernel
theorem dX10_readCommand_360 : decode cX10_readCommand 360 = .ok (.bipush 17, 2) := by decide +kernel
theorem dX10_readCommand_362 : decode cX10_readCommand 362 = .ok (.iload_n 3, 1) := by decide +kernel
theorem dX10_readCommand_363 : decode cX10_readCommand 363 = .ok (.iconst (-1), 1) := by decide +kernel
theorem dX10_readCommand_364 : decode cX10_readCommand 364 = .ok (.if_icmp .ne 10, 3) := by decide +kernel
theorem dX10_readCommand_367 : decode cX10_readCommand 367 = .ok (.aload_n 1, 1) := by decide +kernel
theorem dX10_readCommand_368 : decode cX10_readCommand 368 = .ok (.bipush 17, 2) := by decide +kernel
theorem dX10_readCommand_370 : decode cX10_readCommand 370 = .ok (.iaload, 1) := by decide +kernel
theorem dX10_readCommand_371 : decode cX10_readCommand 371 = .ok (.goto 4, 3) := by decide +kernel
theorem dX10_readCommand_374 : decode cX10_readCommand 374 = .ok (.iload_n 3, 1) := by decide +kernel
theorem dX10_readCommand_375 : decode cX10_readCommand 375 = .ok (.iastore, 1) := by decide +kernel
theorem dX10_readCommand_376 : decode cX10_readCommand 376 = .ok (.iload_n 3, 1) := by decide +kernel
theorem dX10_readCommand_377 : decode cX10_readCommand 377 = .ok (.iconst (-1), 1) := by decide +kernel
theorem dX10_readCommand_378 : decode cX10_readCommand 378 = .ok (.if_icmp .eq 7, 3) := by decide +kernel
theorem dX10_readCommand_381 : decode cX10_readCommand 381 = .ok (.iconst 1, 1) := by decide +kernel
theorem dX10_readCommand_382 : decode cX10_readCommand 382 = .ok (.goto 4, 3) := by decide +kernel
theorem dX10_readCommand_385 : decode cX10_readCommand 385 = .ok (.iconst 0, 1) := by decide +kernel
theorem dX10_readCommand_386 : decode cX10_readCommand 386 = .ok (.ireturn, 1) := by decide +kernel
theorem dX10_readCommand_387 : decode cX10_readCommand 387 = .ok (.aload_n 0, 1) := by decide +kernel
theorem dX10_readCommand_388 : decode cX10_readCommand 388 = .ok (.iconst 0, 1) := by decide +kernel
theorem dX10_readCommand_389 : decode cX10_readCommand 389 = .ok (.iconst 2, 1) := by decide +kernel
theorem dX10_readCommand_390 : decode cX10_readCommand 390 = .ok (.iconst 1, 1) := by decide +kernel
theorem dX10_readCommand_391 : decode cX10_readCommand 391 = .ok (.bipush 60, 2) := by decide +kernel
theorem dX10_readCommand_393 : decode cX10_readCommand 393 = .ok (.invokevirtual 164, 3) := by decide +kernel
theorem dX10_readCommand_396 : decode cX10_readCommand 396 = .ok (.istore_n 3, 1) := by decide +kernel
theorem dX10_readCommand_397 : decode cX10_readCommand 397 = .ok (.iload_n 3, 1) := by decide +kernel
theorem dX10_readCommand_398 : decode cX10_readCommand 398 = .ok (.iconst (-1), 1) := by decide +kernel
theorem dX10_readCommand_399 : decode cX10_readCommand 399 = .ok (.if_icmp .eq 27, 3) := by decide +kernel
theorem dX10_readCommand_402 : decode cX10_readCommand 402 = .ok (.aload_n 0, 1) := by decide +kernel
theorem dX10_readCommand_403 : decode cX10_readCommand 403 = .ok (.aload_n 1, 1) := by decide +kernel
theorem dX10_readCommand_404 : decode cX10_readCommand 404 = .ok (.iload_n 3, 1) := by decide +kernel
theorem dX10_readCommand_405 : decode cX10_readCommand 405 = .ok (.invokestatic 211, 3) := by decide +kernel
theorem dX10_readCommand_408 : decode cX10_readCommand 408 = .ok (.ifCond .lt 7, 3) := by decide +kernel
theorem dX10_readCommand_411 : decode cX10_readCommand 411 = .ok (.iconst 1, 1) := by decide +kernel
theorem dX10_readCommand_412 : decode cX10_readCommand 412 = .ok (.goto 4, 3) := by decide +kernel
theorem dX10_readCommand_415 : decode cX10_readCommand 415 = .ok (.iconst 0, 1) := by decide +kernel
theorem dX10_readCommand_416 : decode cX10_readCommand 416 = .ok (.invokevirtual 180, 3) := by decide +kernel
theorem dX10_readCommand_419 : decode cX10_readCommand 419 = .ok (.ifCond .eq 7, 3) := by decide +kernel
theorem dX10_readCommand_422 : decode cX10_readCommand 422 = .ok (.iconst 1, 1) := by decide +kernel
theorem dX10_readCommand_423 : decode cX10_readCommand 423 = .ok (.goto 4, 3) := by decide +kernel
theorem dX10_readCommand_426 : decode cX10_readCommand 426 = .ok (.iconst 0, 1) := by decide +kernel
theorem dX10_readCommand_427 : decode cX10_readCommand 427 = .ok (.ireturn, 1) := by decide +kernel
theorem dX10_readCommand_428 : decode cX10_readCommand 428 = .ok (.aload_n 0, 1) := by decide +kernel
theorem dX10_readCommand_429 : decode cX10_readCommand 429 = .ok (.dup, 1) := by decide +kernel
theorem dX10_readCommand_430 : decode cX10_readCommand 430 = .ok (.getfield 156, 3) := by decide +kernel
theorem dX10_readCommand_433 : decode cX10_readCommand 433 = .ok (.iconst 1, 1) := by decide +kernel
theorem dX10_readCommand_434 : decode cX10_readCommand 434 = .ok (.isub, 1) := by decide +kernel
theorem dX10_readCommand_435 : decode cX10_readCommand 435 = .ok (.putfield 156, 3) := by decide +kernel
theorem dX10_readCommand_438 : decode cX10_readCommand 438 = .ok (.iconst 0, 1) := by decide +kernel
theorem dX10_readCommand_439 : decode cX10_readCommand 439 = .ok (.ireturn, 1) := by decide +kernel
theorem dX10_readText_0 : decode cX10_readText 0 = .ok (.aload_n 1, 1) := by decide +kernel
theorem dX10_readText_1 : decode cX10_readText 1 = .ok (.invokestatic 29, 3) := by decide +kernel
theorem dX10_readText_4 : decode cX10_readText 4 = .ok (.aload_n 0, 1) := by decide +kernel
theorem dX10_readText_5 : decode cX10_readText 5 = .ok (.iconst 0, 1) := by decide +kernel
theorem dX10_readText_6 : decode cX10_readText 6 = .ok (.putfield 161, 3) := by decide +kernel
theorem dX10_readText_9 : decode cX10_readText 9 = .ok (.aload_n 0, 1) := by decide +kernel
theorem dX10_readText_10 : decode cX10_readText 10 = .ok (.iconst 0, 1) := by decide +kernel
theorem dX10_readText_11 : decode cX10_readText 11 = .ok (.putfield 156, 3) := by decide +kernel
theorem dX10_readText_14 : decode cX10_readText 14 = .ok (.aload_n 0, 1) := by decide +kernel
theorem dX10_readText_15 : decode cX10_readText 15 = .ok (.getfield 149, 3) := by decide +kernel
theorem dX10_readText_18 : decode cX10_readText 18 = .ok (.ifCond .eq 14, 3) := by decide +kernel
theorem dX10_readText_21 : decode cX10_readText 21 = .ok (.aload_n 0, 1) := by decide +kernel
theorem dX10_readText_22 : decode cX10_readText 22 = .ok (.getfield 7, 3) := by decide +kernel
theorem dX10_readText_25 : decode cX10_readText 25 = .ok (.iconst 0, 1) := by decide +kernel
theorem dX10_readText_26 : decode cX10_readText 26 = .ok (.iaload, 1) := by decide +kernel
theorem dX10_readText_27 : decode cX10_readText 27 = .ok (.bipush 84, 2) := by decide +kernel
theorem dX10_readText_29 : decode cX10_readText 29 = .ok (.if_icmp .eq 5, 3) := by decide +kernel
theorem dX10_readText_32 : decode cX10_readText 32 = .ok (.iconst 0, 1) := by decide +kernel
theorem dX10_readText_33 : decode cX10_readText 33 = .ok (.ireturn, 1) := by decide +kernel
theorem dX10_readText_34 : decode cX10_readText 34 = .ok (.aload_n 0, 1) := by decide +kernel
theorem dX10_readText_35 : decode cX10_readText 35 = .ok (.iconst 1, 1) := by decide +kernel
theorem dX10_readText_36 : decode cX10_readText 36 = .ok (.putfield 156, 3) := by decide +kernel
theorem dX10_readText_39 : decode cX10_readText 39 = .ok (.aload_n 0, 1) := by decide +kernel
theorem dX10_readText_40 : decode cX10_readText 40 = .ok (.getfield 156, 3) := by decide +kernel
theorem dX10_readText_43 : decode cX10_readText 43 = .ok (.aload_n 0, 1) := by decide +kernel
theorem dX10_readText_44 : decode cX10_readText 44 = .ok (.getfield 149, 3) := by decide +kernel
theorem dX10_readText_47 : decode cX10_readText 47 = .ok (.if_icmp .ge 16, 3) := by decide +kernel
theorem dX10_readText_50 : decode cX10_readText 50 = .ok (.aload_n 0, 1) := by decide +kernel
theorem dX10_readText_51 : decode cX10_readText 51 = .ok (.aload_n 1, 1) := by decide +kernel
theorem dX10_readText_52 : decode cX10_readText 52 = .ok (.invokevirtual 214, 3) := by decide +kernel
theorem dX10_readText_55 : decode cX10_readText 55 = .ok (.ifCond .ne (-16), 3) := by decide +kernel
theorem dX10_readText_58 : decode cX10_readText 58 = .ok (.aload_n 0, 1) := by decide +kernel
theorem dX10_readText_59 : decode cX10_readText 59 = .ok (.getfield 156, 3) := by decide +kernel
theorem dX10_readText_62 : decode cX10_readText 62 = .ok (.ireturn, 1) := by decide +kernel
theorem dX10_readText_63 : decode cX10_readText 63 = .ok (.iconst (-1), 1) := by decide +kernel
theorem dX10_readText_64 : decode cX10_readText 64 = .ok (.ireturn, 1) := by decide +kernel
theorem dX10_errorPosition_0 : decode cX10_errorPosition 0 = .ok (.aload_n 0, 1) := by decide +kernel
theorem dX10_errorPosition_1 : decode cX10_errorPosition 1 = .ok (.iconst 0, 1) := by decide +kernel
theorem dX10_errorPosition_2 : decode cX10_errorPosition 2 = .ok (.putfield 33, 3) := by decide +kernel
theorem dX10_errorPosition_5 : decode cX10_errorPosition 5 = .ok (.aload_n 0, 1) := by decide +kernel
theorem dX10_errorPosition_6 : decode cX10_errorPosition 6 = .ok (.aload_n 0, 1) := by decide +kernel
theorem dX10_errorPosition_7 : decode cX10_errorPosition 7 = .ok (.getfield 16, 3) := by decide +kernel
theorem dX10_errorPosition_10 : decode cX10_errorPosition 10 = .ok (.invokevirtual 217, 3) := by decide +kernel
theorem dX10_errorPosition_13 : decode cX10_errorPosition 13 = .ok (.ireturn, 1) := by decide +kernel
theorem dX10_load_0 : decode cX10_load 0 = .ok (.aload_n 0, 1) := by decide +kernel
theorem dX10_load_1 : decode cX10_load 1 = .ok (.aload_n 0, 1) := by decide +kernel
theorem dX10_load_2 : decode cX10_load 2 = .ok (.aload_n 0, 1) := by decide +kernel
theorem dX10_load_3 : decode cX10_load 3 = .ok (.getfield 16, 3) := by decide +kernel
theorem dX10_load_6 : decode cX10_load 6 = .ok (.invokevirtual 217, 3) := by decide +kernel
theorem dX10_load_9 : decode cX10_load 9 = .ok (.iconst (-1), 1) := by decide +kernel
theorem dX10_load_10 : decode cX10_load 10 = .ok (.if_icmp .ne 7, 3) := by decide +kernel
theorem dX10_load_13 : decode cX10_load 13 = .ok (.iconst 0, 1) := by decide +kernel
theorem dX10_load_14 : decode cX10_load 14 = .ok (.goto 4, 3) := by decide +kernel
theorem dX10_load_17 : decode cX10_load 17 = .ok (.iconst 1, 1) := by decide +kernel
theorem dX10_load_18 : decode cX10_load 18 = .ok (.invokevirtual 152, 3) := by decide +kernel
theorem dX10_load_21 : decode cX10_load 21 = .ok (.ifCond .eq 5, 3) := by decide +kernel
theorem dX10_load_24 : decode cX10_load 24 = .ok (.iconst 0, 1) := by decide +kernel
theorem dX10_load_25 : decode cX10_load 25 = .ok (.ireturn, 1) := by decide +kernel
theorem dX10_load_26 : decode cX10_load 26 = .ok (.aload_n 0, 1) := by decide +kernel
theorem dX10_load_27 : decode cX10_load 27 = .ok (.getfield 16, 3) := by decide +kernel
theorem dX10_load_30 : decode cX10_load 30 = .ok (.iconst 0, 1) := by decide +kernel
theorem dX10_load_31 : decode cX10_load 31 = .ok (.aload_n 0, 1) := by decide +kernel
theorem dX10_load_32 : decode cX10_load 32 = .ok (.getfield 13, 3) := by decide +kernel
theorem dX10_load_35 : decode cX10_load 35 = .ok (.iconst 0, 1) := by decide +kernel
theorem dX10_load_36 : decode cX10_load 36 = .ok (.invokestatic 220, 3) := by decide +kernel
theorem dX10_load_39 : decode cX10_load 39 = .ok (.aload_n 0, 1) := by decide +kernel
theorem dX10_load_40 : decode cX10_load 40 = .ok (.iconst 0, 1) := by decide +kernel
theorem dX10_load_41 : decode cX10_load 41 = .ok (.putfield 224, 3) := by decide +kernel
theorem dX10_load_44 : decode cX10_load 44 = .ok (.aload_n 0, 1) := by decide +kernel
theorem dX10_load_45 : decode cX10_load 45 = .ok (.getfield 25, 3) := by decide +kernel
theorem dX10_load_48 : decode cX10_load 48 = .ok (.iconst 0, 1) := by decide +kernel
theorem dX10_load_49 : decode cX10_load 49 = .ok (.iconst 0, 1) := by decide +kernel
theorem dX10_load_50 : decode cX10_load 50 = .ok (.bastore, 1) := by decide +kernel
theorem dX10_load_51 : decode cX10_load 51 = .ok (.aload_n 0, 1) := by decide +kernel
theorem dX10_load_52 : decode cX10_load 52 = .ok (.getfield 25, 3) := by decide +kernel
theorem dX10_load_55 : decode cX10_load 55 = .ok (.iconst 1, 1) := by decide +kernel
theorem dX10_load_56 : decode cX10_load 56 = .ok (.iconst 0, 1) := by decide +kernel
theorem dX10_load_57 : decode cX10_load 57 = .ok (.bastore, 1) := by decide +kernel
theorem dX10_load_58 : decode cX10_load 58 = .ok (.aload_n 0, 1) := by decide +kernel
theorem dX10_load_59 : decode cX10_load 59 = .ok (.getfield 161, 3) := by decide +kernel
theorem dX10_load_62 : decode cX10_load 62 = .ok (.ireturn, 1) := by decide +kernel
theorem dX10_about_0 : decode cX10_about 0 = .ok (.aload_n 0, 1) := by decide +kernel
theorem dX10_about_1 : decode cX10_about 1 = .ok (.iload_n 1, 1) := by decide +kernel
theorem dX10_about_2 : decode cX10_about 2 = .ok (.i2l, 1) := by decide +kernel
theorem dX10_about_3 : decode cX10_about 3 = .ok (.lconst 0, 1) := by decide +kernel
theorem dX10_about_4 : decode cX10_about 4 = .ok (.ldc2_w 49, 3) := by decide +kernel
theorem dX10_about_7 : decode cX10_about 7 = .ok (.invokestatic 37, 3) := by decide +kernel
theorem dX10_about_10 : decode cX10_about 10 = .ok (.ifCond .eq 7, 3) := by decide +kernel
theorem dX10_about_13 : decode cX10_about 13 = .ok (.iconst 0, 1) := by decide +kernel
theorem dX10_about_14 : decode cX10_about 14 = .ok (.goto 4, 3) := by decide +kernel
theorem dX10_about_17 : decode cX10_about 17 = .ok (.iconst 1, 1) := by decide +kernel
theorem dX10_about_18 : decode cX10_about 18 = .ok (.invokevirtual 152, 3) := by decide +kernel
theorem dX10_about_21 : decode cX10_about 21 = .ok (.ifCond .eq 5, 3) := by decide +kernel
theorem dX10_about_24 : decode cX10_about 24 = .ok (.iconst 0, 1) := by decide +kernel
theorem dX10_about_25 : decode cX10_about 25 = .ok (.ireturn, 1) := by decide +kernel
theorem dX10_about_26 : decode cX10_about 26 = .ok (.iconst 0, 1) := by decide +kernel
theorem dX10_about_27 : decode cX10_about 27 = .ok (.istore_n 2, 1) := by decide +kernel
theorem dX10_about_28 : decode cX10_about 28 = .ok (.iconst 0, 1) := by decide +kernel
theorem dX10_about_29 : decode cX10_about 29 = .ok (.istore_n 3, 1) := by decide +kernel
theorem dX10_about_30 : decode cX10_about 30 = .ok (.iload_n 3, 1) := by decide +kernel
theorem dX10_about_31 : decode cX10_about 31 = .ok (.aload_n 0, 1) := by decide +kernel
theorem dX10_about_32 : decode cX10_about 32 = .ok (.getfield 13, 3) := by decide +kernel
theorem dX10_about_35 : decode cX10_about 35 = .ok (.iconst 2, 1) := by decide +kernel
theorem dX10_about_36 : decode cX10_about 36 = .ok (.iaload, 1) := by decide +kernel
theorem dX10_about_37 : decode cX10_about 37 = .ok (.if_icmp .ge 21, 3) := by decide +kernel
theorem dX10_about_40 : decode cX10_about 40 = .ok (.iload_n 2, 1) := by decide +kernel
theorem dX10_about_41 : decode cX10_about 41 = .ok (.aload_n 0, 1) := by decide +kernel
theorem dX10_about_42 : decode cX10_about 42 = .ok (.getfield 13, 3) := by decide +kernel
theorem dX10_about_45 : decode cX10_about 45 = .ok (.iload_n 3, 1) := by decide +kernel
theorem dX10_about_46 : decode cX10_about 46 = .ok (.iconst 1, 1) := by decide +kernel
theorem dX10_about_47 : decode cX10_about 47 = .ok (.invokestatic 51, 3) := by decide +kernel
theorem dX10_about_50 : decode cX10_about 50 = .ok (.iadd, 1) := by decide +kernel
theorem dX10_about_51 : decode cX10_about 51 = .ok (.istore_n 2, 1) := by decide +kernel
theorem dX10_about_52 : decode cX10_about 52 = .ok (.iinc 3 1, 3) := by decide +kernel
theorem dX10_about_55 : decode cX10_about 55 = .ok (.goto (-25), 3) := by decide +kernel
theorem dX10_about_58 : decode cX10_about 58 = .ok (.iload_n 1, 1) := by decide +kernel
theorem dX10_about_59 : decode cX10_about 59 = .ok (.tableswitch 91 5 12 #[45, 47, 55, 55, 55, 67, 75, 83], 45) := by decide +kernel
theorem dX10_about_104 : decode cX10_about 104 = .ok (.iload_n 2, 1) := by decide +kernel
theorem dX10_about_105 : decode cX10_about 105 = .ok (.ireturn, 1) := by decide +kernel
theorem dX10_about_106 : decode cX10_about 106 = .ok (.aload_n 0, 1) := by decide +kernel
theorem dX10_about_107 : decode cX10_about 107 = .ok (.getfield 13, 3) := by decide +kernel
theorem dX10_about_110 : decode cX10_about 110 = .ok (.bipush 14, 2) := by decide +kernel
theorem dX10_about_112 : decode cX10_about 112 = .ok (.iaload, 1) := by decide +kernel
theorem dX10_about_113 : decode cX10_about 113 = .ok (.ireturn, 1) := by decide +kernel
theorem dX10_about_114 : decode cX10_about 114 = .ok (.aload_n 0, 1) := by decide +kernel
theorem dX10_about_115 : decode cX10_about 115 = .ok (.getfield 13, 3) := by decide +kernel
theorem dX10_about_118 : decode cX10_about 118 = .ok (.iconst 5, 1) := by decide +kernel
theorem dX10_about_119 : decode cX10_about 119 = .ok (.iload_n 1, 1) := by decide +kernel
theorem dX10_about_120 : decode cX10_about 120 = .ok (.iadd, 1) := by decide +kernel
theorem dX10_about_121 : decode cX10_about 121 = .ok (.bipush 7, 2) := by decide +kernel
theorem dX10_about_123 : decode cX10_about 123 = .ok (.isub, 1) := by decide +kernel
theorem dX10_about_124 : decode cX10_about 124 = .ok (.iaload, 1) := by decide +kernel
theorem dX10_about_125 : decode cX10_about 125 = .ok (.ireturn, 1) := by decide +kernel
theorem dX10_about_126 : decode cX10_about 126 = .ok (.aload_n 0, 1) := by decide +kernel
theorem dX10_about_127 : decode cX10_about 127 = .ok (.getfield 13, 3) := by decide +kernel
theorem dX10_about_130 : decode cX10_about 130 = .ok (.bipush 8, 2) := by decide +kernel
theorem dX10_about_132 : decode cX10_about 132 = .ok (.iaload, 1) := by decide +kernel
theorem dX10_about_133 : decode cX10_about 133 = .ok (.ireturn, 1) := by decide +kernel
theorem dX10_about_134 : decode cX10_about 134 = .ok (.aload_n 0, 1) := by decide +kernel
theorem dX10_about_135 : decode cX10_about 135 = .ok (.getfield 13, 3) := by decide +kernel
theorem dX10_about_138 : decode cX10_about 138 = .ok (.bipush 9, 2) := by decide +kernel
theorem dX10_about_140 : decode cX10_about 140 = .ok (.iaload, 1) := by decide +kernel
theorem dX10_about_141 : decode cX10_about 141 = .ok (.ireturn, 1) := by decide +kernel
theorem dX10_about_142 : decode cX10_about 142 = .ok (.aload_n 0, 1) := by decide +kernel
theorem dX10_about_143 : decode cX10_about 143 = .ok (.getfield 13, 3) := by decide +kernel
theorem dX10_about_146 : decode cX10_about 146 = .ok (.bipush 10, 2) := by decide +kernel
theorem dX10_about_148 : decode cX10_about 148 = .ok (.iaload, 1) := by decide +kernel
theorem dX10_about_149 : decode cX10_about 149 = .ok (.ireturn, 1) := by decide +kernel
theorem dX10_about_150 : decode cX10_about 150 = .ok (.aload_n 0, 1) := by decide +kernel
theorem dX10_about_151 : decode cX10_about 151 = .ok (.getfield 13, 3) := by decide +kernel
theorem dX10_about_154 : decode cX10_about 154 = .ok (.iload_n 1, 1) := by decide +kernel
theorem dX10_about_155 : decode cX10_about 155 = .ok (.iaload, 1) := by decide +kernel
theorem dX10_about_156 : decode cX10_about 156 = .ok (.ireturn, 1) := by decide +kernel
theorem dX10_galleryOf_0 : decode cX10_galleryOf 0 = .ok (.aload_n 0, 1) := by decide +kernel
theorem dX10_galleryOf_1 : decode cX10_galleryOf 1 = .ok (.aload_n 0, 1) := by decide +kernel
theorem dX10_galleryOf_2 : decode cX10_galleryOf 2 = .ok (.getfield 13, 3) := by decide +kernel
theorem dX10_galleryOf_5 : decode cX10_galleryOf 5 = .ok (.iload_n 1, 1) := by decide +kernel
theorem dX10_galleryOf_6 : decode cX10_galleryOf 6 = .ok (.invokestatic 41, 3) := by decide +kernel
theorem dX10_galleryOf_9 : decode cX10_galleryOf 9 = .ok (.ifCond .ne 7, 3) := by decide +kernel
theorem dX10_galleryOf_12 : decode cX10_galleryOf 12 = .ok (.iconst 1, 1) := by decide +kernel
theorem dX10_galleryOf_13 : decode cX10_galleryOf 13 = .ok (.goto 20, 3) := by decide +kernel
theorem dX10_galleryOf_16 : decode cX10_galleryOf 16 = .ok (.iload_n 2, 1) := by decide +kernel
theorem dX10_galleryOf_17 : decode cX10_galleryOf 17 = .ok (.i2l, 1) := by decide +kernel
theorem dX10_galleryOf_18 : decode cX10_galleryOf 18 = .ok (.lconst 0, 1) := by decide +kernel
theorem dX10_galleryOf_19 : decode cX10_galleryOf 19 = .ok (.ldc2_w 227, 3) := by decide +kernel
theorem dX10_galleryOf_22 : decode cX10_galleryOf 22 = .ok (.invokestatic 37, 3) := by decide +kernel
theorem dX10_galleryOf_25 : decode cX10_galleryOf 25 = .ok (.ifCond .eq 7, 3) := by decide +kernel
theorem dX10_galleryOf_28 : decode cX10_galleryOf 28 = .ok (.iconst 0, 1) := by decide +kernel
theorem dX10_galleryOf_29 : decode cX10_galleryOf 29 = .ok (.goto 4, 3) := by decide +kernel
theorem dX10_galleryOf_32 : decode cX10_galleryOf 32 = .ok (.iconst 2, 1) := by decide +kernel
theorem dX10_galleryOf_33 : decode cX10_galleryOf 33 = .ok (.invokevirtual 152, 3) := by decide +kernel
theorem dX10_galleryOf_36 : decode cX10_galleryOf 36 = .ok (.ifCond .eq 5, 3) := by decide +kernel
theorem dX10_galleryOf_39 : decode cX10_galleryOf 39 = .ok (.iconst 0, 1) := by decide +kernel
theorem dX10_galleryOf_40 : decode cX10_galleryOf 40 = .ok (.ireturn, 1) := by decide +kernel
theorem dX10_galleryOf_41 : decode cX10_galleryOf 41 = .ok (.iconst 0, 1) := by decide +kernel
theorem dX10_galleryOf_42 : decode cX10_galleryOf 42 = .ok (.istore_n 3, 1) := by decide +kernel
theorem dX10_galleryOf_43 : decode cX10_galleryOf 43 = .ok (.iconst 0, 1) := by decide +kernel
theorem dX10_galleryOf_44 : decode cX10_galleryOf 44 = .ok (.istore 4, 2) := by decide +kernel
theorem dX10_galleryOf_46 : decode cX10_galleryOf 46 = .ok (.iload 4, 2) := by decide +kernel
theorem dX10_galleryOf_48 : decode cX10_galleryOf 48 = .ok (.aload_n 0, 1) := by decide +kernel
theorem dX10_galleryOf_49 : decode cX10_galleryOf 49 = .ok (.getfield 13, 3) := by decide +kernel
theorem dX10_galleryOf_52 : decode cX10_galleryOf 52 = .ok (.iconst 1, 1) := by decide +kernel
theorem dX10_galleryOf_53 : decode cX10_galleryOf 53 = .ok (.iaload, 1) := by decide +kernel
theorem dX10_galleryOf_54 : decode cX10_galleryOf 54 = .ok (.if_icmp .ge 31, 3) := by decide +kernel
theorem dX10_galleryOf_57 : decode cX10_galleryOf 57 = .ok (.iload_n 3, 1) := by decide +kernel
theorem dX10_galleryOf_58 : decode cX10_galleryOf 58 = .ok (.aload_n 0, 1) := by decide +kernel
theorem dX10_galleryOf_59 : decode cX10_galleryOf 59 = .ok (.getfield 13, 3) := by decide +kernel
theorem dX10_galleryOf_62 : decode cX10_galleryOf 62 = .ok (.iload 4, 2) := by decide +kernel
theorem dX10_galleryOf_64 : decode cX10_galleryOf 64 = .ok (.iconst 0, 1) := by decide +kernel
theorem dX10_galleryOf_65 : decode cX10_galleryOf 65 = .ok (.invokestatic 99, 3) := by decide +kernel
theorem dX10_galleryOf_68 : decode cX10_galleryOf 68 = .ok (.iload_n 1, 1) := by decide +kernel
theorem dX10_galleryOf_69 : decode cX10_galleryOf 69 = .ok (.if_icmp .ne 7, 3) := by decide +kernel
theorem dX10_galleryOf_72 : decode cX10_galleryOf 72 = .ok (.iconst 1, 1) := by decide +kernel
theorem dX10_galleryOf_73 : decode cX10_galleryOf 73 = .ok (.goto 4, 3) := by decide +kernel
theorem dX10_galleryOf_76 : decode cX10_galleryOf 76 = .ok (.iconst 0, 1) := by decide +kernel
theorem dX10_galleryOf_77 : decode cX10_galleryOf 77 = .ok (.iadd, 1) := by decide +kernel
theorem dX10_galleryOf_78 : decode cX10_galleryOf 78 = .ok (.istore_n 3, 1) := by decide +kernel
theorem dX10_galleryOf_79 : decode cX10_galleryOf 79 = .ok (.iinc 4 1, 3) := by decide +kernel
theorem dX10_galleryOf_82 : decode cX10_galleryOf 82 = .ok (.goto (-36), 3) := by decide +kernel
theorem dX10_galleryOf_85 : decode cX10_galleryOf 85 = .ok (.iconst 0, 1) := by decide +kernel
theorem dX10_galleryOf_86 : decode cX10_galleryOf 86 = .ok (.istore 4, 2) := by decide +kernel
theorem dX10_galleryOf_88 : decode cX10_galleryOf 88 = .ok (.iconst 0, 1) := by decide +kernel
theorem dX10_galleryOf_89 : decode cX10_galleryOf 89 = .ok (.istore 5, 2) := by decide +kernel
theorem dX10_galleryOf_91 : decode cX10_galleryOf 91 = .ok (.iload 5, 2) := by decide +kernel
theorem dX10_galleryOf_93 : decode cX10_galleryOf 93 = .ok (.aload_n 0, 1) := by decide +kernel
theorem dX10_galleryOf_94 : decode cX10_galleryOf 94 = .ok (.getfield 13, 3) := by decide +kernel
theorem dX10_galleryOf_97 : decode cX10_galleryOf 97 = .ok (.iconst 2, 1) := by decide +kernel
theorem dX10_galleryOf_98 : decode cX10_galleryOf 98 = .ok (.iaload, 1) := by decide +kernel
theorem dX10_galleryOf_99 : decode cX10_galleryOf 99 = .ok (.if_icmp .ge 33, 3) := by decide +kernel
theorem dX10_galleryOf_102 : decode cX10_galleryOf 102 = .ok (.iload 4, 2) := by decide +kernel
theorem dX10_galleryOf_104 : decode cX10_galleryOf 104 = .ok (.aload_n 0, 1) := by decide +kernel
theorem dX10_galleryOf_105 : decode cX10_galleryOf 105 = .ok (.getfield 13, 3) := by decide +kernel
theorem dX10_galleryOf_108 : decode cX10_galleryOf 108 = .ok (.iload 5, 2) := by decide +kernel
theorem dX10_galleryOf_110 : decode cX10_galleryOf 110 = .ok (.iconst 2, 1) := by decide +kernel
theorem dX10_galleryOf_111 : decode cX10_galleryOf 111 = .ok (.invokestatic 51, 3) := by decide +kernel
theorem dX10_galleryOf_114 : decode cX10_galleryOf 114 = .ok (.iload_n 1, 1) := by decide +kernel
theorem dX10_galleryOf_115 : decode cX10_galleryOf 115 = .ok (.if_icmp .ne 7, 3) := by decide +kernel
theorem dX10_galleryOf_118 : decode cX10_galleryOf 118 = .ok (.iconst 1, 1) := by decide +kernel
theorem dX10_galleryOf_119 : decode cX10_galleryOf 119 = .ok (.goto 4, 3) := by decide +kernel
theorem dX10_galleryOf_122 : decode cX10_galleryOf 122 = .ok (.iconst 0, 1) := by decide +kernel
theorem dX10_galleryOf_123 : decode cX10_galleryOf 123 = .ok (.iadd, 1) := by decide +kernel
theorem dX10_galleryOf_124 : decode cX10_galleryOf 124 = .ok (.istore 4, 2) := by decide +kernel
theorem dX10_galleryOf_126 : decode cX10_galleryOf 126 = .ok (.iinc 5 1, 3) := by decide +kernel
theorem dX10_galleryOf_129 : decode cX10_galleryOf 129 = .ok (.goto (-38), 3) := by decide +kernel
theorem dX10_galleryOf_132 : decode cX10_galleryOf 132 = .ok (.iload_n 2, 1) := by decide +kernel
theorem dX10_galleryOf_133 : decode cX10_galleryOf 133 = .ok (.tableswitch 89 0 4 #[35, 35, 49, 62, 87], 35) := by decide +kernel
theorem dX10_galleryOf_168 : decode cX10_galleryOf 168 = .ok (.aload_n 0, 1) := by decide +kernel
theorem dX10_galleryOf_169 : decode cX10_galleryOf 169 = .ok (.getfield 13, 3) := by decide +kernel
theorem dX10_galleryOf_172 : decode cX10_galleryOf 172 = .ok (.bipush 18, 2) := by decide +kernel
theorem dX10_galleryOf_174 : decode cX10_galleryOf 174 = .ok (.iconst 2, 1) := by decide +kernel
theorem dX10_galleryOf_175 : decode cX10_galleryOf 175 = .ok (.iload_n 1, 1) := by decide +kernel
theorem dX10_galleryOf_176 : decode cX10_galleryOf 176 = .ok (.imul, 1) := by decide +kernel
theorem dX10_galleryOf_177 : decode cX10_galleryOf 177 = .ok (.iadd, 1) := by decide +kernel
theorem dX10_galleryOf_178 : decode cX10_galleryOf 178 = .ok (.iload_n 2, 1) := by decide +kernel
theorem dX10_galleryOf_179 : decode cX10_galleryOf 179 = .ok (.iadd, 1) := by decide +kernel
theorem dX10_galleryOf_180 : decode cX10_galleryOf 180 = .ok (.iaload, 1) := by decide +kernel
theorem dX10_galleryOf_181 : decode cX10_galleryOf 181 = .ok (.ireturn, 1) := by decide +kernel
theorem dX10_galleryOf_182 : decode cX10_galleryOf 182 = .ok (.iload_n 1, 1) := by decide +kernel
theorem dX10_galleryOf_183 : decode cX10_galleryOf 183 = .ok (.aload_n 0, 1) := by decide +kernel
theorem dX10_galleryOf_184 : decode cX10_galleryOf 184 = .ok (.getfield 13, 3) := by decide +kernel
theorem dX10_galleryOf_187 : decode cX10_galleryOf 187 = .ok (.iload_n 1, 1) := by decide +kernel
theorem dX10_galleryOf_188 : decode cX10_galleryOf 188 = .ok (.invokestatic 45, 3) := by decide +kernel
theorem dX10_galleryOf_191 : decode cX10_galleryOf 191 = .ok (.invokestatic 106, 3) := by decide +kernel
theorem dX10_galleryOf_194 : decode cX10_galleryOf 194 = .ok (.ireturn, 1) := by decide +kernel
theorem dX10_galleryOf_195 : decode cX10_galleryOf 195 = .ok (.aload_n 0, 1) := by decide +kernel
theorem dX10_galleryOf_196 : decode cX10_galleryOf 196 = .ok (.getfield 13, 3) := by decide +kernel
theorem dX10_galleryOf_199 : decode cX10_galleryOf 199 = .ok (.iload_n 1, 1) := by decide +kernel
theorem dX10_galleryOf_200 : decode cX10_galleryOf 200 = .ok (.aload_n 0, 1) := by decide +kernel
theorem dX10_galleryOf_201 : decode cX10_galleryOf 201 = .ok (.getfield 13, 3) := by decide +kernel
theorem dX10_galleryOf_204 : decode cX10_galleryOf 204 = .ok (.iload_n 1, 1) := by decide +kernel
theorem dX10_galleryOf_205 : decode cX10_galleryOf 205 = .ok (.invokestatic 45, 3) := by decide +kernel
theorem dX10_galleryOf_208 : decode cX10_galleryOf 208 = .ok (.invokestatic 102, 3) := by decide +kernel
theorem dX10_galleryOf_211 : decode cX10_galleryOf 211 = .ok (.ifCond .eq 7, 3) := by decide +kernel
theorem dX10_galleryOf_214 : decode cX10_galleryOf 214 = .ok (.iconst 1, 1) := by decide +kernel
theorem dX10_galleryOf_215 : decode cX10_galleryOf 215 = .ok (.goto 4, 3) := by decide +kernel
theorem dX10_galleryOf_218 : decode cX10_galleryOf 218 = .ok (.iconst 0, 1) := by decide +kernel
theorem dX10_galleryOf_219 : decode cX10_galleryOf 219 = .ok (.ireturn, 1) := by decide +kernel
theorem dX10_galleryOf_220 : decode cX10_galleryOf 220 = .ok (.iload_n 3, 1) := by decide +kernel
theorem dX10_galleryOf_221 : decode cX10_galleryOf 221 = .ok (.ireturn, 1) := by decide +kernel
theorem dX10_galleryOf_222 : decode cX10_galleryOf 222 = .ok (.iload 4, 2) := by decide +kernel
theorem dX10_galleryOf_224 : decode cX10_galleryOf 224 = .ok (.ireturn, 1) := by decide +kernel
theorem dX10_minerOf_0 : decode cX10_minerOf 0 = .ok (.aload_n 0, 1) := by decide +kernel
theorem dX10_minerOf_1 : decode cX10_minerOf 1 = .ok (.aload_n 0, 1) := by decide +kernel
theorem dX10_minerOf_2 : decode cX10_minerOf 2 = .ok (.getfield 13, 3) := by decide +kernel
theorem dX10_minerOf_5 : decode cX10_minerOf 5 = .ok (.iload_n 1, 1) := by decide +kernel
theorem dX10_minerOf_6 : decode cX10_minerOf 6 = .ok (.invokestatic 229, 3) := by decide +kernel
theorem dX10_minerOf_9 : decode cX10_minerOf 9 = .ok (.ifCond .ne 7, 3) := by decide +kernel
theorem dX10_minerOf_12 : decode cX10_minerOf 12 = .ok (.iconst 1, 1) := by decide +kernel
theorem dX10_minerOf_13 : decode cX10_minerOf 13 = .ok (.goto 20, 3) := by decide +kernel
theorem dX10_minerOf_16 : decode cX10_minerOf 16 = .ok (.iload_n 2, 1) := by decide +kernel
theorem dX10_minerOf_17 : decode cX10_minerOf 17 = .ok (.i2l, 1) := by decide +kernel
theorem dX10_minerOf_18 : decode cX10_minerOf 18 = .ok (.lconst 0, 1) := by decide +kernel
theorem dX10_minerOf_19 : decode cX10_minerOf 19 = .ok (.ldc2_w 232, 3) := by decide +kernel
theorem dX10_minerOf_22 : decode cX10_minerOf 22 = .ok (.invokestatic 37, 3) := by decide +kernel
theorem dX10_minerOf_25 : decode cX10_minerOf 25 = .ok (.ifCond .eq 7, 3) := by decide +kernel
theorem dX10_minerOf_28 : decode cX10_minerOf 28 = .ok (.iconst 0, 1) := by decide +kernel
theorem dX10_minerOf_29 : decode cX10_minerOf 29 = .ok (.goto 4, 3) := by decide +kernel
theorem dX10_minerOf_32 : decode cX10_minerOf 32 = .ok (.iconst 2, 1) := by decide +kernel
theorem dX10_minerOf_33 : decode cX10_minerOf 33 = .ok (.invokevirtual 152, 3) := by decide +kernel
theorem dX10_minerOf_36 : decode cX10_minerOf 36 = .ok (.ifCond .eq 5, 3) := by decide +kernel
theorem dX10_minerOf_39 : decode cX10_minerOf 39 = .ok (.iconst 0, 1) := by decide +kernel
theorem dX10_minerOf_40 : decode cX10_minerOf 40 = .ok (.ireturn, 1) := by decide +kernel
theorem dX10_minerOf_41 : decode cX10_minerOf 41 = .ok (.aload_n 0, 1) := by decide +kernel
theorem dX10_minerOf_42 : decode cX10_minerOf 42 = .ok (.getfield 13, 3) := by decide +kernel
theorem dX10_minerOf_45 : decode cX10_minerOf 45 = .ok (.iload_n 1, 1) := by decide +kernel
theorem dX10_minerOf_46 : decode cX10_minerOf 46 = .ok (.iload_n 2, 1) := by decide +kernel
theorem dX10_minerOf_47 : decode cX10_minerOf 47 = .ok (.invokestatic 99, 3) := by decide +kernel
theorem dX10_minerOf_50 : decode cX10_minerOf 50 = .ok (.ireturn, 1) := by decide +kernel
theorem dX10_lampOf_0 : decode cX10_lampOf 0 = .ok (.aload_n 0, 1) := by decide +kernel
theorem dX10_lampOf_1 : decode cX10_lampOf 1 = .ok (.aload_n 0, 1) := by decide +kernel
theorem dX10_lampOf_2 : decode cX10_lampOf 2 = .ok (.getfield 13, 3) := by decide +kernel
theorem dX10_lampOf_5 : decode cX10_lampOf 5 = .ok (.iload_n 1, 1) := by decide +kernel
theorem dX10_lampOf_6 : decode cX10_lampOf 6 = .ok (.invokestatic 142, 3) := by decide +kernel
theorem dX10_lampOf_9 : decode cX10_lampOf 9 = .ok (.ifCond .ne 7, 3) := by decide +kernel
theorem dX10_lampOf_12 : decode cX10_lampOf 12 = .ok (.iconst 1, 1) := by decide +kernel
theorem dX10_lampOf_13 : decode cX10_lampOf 13 = .ok (.goto 20, 3) := by decide +kernel
theorem dX10_lampOf_16 : decode cX10_lampOf 16 = .ok (.iload_n 2, 1) := by decide +kernel
theorem dX10_lampOf_17 : decode cX10_lampOf 17 = .ok (.i2l, 1) := by decide +kernel
theorem dX10_lampOf_18 : decode cX10_lampOf 18 = .ok (.lconst 0, 1) := by decide +kernel
theorem dX10_lampOf_19 : decode cX10_lampOf 19 = .ok (.ldc2_w 234, 3) := by decide +kernel
theorem dX10_lampOf_22 : decode cX10_lampOf 22 = .ok (.invokestatic 37, 3) := by decide +kernel
theorem dX10_lampOf_25 : decode cX10_lampOf 25 = .ok (.ifCond .eq 7, 3) := by decide +kernel
theorem dX10_lampOf_28 : decode cX10_lampOf 28 = .ok (.iconst 0, 1) := by decide +kernel
theorem dX10_lampOf_29 : decode cX10_lampOf 29 = .ok (.goto 4, 3) := by decide +kernel
theorem dX10_lampOf_32 : decode cX10_lampOf 32 = .ok (.iconst 2, 1) := by decide +kernel
theorem dX10_lampOf_33 : decode cX10_lampOf 33 = .ok (.invokevirtual 152, 3) := by decide +kernel
theorem dX10_lampOf_36 : decode cX10_lampOf 36 = .ok (.ifCond .eq 5, 3) := by decide +kernel
theorem dX10_lampOf_39 : decode cX10_lampOf 39 = .ok (.iconst 0, 1) := by decide +kernel
theorem dX10_lampOf_40 : decode cX10_lampOf 40 = .ok (.ireturn, 1) := by decide +kernel
theorem dX10_lampOf_41 : decode cX10_lampOf 41 = .ok (.iload_n 2, 1) := by decide +kernel
theorem dX10_lampOf_42 : decode cX10_lampOf 42 = .ok (.iconst 4, 1) := by decide +kernel
theorem dX10_lampOf_43 : decode cX10_lampOf 43 = .ok (.if_icmp .ne 23, 3) := by decide +kernel
theorem dX10_lampOf_46 : decode cX10_lampOf 46 = .ok (.aload_n 0, 1) := by decide +kernel
theorem dX10_lampOf_47 : decode cX10_lampOf 47 = .ok (.getfield 13, 3) := by decide +kernel
theorem dX10_lampOf_50 : decode cX10_lampOf 50 = .ok (.iload_n 1, 1) := by decide +kernel
theorem dX10_lampOf_51 : decode cX10_lampOf 51 = .ok (.iconst 1, 1) := by decide +kernel
theorem dX10_lampOf_52 : decode cX10_lampOf 52 = .ok (.invokestatic 51, 3) := by decide +kernel
theorem dX10_lampOf_55 : decode cX10_lampOf 55 = .ok (.ifCond .le 7, 3) := by decide +kernel
theorem dX10_lampOf_58 : decode cX10_lampOf 58 = .ok (.iconst 1, 1) := by decide +kernel
theorem dX10_lampOf_59 : decode cX10_lampOf 59 = .ok (.goto 16, 3) := by decide +kernel
theorem dX10_lampOf_62 : decode cX10_lampOf 62 = .ok (.iconst 0, 1) := by decide +kernel
theorem dX10_lampOf_63 : decode cX10_lampOf 63 = .ok (.goto 12, 3) := by decide +kernel
theorem dX10_lampOf_66 : decode cX10_lampOf 66 = .ok (.aload_n 0, 1) := by decide +kernel
theorem dX10_lampOf_67 : decode cX10_lampOf 67 = .ok (.getfield 13, 3) := by decide +kernel
theorem dX10_lampOf_70 : decode cX10_lampOf 70 = .ok (.iload_n 1, 1) := by decide +kernel
theorem dX10_lampOf_71 : decode cX10_lampOf 71 = .ok (.iload_n 2, 1) := by decide +kernel
theorem dX10_lampOf_72 : decode cX10_lampOf 72 = .ok (.invokestatic 51, 3) := by decide +kernel
theorem dX10_lampOf_75 : decode cX10_lampOf 75 = .ok (.ireturn, 1) := by decide +kernel
theorem dX10_stepsLeft_0 : decode cX10_stepsLeft 0 = .ok (.aload_n 0, 1) := by decide +kernel
theorem dX10_stepsLeft_1 : decode cX10_stepsLeft 1 = .ok (.getfield 13, 3) := by decide +kernel
theorem dX10_stepsLeft_4 : decode cX10_stepsLeft 4 = .ok (.iconst 0, 1) := by decide +kernel
theorem dX10_stepsLeft_5 : decode cX10_stepsLeft 5 = .ok (.aload_n 0, 1) := by decide +kernel
theorem dX10_stepsLeft_6 : decode cX10_stepsLeft 6 = .ok (.getfield 16, 3) := by decide +kernel
theorem dX10_stepsLeft_9 : decode cX10_stepsLeft 9 = .ok (.iconst 0, 1) := by decide +kernel
theorem dX10_stepsLeft_10 : decode cX10_stepsLeft 10 = .ok (.invokestatic 220, 3) := by decide +kernel
theorem dX10_stepsLeft_13 : decode cX10_stepsLeft 13 = .ok (.iconst 0, 1) := by decide +kernel
theorem dX10_stepsLeft_14 : decode cX10_stepsLeft 14 = .ok (.istore_n 1, 1) := by decide +kernel
theorem dX10_stepsLeft_15 : decode cX10_stepsLeft 15 = .ok (.aload_n 0, 1) := by decide +kernel
theorem dX10_stepsLeft_16 : decode cX10_stepsLeft 16 = .ok (.getfield 16, 3) := by decide +kernel
theorem dX10_stepsLeft_19 : decode cX10_stepsLeft 19 = .ok (.invokestatic 93, 3) := by decide +kernel
theorem dX10_stepsLeft_22 : decode cX10_stepsLeft 22 = .ok (.aload_n 0, 1) := by decide +kernel
theorem dX10_stepsLeft_23 : decode cX10_stepsLeft 23 = .ok (.getfield 16, 3) := by decide +kernel
theorem dX10_stepsLeft_26 : decode cX10_stepsLeft 26 = .ok (.bipush 8, 2) := by decide +kernel
theorem dX10_stepsLeft_28 : decode cX10_stepsLeft 28 = .ok (.iaload, 1) := by decide +kernel
theorem dX10_stepsLeft_29 : decode cX10_stepsLeft 29 = .ok (.ifCond .le 23, 3) := by decide +kernel
theorem dX10_stepsLeft_32 : decode cX10_stepsLeft 32 = .ok (.aload_n 0, 1) := by decide +kernel
theorem dX10_stepsLeft_33 : decode cX10_stepsLeft 33 = .ok (.getfield 16, 3) := by decide +kernel
theorem dX10_stepsLeft_36 : decode cX10_stepsLeft 36 = .ok (.invokestatic 96, 3) := by decide +kernel
theorem dX10_stepsLeft_39 : decode cX10_stepsLeft 39 = .ok (.iinc 1 1, 3) := by decide +kernel
theorem dX10_stepsLeft_42 : decode cX10_stepsLeft 42 = .ok (.aload_n 0, 1) := by decide +kernel
theorem dX10_stepsLeft_43 : decode cX10_stepsLeft 43 = .ok (.getfield 16, 3) := by decide +kernel
theorem dX10_stepsLeft_46 : decode cX10_stepsLeft 46 = .ok (.invokestatic 93, 3) := by decide +kernel
theorem dX10_stepsLeft_49 : decode cX10_stepsLeft 49 = .ok (.goto (-27), 3) := by decide +kernel
theorem dX10_stepsLeft_52 : decode cX10_stepsLeft 52 = .ok (.iload_n 1, 1) := by decide +kernel
theorem dX10_stepsLeft_53 : decode cX10_stepsLeft 53 = .ok (.ireturn, 1) := by decide +kernel
theorem dX10_lad_0 : decode cX10_lad 0 = .ok (.aload_n 0, 1) := by decide +kernel
theorem dX10_lad_1 : decode cX10_lad 1 = .ok (.iload_n 1, 1) := by decide +kernel
theorem dX10_lad_2 : decode cX10_lad 2 = .ok (.i2l, 1) := by decide +kernel
theorem dX10_lad_3 : decode cX10_lad 3 = .ok (.lconst 0, 1) := by decide +kernel
theorem dX10_lad_4 : decode cX10_lad 4 = .ok (.ldc2_w 232, 3) := by decide +kernel
theorem dX10_lad_7 : decode cX10_lad 7 = .ok (.invokestatic 37, 3) := by decide +kernel
theorem dX10_lad_10 : decode cX10_lad 10 = .ok (.ifCond .eq 7, 3) := by decide +kernel
theorem dX10_lad_13 : decode cX10_lad 13 = .ok (.iconst 0, 1) := by decide +kernel
theorem dX10_lad_14 : decode cX10_lad 14 = .ok (.goto 4, 3) := by decide +kernel
theorem dX10_lad_17 : decode cX10_lad 17 = .ok (.iconst 1, 1) := by decide +kernel
theorem dX10_lad_18 : decode cX10_lad 18 = .ok (.invokevirtual 152, 3) := by decide +kernel
theorem dX10_lad_21 : decode cX10_lad 21 = .ok (.ifCond .eq 5, 3) := by decide +kernel
theorem dX10_lad_24 : decode cX10_lad 24 = .ok (.iconst 0, 1) := by decide +kernel
theorem dX10_lad_25 : decode cX10_lad 25 = .ok (.ireturn, 1) := by decide +kernel
theorem dX10_lad_26 : decode cX10_lad 26 = .ok (.iload_n 1, 1) := by decide +kernel
theorem dX10_lad_27 : decode cX10_lad 27 = .ok (.ifCond .ne 13, 3) := by decide +kernel
theorem dX10_lad_30 : decode cX10_lad 30 = .ok (.aload_n 0, 1) := by decide +kernel
theorem dX10_lad_31 : decode cX10_lad 31 = .ok (.getfield 13, 3) := by decide +kernel
theorem dX10_lad_34 : decode cX10_lad 34 = .ok (.bipush 11, 2) := by decide +kernel
theorem dX10_lad_36 : decode cX10_lad 36 = .ok (.iaload, 1) := by decide +kernel
theorem dX10_lad_37 : decode cX10_lad 37 = .ok (.goto 37, 3) := by decide +kernel
theorem dX10_lad_40 : decode cX10_lad 40 = .ok (.iload_n 1, 1) := by decide +kernel
theorem dX10_lad_41 : decode cX10_lad 41 = .ok (.iconst 1, 1) := by decide +kernel
theorem dX10_lad_42 : decode cX10_lad 42 = .ok (.if_icmp .ne 13, 3) := by decide +kernel
theorem dX10_lad_45 : decode cX10_lad 45 = .ok (.aload_n 0, 1) := by decide +kernel
theorem dX10_lad_46 : decode cX10_lad 46 = .ok (.getfield 13, 3) := by decide +kernel
theorem dX10_lad_49 : decode cX10_lad 49 = .ok (.bipush 12, 2) := by decide +kernel
theorem dX10_lad_51 : decode cX10_lad 51 = .ok (.iaload, 1) := by decide +kernel
theorem dX10_lad_52 : decode cX10_lad 52 = .ok (.goto 22, 3) := by decide +kernel
theorem dX10_lad_55 : decode cX10_lad 55 = .ok (.iload_n 1, 1) := by decide +kernel
theorem dX10_lad_56 : decode cX10_lad 56 = .ok (.iconst 2, 1) := by decide +kernel
theorem dX10_lad_57 : decode cX10_lad 57 = .ok (.if_icmp .ne 13, 3) := by decide +kernel
theorem dX10_lad_60 : decode cX10_lad 60 = .ok (.aload_n 0, 1) := by decide +kernel
theorem dX10_lad_61 : decode cX10_lad 61 = .ok (.getfield 13, 3) := by decide +kernel
theorem dX10_lad_64 : decode cX10_lad 64 = .ok (.bipush 13, 2) := by decide +kernel
theorem dX10_lad_66 : decode cX10_lad 66 = .ok (.iaload, 1) := by decide +kernel
theorem dX10_lad_67 : decode cX10_lad 67 = .ok (.goto 7, 3) := by decide +kernel
theorem dX10_lad_70 : decode cX10_lad 70 = .ok (.aload_n 0, 1) := by decide +kernel
theorem dX10_lad_71 : decode cX10_lad 71 = .ok (.invokevirtual 236, 3) := by decide +kernel
theorem dX10_lad_74 : decode cX10_lad 74 = .ok (.ireturn, 1) := by decide +kernel
theorem dX10_orderOf_0 : decode cX10_orderOf 0 = .ok (.aload_n 0, 1) := by decide +kernel
theorem dX10_orderOf_1 : decode cX10_orderOf 1 = .ok (.iload_n 1, 1) := by decide +kernel
theorem dX10_orderOf_2 : decode cX10_orderOf 2 = .ok (.i2l, 1) := by decide +kernel
theorem dX10_orderOf_3 : decode cX10_orderOf 3 = .ok (.lconst 0, 1) := by decide +kernel
theorem dX10_orderOf_4 : decode cX10_orderOf 4 = .ok (.aload_n 0, 1) := by decide +kernel
theorem dX10_orderOf_5 : decode cX10_orderOf 5 = .ok (.getfield 13, 3) := by decide +kernel
theorem dX10_orderOf_8 : decode cX10_orderOf 8 = .ok (.bipush 8, 2) := by decide +kernel
theorem dX10_orderOf_10 : decode cX10_orderOf 10 = .ok (.iaload, 1) := by decide +kernel
theorem dX10_orderOf_11 : decode cX10_orderOf 11 = .ok (.iconst 1, 1) := by decide +kernel
theorem dX10_orderOf_12 : decode cX10_orderOf 12 = .ok (.isub, 1) := by decide +kernel
theorem dX10_orderOf_13 : decode cX10_orderOf 13 = .ok (.i2l, 1) := by decide +kernel
theorem dX10_orderOf_14 : decode cX10_orderOf 14 = .ok (.invokestatic 37, 3) := by decide +kernel
theorem dX10_orderOf_17 : decode cX10_orderOf 17 = .ok (.ifCond .ne 7, 3) := by decide +kernel
theorem dX10_orderOf_20 : decode cX10_orderOf 20 = .ok (.iconst 1, 1) := by decide +kernel
theorem dX10_orderOf_21 : decode cX10_orderOf 21 = .ok (.goto 20, 3) := by decide +kernel
theorem dX10_orderOf_24 : decode cX10_orderOf 24 = .ok (.iload_n 2, 1) := by decide +kernel
theorem dX10_orderOf_25 : decode cX10_orderOf 25 = .ok (.i2l, 1) := by decide +kernel
theorem dX10_orderOf_26 : decode cX10_orderOf 26 = .ok (.lconst 0, 1) := by decide +kernel
theorem dX10_orderOf_27 : decode cX10_orderOf 27 = .ok (.ldc2_w 232, 3) := by decide +kernel
theorem dX10_orderOf_30 : decode cX10_orderOf 30 = .ok (.invokestatic 37, 3) := by decide +kernel
theorem dX10_orderOf_33 : decode cX10_orderOf 33 = .ok (.ifCond .eq 7, 3) := by decide +kernel
theorem dX10_orderOf_36 : decode cX10_orderOf 36 = .ok (.iconst 0, 1) := by decide +kernel
theorem dX10_orderOf_37 : decode cX10_orderOf 37 = .ok (.goto 4, 3) := by decide +kernel
theorem dX10_orderOf_40 : decode cX10_orderOf 40 = .ok (.iconst 2, 1) := by decide +kernel
theorem dX10_orderOf_41 : decode cX10_orderOf 41 = .ok (.invokevirtual 152, 3) := by decide +kernel
theorem dX10_orderOf_44 : decode cX10_orderOf 44 = .ok (.ifCond .eq 5, 3) := by decide +kernel
theorem dX10_orderOf_47 : decode cX10_orderOf 47 = .ok (.iconst 0, 1) := by decide +kernel
theorem dX10_orderOf_48 : decode cX10_orderOf 48 = .ok (.ireturn, 1) := by decide +kernel
theorem dX10_orderOf_49 : decode cX10_orderOf 49 = .ok (.aload_n 0, 1) := by decide +kernel
theorem dX10_orderOf_50 : decode cX10_orderOf 50 = .ok (.getfield 13, 3) := by decide +kernel
theorem dX10_orderOf_53 : decode cX10_orderOf 53 = .ok (.iload_n 1, 1) := by decide +kernel
theorem dX10_orderOf_54 : decode cX10_orderOf 54 = .ok (.iload_n 2, 1) := by decide +kernel
theorem dX10_orderOf_55 : decode cX10_orderOf 55 = .ok (.invokestatic 59, 3) := by decide +kernel
theorem dX10_orderOf_58 : decode cX10_orderOf 58 = .ok (.ireturn, 1) := by decide +kernel
theorem dX10_lit_0 : decode cX10_lit 0 = .ok (.aload_n 0, 1) := by decide +kernel
theorem dX10_lit_1 : decode cX10_lit 1 = .ok (.aload_n 0, 1) := by decide +kernel
theorem dX10_lit_2 : decode cX10_lit 2 = .ok (.getfield 13, 3) := by decide +kernel
theorem dX10_lit_5 : decode cX10_lit 5 = .ok (.iload_n 1, 1) := by decide +kernel
theorem dX10_lit_6 : decode cX10_lit 6 = .ok (.invokestatic 41, 3) := by decide +kernel
theorem dX10_lit_9 : decode cX10_lit 9 = .ok (.ifCond .ne 7, 3) := by decide +kernel
theorem dX10_lit_12 : decode cX10_lit 12 = .ok (.iconst 1, 1) := by decide +kernel
theorem dX10_lit_13 : decode cX10_lit 13 = .ok (.goto 18, 3) := by decide +kernel
theorem dX10_lit_16 : decode cX10_lit 16 = .ok (.iload_n 2, 1) := by decide +kernel
theorem dX10_lit_17 : decode cX10_lit 17 = .ok (.i2l, 1) := by decide +kernel
theorem dX10_lit_18 : decode cX10_lit 18 = .ok (.lconst 0, 1) := by decide +kernel
theorem dX10_lit_19 : decode cX10_lit 19 = .ok (.lconst 1, 1) := by decide +kernel
theorem dX10_lit_20 : decode cX10_lit 20 = .ok (.invokestatic 37, 3) := by decide +kernel
theorem dX10_lit_23 : decode cX10_lit 23 = .ok (.ifCond .eq 7, 3) := by decide +kernel
theorem dX10_lit_26 : decode cX10_lit 26 = .ok (.iconst 0, 1) := by decide +kernel
theorem dX10_lit_27 : decode cX10_lit 27 = .ok (.goto 4, 3) := by decide +kernel
theorem dX10_lit_30 : decode cX10_lit 30 = .ok (.iconst 2, 1) := by decide +kernel
theorem dX10_lit_31 : decode cX10_lit 31 = .ok (.invokevirtual 152, 3) := by decide +kernel
theorem dX10_lit_34 : decode cX10_lit 34 = .ok (.ifCond .eq 5, 3) := by decide +kernel
theorem dX10_lit_37 : decode cX10_lit 37 = .ok (.iconst 0, 1) := by decide +kernel
theorem dX10_lit_38 : decode cX10_lit 38 = .ok (.ireturn, 1) := by decide +kernel
theorem dX10_lit_39 : decode cX10_lit 39 = .ok (.iconst 0, 1) := by decide +kernel
theorem dX10_lit_40 : decode cX10_lit 40 = .ok (.istore_n 3, 1) := by decide +kernel
theorem dX10_lit_41 : decode cX10_lit 41 = .ok (.iconst 0, 1) := by decide +kernel
theorem dX10_lit_42 : decode cX10_lit 42 = .ok (.istore 4, 2) := by decide +kernel
theorem dX10_lit_44 : decode cX10_lit 44 = .ok (.iload 4, 2) := by decide +kernel
theorem dX10_lit_46 : decode cX10_lit 46 = .ok (.aload_n 0, 1) := by decide +kernel
theorem dX10_lit_47 : decode cX10_lit 47 = .ok (.getfield 13, 3) := by decide +kernel
theorem dX10_lit_50 : decode cX10_lit 50 = .ok (.iload_n 1, 1) := by decide +kernel
theorem dX10_lit_51 : decode cX10_lit 51 = .ok (.invokestatic 45, 3) := by decide +kernel
theorem dX10_lit_54 : decode cX10_lit 54 = .ok (.if_icmp .ge 30, 3) := by decide +kernel
theorem dX10_lit_57 : decode cX10_lit 57 = .ok (.iload_n 3, 1) := by decide +kernel
theorem dX10_lit_58 : decode cX10_lit 58 = .ok (.aload_n 0, 1) := by decide +kernel
theorem dX10_lit_59 : decode cX10_lit 59 = .ok (.getfield 13, 3) := by decide +kernel
theorem dX10_lit_62 : decode cX10_lit 62 = .ok (.iload_n 1, 1) := by decide +kernel
theorem dX10_lit_63 : decode cX10_lit 63 = .ok (.iload 4, 2) := by decide +kernel
theorem dX10_lit_65 : decode cX10_lit 65 = .ok (.invokestatic 102, 3) := by decide +kernel
theorem dX10_lit_68 : decode cX10_lit 68 = .ok (.ifCond .eq 7, 3) := by decide +kernel
theorem dX10_lit_71 : decode cX10_lit 71 = .ok (.iconst 1, 1) := by decide +kernel
theorem dX10_lit_72 : decode cX10_lit 72 = .ok (.goto 4, 3) := by decide +kernel
theorem dX10_lit_75 : decode cX10_lit 75 = .ok (.iconst 0, 1) := by decide +kernel
theorem dX10_lit_76 : decode cX10_lit 76 = .ok (.iadd, 1) := by decide +kernel
theorem dX10_lit_77 : decode cX10_lit 77 = .ok (.istore_n 3, 1) := by decide +kernel
theorem dX10_lit_78 : decode cX10_lit 78 = .ok (.iinc 4 1, 3) := by decide +kernel
theorem dX10_lit_81 : decode cX10_lit 81 = .ok (.goto (-37), 3) := by decide +kernel
theorem dX10_lit_84 : decode cX10_lit 84 = .ok (.iload_n 3, 1) := by decide +kernel
theorem dX10_lit_85 : decode cX10_lit 85 = .ok (.ireturn, 1) := by decide +kernel
theorem dX10_remember_0 : decode cX10_remember 0 = .ok (.aload_n 0, 1) := by decide +kernel
theorem dX10_remember_1 : decode cX10_remember 1 = .ok (.getfield 224, 3) := by decide +kernel
theorem dX10_remember_4 : decode cX10_remember 4 = .ok (.bipush 14, 2) := by decide +kernel
theorem dX10_remember_6 : decode cX10_remember 6 = .ok (.if_icmp .ne 43, 3) := by decide +kernel
theorem dX10_remember_9 : decode cX10_remember 9 = .ok (.iconst 0, 1) := by decide +kernel
theorem dX10_remember_10 : decode cX10_remember 10 = .ok (.istore_n 1, 1) := by decide +kernel
theorem dX10_remember_11 : decode cX10_remember 11 = .ok (.iload_n 1, 1) := by decide +kernel
theorem dX10_remember_12 : decode cX10_remember 12 = .ok (.sipush 1352, 3) := by decide +kernel
theorem dX10_remember_15 : decode cX10_remember 15 = .ok (.if_icmp .ge 24, 3) := by decide +kernel
theorem dX10_remember_18 : decode cX10_remember 18 = .ok (.aload_n 0, 1) := by decide +kernel
theorem dX10_remember_19 : decode cX10_remember 19 = .ok (.getfield 19, 3) := by decide +kernel
theorem dX10_remember_22 : decode cX10_remember 22 = .ok (.iload_n 1, 1) := by decide +kernel
theorem dX10_remember_23 : decode cX10_remember 23 = .ok (.aload_n 0, 1) := by decide +kernel
theorem dX10_remember_24 : decode cX10_remember 24 = .ok (.getfield 19, 3) := by decide +kernel
theorem dX10_remember_27 : decode cX10_remember 27 = .ok (.iload_n 1, 1) := by decide +kernel
theorem dX10_remember_28 : decode cX10_remember 28 = .ok (.bipush 104, 2) := by decide +kernel
theorem dX10_remember_30 : decode cX10_remember 30 = .ok (.iadd, 1) := by decide +kernel
theorem dX10_remember_31 : decode cX10_remember 31 = .ok (.iaload, 1) := by decide +kernel
theorem dX10_remember_32 : decode cX10_remember 32 = .ok (.iastore, 1) := by decide +kernel
theorem dX10_remember_33 : decode cX10_remember 33 = .ok (.iinc 1 1, 3) := by decide +kernel
theorem dX10_remember_36 : decode cX10_remember 36 = .ok (.goto (-25), 3) := by decide +kernel
theorem dX10_remember_39 : decode cX10_remember 39 = .ok (.aload_n 0, 1) := by decide +kernel
theorem dX10_remember_40 : decode cX10_remember 40 = .ok (.dup, 1) := by decide +kernel
theorem dX10_remember_41 : decode cX10_remember 41 = .ok (.getfield 224, 3) := by decide +kernel
theorem dX10_remember_44 : decode cX10_remember 44 = .ok (.iconst 1, 1) := by decide +kernel
theorem dX10_remember_45 : decode cX10_remember 45 = .ok (.isub, 1) := by decide +kernel
theorem dX10_remember_46 : decode cX10_remember 46 = .ok (.putfield 224, 3) := by decide +kernel
theorem dX10_remember_49 : decode cX10_remember 49 = .ok (.aload_n 0, 1) := by decide +kernel
theorem dX10_remember_50 : decode cX10_remember 50 = .ok (.getfield 13, 3) := by decide +kernel
theorem dX10_remember_53 : decode cX10_remember 53 = .ok (.iconst 0, 1) := by decide +kernel
theorem dX10_remember_54 : decode cX10_remember 54 = .ok (.aload_n 0, 1) := by decide +kernel
theorem dX10_remember_55 : decode cX10_remember 55 = .ok (.getfield 19, 3) := by decide +kernel
theorem dX10_remember_58 : decode cX10_remember 58 = .ok (.bipush 104, 2) := by decide +kernel
theorem dX10_remember_60 : decode cX10_remember 60 = .ok (.aload_n 0, 1) := by decide +kernel
theorem dX10_remember_61 : decode cX10_remember 61 = .ok (.getfield 224, 3) := by decide +kernel
theorem dX10_remember_64 : decode cX10_remember 64 = .ok (.imul, 1) := by decide +kernel
theorem dX10_remember_65 : decode cX10_remember 65 = .ok (.invokestatic 220, 3) := by decide +kernel
theorem dX10_remember_68 : decode cX10_remember 68 = .ok (.aload_n 0, 1) := by decide +kernel
theorem dX10_remember_69 : decode cX10_remember 69 = .ok (.dup, 1) := by decide +kernel
theorem dX10_remember_70 : decode cX10_remember 70 = .ok (.getfield 224, 3) := by decide +kernel
theorem dX10_remember_73 : decode cX10_remember 73 = .ok (.iconst 1, 1) := by decide +kernel
theorem dX10_remember_74 : decode cX10_remember 74 = .ok (.iadd, 1) := by decide +kernel
theorem dX10_remember_75 : decode cX10_remember 75 = .ok (.putfield 224, 3) := by decide +kernel
theorem dX10_remember_78 : decode cX10_remember 78 = .ok (.return_, 1) := by decide +kernel
theorem dX10_gallery_0 : decode cX10_gallery 0 = .ok (.aload_n 0, 1) := by decide +kernel
theorem dX10_gallery_1 : decode cX10_gallery 1 = .ok (.iload_n 1, 1) := by decide +kernel
theorem dX10_gallery_2 : decode cX10_gallery 2 = .ok (.i2l, 1) := by decide +kernel
theorem dX10_gallery_3 : decode cX10_gallery 3 = .ok (.lconst 1, 1) := by decide +kernel
theorem dX10_gallery_4 : decode cX10_gallery 4 = .ok (.ldc2_w 240, 3) := by decide +kernel
theorem dX10_gallery_7 : decode cX10_gallery 7 = .ok (.invokestatic 37, 3) := by decide +kernel
theorem dX10_gallery_10 : decode cX10_gallery 10 = .ok (.ifCond .ne 7, 3) := by decide +kernel
theorem dX10_gallery_13 : decode cX10_gallery 13 = .ok (.iconst 1, 1) := by decide +kernel
theorem dX10_gallery_14 : decode cX10_gallery 14 = .ok (.goto 18, 3) := by decide +kernel
theorem dX10_gallery_17 : decode cX10_gallery 17 = .ok (.aload_n 0, 1) := by decide +kernel
theorem dX10_gallery_18 : decode cX10_gallery 18 = .ok (.getfield 13, 3) := by decide +kernel
theorem dX10_gallery_21 : decode cX10_gallery 21 = .ok (.iconst 0, 1) := by decide +kernel
theorem dX10_gallery_22 : decode cX10_gallery 22 = .ok (.iaload, 1) := by decide +kernel
theorem dX10_gallery_23 : decode cX10_gallery 23 = .ok (.iconst 3, 1) := by decide +kernel
theorem dX10_gallery_24 : decode cX10_gallery 24 = .ok (.if_icmp .ge 7, 3) := by decide +kernel
theorem dX10_gallery_27 : decode cX10_gallery 27 = .ok (.iconst 0, 1) := by decide +kernel
theorem dX10_gallery_28 : decode cX10_gallery 28 = .ok (.goto 4, 3) := by decide +kernel
theorem dX10_gallery_31 : decode cX10_gallery 31 = .ok (.iconst 2, 1) := by decide +kernel
theorem dX10_gallery_32 : decode cX10_gallery 32 = .ok (.invokevirtual 152, 3) := by decide +kernel
theorem dX10_gallery_35 : decode cX10_gallery 35 = .ok (.ifCond .eq 5, 3) := by decide +kernel
theorem dX10_gallery_38 : decode cX10_gallery 38 = .ok (.iconst 0, 1) := by decide +kernel
theorem dX10_gallery_39 : decode cX10_gallery 39 = .ok (.ireturn, 1) := by decide +kernel
theorem dX10_gallery_40 : decode cX10_gallery 40 = .ok (.aload_n 0, 1) := by decide +kernel
theorem dX10_gallery_41 : decode cX10_gallery 41 = .ok (.invokevirtual 242, 3) := by decide +kernel
theorem dX10_gallery_44 : decode cX10_gallery 44 = .ok (.aload_n 0, 1) := by decide +kernel
theorem dX10_gallery_45 : decode cX10_gallery 45 = .ok (.getfield 13, 3) := by decide +kernel
theorem dX10_gallery_48 : decode cX10_gallery 48 = .ok (.iload_n 1, 1) := by decide +kernel
theorem dX10_gallery_49 : decode cX10_gallery 49 = .ok (.invokestatic 190, 3) := by decide +kernel
theorem dX10_gallery_52 : decode cX10_gallery 52 = .ok (.ireturn, 1) := by decide +kernel
theorem dX10_miner_0 : decode cX10_miner 0 = .ok (.aload_n 0, 1) := by decide +kernel
theorem dX10_miner_1 : decode cX10_miner 1 = .ok (.aload_n 0, 1) := by decide +kernel
theorem dX10_miner_2 : decode cX10_miner 2 = .ok (.getfield 13, 3) := by decide +kernel
theorem dX10_miner_5 : decode cX10_miner 5 = .ok (.iload_n 1, 1) := by decide +kernel
theorem dX10_miner_6 : decode cX10_miner 6 = .ok (.invokestatic 41, 3) := by decide +kernel
theorem dX10_miner_9 : decode cX10_miner 9 = .ok (.ifCond .ne 7, 3) := by decide +kernel
theorem dX10_miner_12 : decode cX10_miner 12 = .ok (.iconst 1, 1) := by decide +kernel
theorem dX10_miner_13 : decode cX10_miner 13 = .ok (.goto 35, 3) := by decide +kernel
theorem dX10_miner_16 : decode cX10_miner 16 = .ok (.iload_n 2, 1) := by decide +kernel
theorem dX10_miner_17 : decode cX10_miner 17 = .ok (.i2l, 1) := by decide +kernel
theorem dX10_miner_18 : decode cX10_miner 18 = .ok (.lconst 1, 1) := by decide +kernel
theorem dX10_miner_19 : decode cX10_miner 19 = .ok (.ldc2_w 227, 3) := by decide +kernel
theorem dX10_miner_22 : decode cX10_miner 22 = .ok (.invokestatic 37, 3) := by decide +kernel
theorem dX10_miner_25 : decode cX10_miner 25 = .ok (.ifCond .ne 7, 3) := by decide +kernel
theorem dX10_miner_28 : decode cX10_miner 28 = .ok (.iconst 2, 1) := by decide +kernel
theorem dX10_miner_29 : decode cX10_miner 29 = .ok (.goto 19, 3) := by decide +kernel
theorem dX10_miner_32 : decode cX10_miner 32 = .ok (.aload_n 0, 1) := by decide +kernel
theorem dX10_miner_33 : decode cX10_miner 33 = .ok (.getfield 13, 3) := by decide +kernel
theorem dX10_miner_36 : decode cX10_miner 36 = .ok (.iload_n 1, 1) := by decide +kernel
theorem dX10_miner_37 : decode cX10_miner 37 = .ok (.invokestatic 193, 3) := by decide +kernel
theorem dX10_miner_40 : decode cX10_miner 40 = .ok (.ifCond .eq 7, 3) := by decide +kernel
theorem dX10_miner_43 : decode cX10_miner 43 = .ok (.iconst 0, 1) := by decide +kernel
theorem dX10_miner_44 : decode cX10_miner 44 = .ok (.goto 4, 3) := by decide +kernel
theorem dX10_miner_47 : decode cX10_miner 47 = .ok (.iconst 3, 1) := by decide +kernel
theorem dX10_miner_48 : decode cX10_miner 48 = .ok (.invokevirtual 152, 3) := by decide +kernel
theorem dX10_miner_51 : decode cX10_miner 51 = .ok (.ifCond .eq 5, 3) := by decide +kernel
theorem dX10_miner_54 : decode cX10_miner 54 = .ok (.iconst 0, 1) := by decide +kernel
theorem dX10_miner_55 : decode cX10_miner 55 = .ok (.ireturn, 1) := by decide +kernel
theorem dX10_miner_56 : decode cX10_miner 56 = .ok (.aload_n 0, 1) := by decide +kernel
theorem dX10_miner_57 : decode cX10_miner 57 = .ok (.invokevirtual 242, 3) := by decide +kernel
theorem dX10_miner_60 : decode cX10_miner 60 = .ok (.aload_n 0, 1) := by decide +kernel
theorem dX10_miner_61 : decode cX10_miner 61 = .ok (.getfield 13, 3) := by decide +kernel
theorem dX10_miner_64 : decode cX10_miner 64 = .ok (.iload_n 1, 1) := by decide +kernel
theorem dX10_miner_65 : decode cX10_miner 65 = .ok (.iload_n 2, 1) := by decide +kernel
theorem dX10_miner_66 : decode cX10_miner 66 = .ok (.invokestatic 196, 3) := by decide +kernel
theorem dX10_miner_69 : decode cX10_miner 69 = .ok (.ireturn, 1) := by decide +kernel
theorem dX10_send_0 : decode cX10_send 0 = .ok (.aload_n 0, 1) := by decide +kernel
theorem dX10_send_1 : decode cX10_send 1 = .ok (.aload_n 0, 1) := by decide +kernel
theorem dX10_send_2 : decode cX10_send 2 = .ok (.getfield 13, 3) := by decide +kernel
theorem dX10_send_5 : decode cX10_send 5 = .ok (.iload_n 1, 1) := by decide +kernel
theorem dX10_send_6 : decode cX10_send 6 = .ok (.invokestatic 229, 3) := by decide +kernel
theorem dX10_send_9 : decode cX10_send 9 = .ok (.ifCond .eq 18, 3) := by decide +kernel
theorem dX10_send_12 : decode cX10_send 12 = .ok (.aload_n 0, 1) := by decide +kernel
theorem dX10_send_13 : decode cX10_send 13 = .ok (.getfield 13, 3) := by decide +kernel
theorem dX10_send_16 : decode cX10_send 16 = .ok (.iload_n 2, 1) := by decide +kernel
theorem dX10_send_17 : decode cX10_send 17 = .ok (.invokestatic 41, 3) := by decide +kernel
theorem dX10_send_20 : decode cX10_send 20 = .ok (.ifCond .eq 7, 3) := by decide +kernel
theorem dX10_send_23 : decode cX10_send 23 = .ok (.iconst 0, 1) := by decide +kernel
theorem dX10_send_24 : decode cX10_send 24 = .ok (.goto 4, 3) := by decide +kernel
theorem dX10_send_27 : decode cX10_send 27 = .ok (.iconst 1, 1) := by decide +kernel
theorem dX10_send_28 : decode cX10_send 28 = .ok (.invokevirtual 152, 3) := by decide +kernel
theorem dX10_send_31 : decode cX10_send 31 = .ok (.ifCond .eq 5, 3) := by decide +kernel
theorem dX10_send_34 : decode cX10_send 34 = .ok (.iconst 0, 1) := by decide +kernel
theorem dX10_send_35 : decode cX10_send 35 = .ok (.ireturn, 1) := by decide +kernel
theorem dX10_send_36 : decode cX10_send 36 = .ok (.aload_n 0, 1) := by decide +kernel
theorem dX10_send_37 : decode cX10_send 37 = .ok (.invokevirtual 242, 3) := by decide +kernel
theorem dX10_send_40 : decode cX10_send 40 = .ok (.aload_n 0, 1) := by decide +kernel
theorem dX10_send_41 : decode cX10_send 41 = .ok (.getfield 13, 3) := by decide +kernel
theorem dX10_send_44 : decode cX10_send 44 = .ok (.bipush 24, 2) := by decide +kernel
theorem dX10_send_46 : decode cX10_send 46 = .ok (.iconst 4, 1) := by decide +kernel
theorem dX10_send_47 : decode cX10_send 47 = .ok (.iload_n 1, 1) := by decide +kernel
theorem dX10_send_48 : decode cX10_send 48 = .ok (.imul, 1) := by decide +kernel
theorem dX10_send_49 : decode cX10_send 49 = .ok (.iadd, 1) := by decide +kernel
theorem dX10_send_50 : decode cX10_send 50 = .ok (.iload_n 2, 1) := by decide +kernel
theorem dX10_send_51 : decode cX10_send 51 = .ok (.invokestatic 245, 3) := by decide +kernel
theorem dX10_send_54 : decode cX10_send 54 = .ok (.ireturn, 1) := by decide +kernel
theorem dX10_lamp_0 : decode cX10_lamp 0 = .ok (.aload_n 0, 1) := by decide +kernel
theorem dX10_lamp_1 : decode cX10_lamp 1 = .ok (.aload_n 0, 1) := by decide +kernel
theorem dX10_lamp_2 : decode cX10_lamp 2 = .ok (.getfield 13, 3) := by decide +kernel
theorem dX10_lamp_5 : decode cX10_lamp 5 = .ok (.iload_n 1, 1) := by decide +kernel
theorem dX10_lamp_6 : decode cX10_lamp 6 = .ok (.iload_n 2, 1) := by decide +kernel
theorem dX10_lamp_7 : decode cX10_lamp 7 = .ok (.invokestatic 139, 3) := by decide +kernel
theorem dX10_lamp_10 : decode cX10_lamp 10 = .ok (.ifCond .ne 7, 3) := by decide +kernel
theorem dX10_lamp_13 : decode cX10_lamp 13 = .ok (.iconst 1, 1) := by decide +kernel
theorem dX10_lamp_14 : decode cX10_lamp 14 = .ok (.goto 49, 3) := by decide +kernel
theorem dX10_lamp_17 : decode cX10_lamp 17 = .ok (.iload_n 3, 1) := by decide +kernel
theorem dX10_lamp_18 : decode cX10_lamp 18 = .ok (.i2l, 1) := by decide +kernel
theorem dX10_lamp_19 : decode cX10_lamp 19 = .ok (.lconst 1, 1) := by decide +kernel
theorem dX10_lamp_20 : decode cX10_lamp 20 = .ok (.ldc2_w 159, 3) := by decide +kernel
theorem dX10_lamp_23 : decode cX10_lamp 23 = .ok (.invokestatic 37, 3) := by decide +kernel
theorem dX10_lamp_26 : decode cX10_lamp 26 = .ok (.ifCond .eq 16, 3) := by decide +kernel
theorem dX10_lamp_29 : decode cX10_lamp 29 = .ok (.iload 4, 2) := by decide +kernel
theorem dX10_lamp_31 : decode cX10_lamp 31 = .ok (.i2l, 1) := by decide +kernel
theorem dX10_lamp_32 : decode cX10_lamp 32 = .ok (.lconst 0, 1) := by decide +kernel
theorem dX10_lamp_33 : decode cX10_lamp 33 = .ok (.ldc2_w 145, 3) := by decide +kernel
theorem dX10_lamp_36 : decode cX10_lamp 36 = .ok (.invokestatic 37, 3) := by decide +kernel
theorem dX10_lamp_39 : decode cX10_lamp 39 = .ok (.ifCond .ne 7, 3) := by decide +kernel
theorem dX10_lamp_42 : decode cX10_lamp 42 = .ok (.iconst 2, 1) := by decide +kernel
theorem dX10_lamp_43 : decode cX10_lamp 43 = .ok (.goto 20, 3) := by decide +kernel
theorem dX10_lamp_46 : decode cX10_lamp 46 = .ok (.aload_n 0, 1) := by decide +kernel
theorem dX10_lamp_47 : decode cX10_lamp 47 = .ok (.getfield 13, 3) := by decide +kernel
theorem dX10_lamp_50 : decode cX10_lamp 50 = .ok (.iload_n 1, 1) := by decide +kernel
theorem dX10_lamp_51 : decode cX10_lamp 51 = .ok (.iload_n 2, 1) := by decide +kernel
theorem dX10_lamp_52 : decode cX10_lamp 52 = .ok (.invokestatic 174, 3) := by decide +kernel
theorem dX10_lamp_55 : decode cX10_lamp 55 = .ok (.ifCond .eq 7, 3) := by decide +kernel
theorem dX10_lamp_58 : decode cX10_lamp 58 = .ok (.iconst 0, 1) := by decide +kernel
theorem dX10_lamp_59 : decode cX10_lamp 59 = .ok (.goto 4, 3) := by decide +kernel
theorem dX10_lamp_62 : decode cX10_lamp 62 = .ok (.iconst 3, 1) := by decide +kernel
theorem dX10_lamp_63 : decode cX10_lamp 63 = .ok (.invokevirtual 152, 3) := by decide +kernel
theorem dX10_lamp_66 : decode cX10_lamp 66 = .ok (.ifCond .eq 5, 3) := by decide +kernel
theorem dX10_lamp_69 : decode cX10_lamp 69 = .ok (.iconst 0, 1) := by decide +kernel
theorem dX10_lamp_70 : decode cX10_lamp 70 = .ok (.ireturn, 1) := by decide +kernel
theorem dX10_lamp_71 : decode cX10_lamp 71 = .ok (.aload_n 0, 1) := by decide +kernel
theorem dX10_lamp_72 : decode cX10_lamp 72 = .ok (.invokevirtual 242, 3) := by decide +kernel
theorem dX10_lamp_75 : decode cX10_lamp 75 = .ok (.aload_n 0, 1) := by decide +kernel
theorem dX10_lamp_76 : decode cX10_lamp 76 = .ok (.getfield 13, 3) := by decide +kernel
theorem dX10_lamp_79 : decode cX10_lamp 79 = .ok (.iload_n 1, 1) := by decide +kernel
theorem dX10_lamp_80 : decode cX10_lamp 80 = .ok (.iload_n 2, 1) := by decide +kernel
theorem dX10_lamp_81 : decode cX10_lamp 81 = .ok (.iload_n 3, 1) := by decide +kernel
theorem dX10_lamp_82 : decode cX10_lamp 82 = .ok (.iload 4, 2) := by decide +kernel
theorem dX10_lamp_84 : decode cX10_lamp 84 = .ok (.invokestatic 177, 3) := by decide +kernel
theorem dX10_lamp_87 : decode cX10_lamp 87 = .ok (.ireturn, 1) := by decide +kernel
theorem dX10_store_0 : decode cX10_store 0 = .ok (.aload_n 0, 1) := by decide +kernel
theorem dX10_store_1 : decode cX10_store 1 = .ok (.iload_n 1, 1) := by decide +kernel
theorem dX10_store_2 : decode cX10_store 2 = .ok (.i2l, 1) := by decide +kernel
theorem dX10_store_3 : decode cX10_store 3 = .ok (.lconst 0, 1) := by decide +kernel
theorem dX10_store_4 : decode cX10_store 4 = .ok (.ldc2_w 248, 3) := by decide +kernel
theorem dX10_store_7 : decode cX10_store 7 = .ok (.invokestatic 37, 3) := by decide +kernel
theorem dX10_store_10 : decode cX10_store 10 = .ok (.ifCond .ne 7, 3) := by decide +kernel
theorem dX10_store_13 : decode cX10_store 13 = .ok (.iconst 1, 1) := by decide +kernel
theorem dX10_store_14 : decode cX10_store 14 = .ok (.goto 22, 3) := by decide +kernel
theorem dX10_store_17 : decode cX10_store 17 = .ok (.aload_n 0, 1) := by decide +kernel
theorem dX10_store_18 : decode cX10_store 18 = .ok (.getfield 13, 3) := by decide +kernel
theorem dX10_store_21 : decode cX10_store 21 = .ok (.iconst 4, 1) := by decide +kernel
theorem dX10_store_22 : decode cX10_store 22 = .ok (.iaload, 1) := by decide +kernel
theorem dX10_store_23 : decode cX10_store 23 = .ok (.iload_n 1, 1) := by decide +kernel
theorem dX10_store_24 : decode cX10_store 24 = .ok (.iadd, 1) := by decide +kernel
theorem dX10_store_25 : decode cX10_store 25 = .ok (.sipush 9999, 3) := by decide +kernel
theorem dX10_store_28 : decode cX10_store 28 = .ok (.if_icmp .le 7, 3) := by decide +kernel
theorem dX10_store_31 : decode cX10_store 31 = .ok (.iconst 2, 1) := by decide +kernel
theorem dX10_store_32 : decode cX10_store 32 = .ok (.goto 4, 3) := by decide +kernel
theorem dX10_store_35 : decode cX10_store 35 = .ok (.iconst 0, 1) := by decide +kernel
theorem dX10_store_36 : decode cX10_store 36 = .ok (.invokevirtual 152, 3) := by decide +kernel
theorem dX10_store_39 : decode cX10_store 39 = .ok (.ifCond .eq 5, 3) := by decide +kernel
theorem dX10_store_42 : decode cX10_store 42 = .ok (.iconst 0, 1) := by decide +kernel
theorem dX10_store_43 : decode cX10_store 43 = .ok (.ireturn, 1) := by decide +kernel
theorem dX10_store_44 : decode cX10_store 44 = .ok (.aload_n 0, 1) := by decide +kernel
theorem dX10_store_45 : decode cX10_store 45 = .ok (.invokevirtual 242, 3) := by decide +kernel
theorem dX10_store_48 : decode cX10_store 48 = .ok (.aload_n 0, 1) := by decide +kernel
theorem dX10_store_49 : decode cX10_store 49 = .ok (.getfield 13, 3) := by decide +kernel
theorem dX10_store_52 : decode cX10_store 52 = .ok (.iload_n 1, 1) := by decide +kernel
theorem dX10_store_53 : decode cX10_store 53 = .ok (.invokestatic 202, 3) := by decide +kernel
theorem dX10_store_56 : decode cX10_store 56 = .ok (.ireturn, 1) := by decide +kernel
theorem dX10_hang_0 : decode cX10_hang 0 = .ok (.aload_n 0, 1) := by decide +kernel
theorem dX10_hang_1 : decode cX10_hang 1 = .ok (.aload_n 0, 1) := by decide +kernel
theorem dX10_hang_2 : decode cX10_hang 2 = .ok (.getfield 13, 3) := by decide +kernel
theorem dX10_hang_5 : decode cX10_hang 5 = .ok (.iload_n 1, 1) := by decide +kernel
theorem dX10_hang_6 : decode cX10_hang 6 = .ok (.invokestatic 142, 3) := by decide +kernel
theorem dX10_hang_9 : decode cX10_hang 9 = .ok (.ifCond .eq 15, 3) := by decide +kernel
theorem dX10_hang_12 : decode cX10_hang 12 = .ok (.aload_n 0, 1) := by decide +kernel
theorem dX10_hang_13 : decode cX10_hang 13 = .ok (.getfield 13, 3) := by decide +kernel
theorem dX10_hang_16 : decode cX10_hang 16 = .ok (.iload_n 2, 1) := by decide +kernel
theorem dX10_hang_17 : decode cX10_hang 17 = .ok (.iload_n 3, 1) := by decide +kernel
theorem dX10_hang_18 : decode cX10_hang 18 = .ok (.invokestatic 139, 3) := by decide +kernel
theorem dX10_hang_21 : decode cX10_hang 21 = .ok (.ifCond .ne 7, 3) := by decide +kernel
theorem dX10_hang_24 : decode cX10_hang 24 = .ok (.iconst 1, 1) := by decide +kernel
theorem dX10_hang_25 : decode cX10_hang 25 = .ok (.goto 20, 3) := by decide +kernel
theorem dX10_hang_28 : decode cX10_hang 28 = .ok (.aload_n 0, 1) := by decide +kernel
theorem dX10_hang_29 : decode cX10_hang 29 = .ok (.getfield 13, 3) := by decide +kernel
theorem dX10_hang_32 : decode cX10_hang 32 = .ok (.bipush 8, 2) := by decide +kernel
theorem dX10_hang_34 : decode cX10_hang 34 = .ok (.iaload, 1) := by decide +kernel
theorem dX10_hang_35 : decode cX10_hang 35 = .ok (.bipush 6, 2) := by decide +kernel
theorem dX10_hang_37 : decode cX10_hang 37 = .ok (.if_icmp .ge 7, 3) := by decide +kernel
theorem dX10_hang_40 : decode cX10_hang 40 = .ok (.iconst 0, 1) := by decide +kernel
theorem dX10_hang_41 : decode cX10_hang 41 = .ok (.goto 4, 3) := by decide +kernel
theorem dX10_hang_44 : decode cX10_hang 44 = .ok (.iconst 2, 1) := by decide +kernel
theorem dX10_hang_45 : decode cX10_hang 45 = .ok (.invokevirtual 152, 3) := by decide +kernel
theorem dX10_hang_48 : decode cX10_hang 48 = .ok (.ifCond .eq 5, 3) := by decide +kernel
theorem dX10_hang_51 : decode cX10_hang 51 = .ok (.iconst 0, 1) := by decide +kernel
theorem dX10_hang_52 : decode cX10_hang 52 = .ok (.ireturn, 1) := by decide +kernel
theorem dX10_hang_53 : decode cX10_hang 53 = .ok (.aload_n 0, 1) := by decide +kernel
theorem dX10_hang_54 : decode cX10_hang 54 = .ok (.invokevirtual 242, 3) := by decide +kernel
theorem dX10_hang_57 : decode cX10_hang 57 = .ok (.aload_n 0, 1) := by decide +kernel
theorem dX10_hang_58 : decode cX10_hang 58 = .ok (.getfield 13, 3) := by decide +kernel
theorem dX10_hang_61 : decode cX10_hang 61 = .ok (.iconst 0, 1) := by decide +kernel
theorem dX10_hang_62 : decode cX10_hang 62 = .ok (.iload_n 1, 1) := by decide +kernel
theorem dX10_hang_63 : decode cX10_hang 63 = .ok (.iload_n 2, 1) := by decide +kernel
theorem dX10_hang_64 : decode cX10_hang 64 = .ok (.iload_n 3, 1) := by decide +kernel
theorem dX10_hang_65 : decode cX10_hang 65 = .ok (.invokestatic 120, 3) := by decide +kernel
theorem dX10_hang_68 : decode cX10_hang 68 = .ok (.ireturn, 1) := by decide +kernel
theorem dX10_fill_0 : decode cX10_fill 0 = .ok (.aload_n 0, 1) := by decide +kernel
theorem dX10_fill_1 : decode cX10_fill 1 = .ok (.aload_n 0, 1) := by decide +kernel
theorem dX10_fill_2 : decode cX10_fill 2 = .ok (.getfield 13, 3) := by decide +kernel
theorem dX10_fill_5 : decode cX10_fill 5 = .ok (.iload_n 1, 1) := by decide +kernel
theorem dX10_fill_6 : decode cX10_fill 6 = .ok (.invokestatic 142, 3) := by decide +kernel
theorem dX10_fill_9 : decode cX10_fill 9 = .ok (.ifCond .ne 7, 3) := by decide +kernel
theorem dX10_fill_12 : decode cX10_fill 12 = .ok (.iconst 1, 1) := by decide +kernel
theorem dX10_fill_13 : decode cX10_fill 13 = .ok (.goto 36, 3) := by decide +kernel
theorem dX10_fill_16 : decode cX10_fill 16 = .ok (.iload_n 2, 1) := by decide +kernel
theorem dX10_fill_17 : decode cX10_fill 17 = .ok (.i2l, 1) := by decide +kernel
theorem dX10_fill_18 : decode cX10_fill 18 = .ok (.lconst 1, 1) := by decide +kernel
theorem dX10_fill_19 : decode cX10_fill 19 = .ok (.ldc2_w 145, 3) := by decide +kernel
theorem dX10_fill_22 : decode cX10_fill 22 = .ok (.invokestatic 37, 3) := by decide +kernel
theorem dX10_fill_25 : decode cX10_fill 25 = .ok (.ifCond .ne 7, 3) := by decide +kernel
theorem dX10_fill_28 : decode cX10_fill 28 = .ok (.iconst 2, 1) := by decide +kernel
theorem dX10_fill_29 : decode cX10_fill 29 = .ok (.goto 20, 3) := by decide +kernel
theorem dX10_fill_32 : decode cX10_fill 32 = .ok (.aload_n 0, 1) := by decide +kernel
theorem dX10_fill_33 : decode cX10_fill 33 = .ok (.getfield 13, 3) := by decide +kernel
theorem dX10_fill_36 : decode cX10_fill 36 = .ok (.bipush 8, 2) := by decide +kernel
theorem dX10_fill_38 : decode cX10_fill 38 = .ok (.iaload, 1) := by decide +kernel
theorem dX10_fill_39 : decode cX10_fill 39 = .ok (.bipush 6, 2) := by decide +kernel
theorem dX10_fill_41 : decode cX10_fill 41 = .ok (.if_icmp .ge 7, 3) := by decide +kernel
theorem dX10_fill_44 : decode cX10_fill 44 = .ok (.iconst 0, 1) := by decide +kernel
theorem dX10_fill_45 : decode cX10_fill 45 = .ok (.goto 4, 3) := by decide +kernel
theorem dX10_fill_48 : decode cX10_fill 48 = .ok (.iconst 3, 1) := by decide +kernel
theorem dX10_fill_49 : decode cX10_fill 49 = .ok (.invokevirtual 152, 3) := by decide +kernel
theorem dX10_fill_52 : decode cX10_fill 52 = .ok (.ifCond .eq 5, 3) := by decide +kernel
theorem dX10_fill_55 : decode cX10_fill 55 = .ok (.iconst 0, 1) := by decide +kernel
theorem dX10_fill_56 : decode cX10_fill 56 = .ok (.ireturn, 1) := by decide +kernel
theorem dX10_fill_57 : decode cX10_fill 57 = .ok (.aload_n 0, 1) := by decide +kernel
theorem dX10_fill_58 : decode cX10_fill 58 = .ok (.invokevirtual 242, 3) := by decide +kernel
theorem dX10_fill_61 : decode cX10_fill 61 = .ok (.aload_n 0, 1) := by decide +kernel
theorem dX10_fill_62 : decode cX10_fill 62 = .ok (.getfield 13, 3) := by decide +kernel
theorem dX10_fill_65 : decode cX10_fill 65 = .ok (.iconst 1, 1) := by decide +kernel
theorem dX10_fill_66 : decode cX10_fill 66 = .ok (.iload_n 1, 1) := by decide +kernel
theorem dX10_fill_67 : decode cX10_fill 67 = .ok (.iload_n 2, 1) := by decide +kernel
theorem dX10_fill_68 : decode cX10_fill 68 = .ok (.iconst (-1), 1) := by decide +kernel
theorem dX10_fill_69 : decode cX10_fill 69 = .ok (.invokestatic 120, 3) := by decide +kernel
theorem dX10_fill_72 : decode cX10_fill 72 = .ok (.ireturn, 1) := by decide +kernel
theorem dX10_drop_0 : decode cX10_drop 0 = .ok (.iload_n 1, 1) := by decide +kernel
theorem dX10_drop_1 : decode cX10_drop 1 = .ok (.ifCond .ne 28, 3) := by decide +kernel
theorem dX10_drop_4 : decode cX10_drop 4 = .ok (.aload_n 0, 1) := by decide +kernel
theorem dX10_drop_5 : decode cX10_drop 5 = .ok (.getfield 13, 3) := by decide +kernel
theorem dX10_drop_8 : decode cX10_drop 8 = .ok (.bipush 13, 2) := by decide +kernel
theorem dX10_drop_10 : decode cX10_drop 10 = .ok (.iaload, 1) := by decide +kernel
theorem dX10_drop_11 : decode cX10_drop 11 = .ok (.iconst (-1), 1) := by decide +kernel
theorem dX10_drop_12 : decode cX10_drop 12 = .ok (.if_icmp .ne 13, 3) := by decide +kernel
theorem dX10_drop_15 : decode cX10_drop 15 = .ok (.aload_n 0, 1) := by decide +kernel
theorem dX10_drop_16 : decode cX10_drop 16 = .ok (.getfield 13, 3) := by decide +kernel
theorem dX10_drop_19 : decode cX10_drop 19 = .ok (.bipush 14, 2) := by decide +kernel
theorem dX10_drop_21 : decode cX10_drop 21 = .ok (.iaload, 1) := by decide +kernel
theorem dX10_drop_22 : decode cX10_drop 22 = .ok (.ifCond .le 7, 3) := by decide +kernel
theorem dX10_drop_25 : decode cX10_drop 25 = .ok (.iconst 1, 1) := by decide +kernel
theorem dX10_drop_26 : decode cX10_drop 26 = .ok (.goto 4, 3) := by decide +kernel
theorem dX10_drop_29 : decode cX10_drop 29 = .ok (.iconst 0, 1) := by decide +kernel
theorem dX10_drop_30 : decode cX10_drop 30 = .ok (.istore_n 2, 1) := by decide +kernel
theorem dX10_drop_31 : decode cX10_drop 31 = .ok (.aload_n 0, 1) := by decide +kernel
theorem dX10_drop_32 : decode cX10_drop 32 = .ok (.iload_n 1, 1) := by decide +kernel
theorem dX10_drop_33 : decode cX10_drop 33 = .ok (.i2l, 1) := by decide +kernel
theorem dX10_drop_34 : decode cX10_drop 34 = .ok (.lconst 0, 1) := by decide +kernel
theorem dX10_drop_35 : decode cX10_drop 35 = .ok (.aload_n 0, 1) := by decide +kernel
theorem dX10_drop_36 : decode cX10_drop 36 = .ok (.getfield 13, 3) := by decide +kernel
theorem dX10_drop_39 : decode cX10_drop 39 = .ok (.bipush 8, 2) := by decide +kernel
theorem dX10_drop_41 : decode cX10_drop 41 = .ok (.iaload, 1) := by decide +kernel
theorem dX10_drop_42 : decode cX10_drop 42 = .ok (.iconst 1, 1) := by decide +kernel
theorem dX10_drop_43 : decode cX10_drop 43 = .ok (.isub, 1) := by decide +kernel
theorem dX10_drop_44 : decode cX10_drop 44 = .ok (.i2l, 1) := by decide +kernel
theorem dX10_drop_45 : decode cX10_drop 45 = .ok (.invokestatic 37, 3) := by decide +kernel
theorem dX10_drop_48 : decode cX10_drop 48 = .ok (.ifCond .ne 7, 3) := by decide +kernel
theorem dX10_drop_51 : decode cX10_drop 51 = .ok (.iconst 1, 1) := by decide +kernel
theorem dX10_drop_52 : decode cX10_drop 52 = .ok (.goto 12, 3) := by decide +kernel
theorem dX10_drop_55 : decode cX10_drop 55 = .ok (.iload_n 2, 1) := by decide +kernel
theorem dX10_drop_56 : decode cX10_drop 56 = .ok (.ifCond .eq 7, 3) := by decide +kernel
theorem dX10_drop_59 : decode cX10_drop 59 = .ok (.iconst 2, 1) := by decide +kernel
theorem dX10_drop_60 : decode cX10_drop 60 = .ok (.goto 4, 3) := by decide +kernel
theorem dX10_drop_63 : decode cX10_drop 63 = .ok (.iconst 0, 1) := by decide +kernel
theorem dX10_drop_64 : decode cX10_drop 64 = .ok (.invokevirtual 152, 3) := by decide +kernel
theorem dX10_drop_67 : decode cX10_drop 67 = .ok (.ifCond .eq 5, 3) := by decide +kernel
theorem dX10_drop_70 : decode cX10_drop 70 = .ok (.iconst 0, 1) := by decide +kernel
theorem dX10_drop_71 : decode cX10_drop 71 = .ok (.ireturn, 1) := by decide +kernel
theorem dX10_drop_72 : decode cX10_drop 72 = .ok (.aload_n 0, 1) := by decide +kernel
theorem dX10_drop_73 : decode cX10_drop 73 = .ok (.invokevirtual 242, 3) := by decide +kernel
theorem dX10_drop_76 : decode cX10_drop 76 = .ok (.aload_n 0, 1) := by decide +kernel
theorem dX10_drop_77 : decode cX10_drop 77 = .ok (.getfield 13, 3) := by decide +kernel
theorem dX10_drop_80 : decode cX10_drop 80 = .ok (.iload_n 1, 1) := by decide +kernel
theorem dX10_drop_81 : decode cX10_drop 81 = .ok (.invokestatic 80, 3) := by decide +kernel
theorem dX10_drop_84 : decode cX10_drop 84 = .ok (.aload_n 0, 1) := by decide +kernel
theorem dX10_drop_85 : decode cX10_drop 85 = .ok (.getfield 13, 3) := by decide +kernel
theorem dX10_drop_88 : decode cX10_drop 88 = .ok (.bipush 15, 2) := by decide +kernel
theorem dX10_drop_90 : decode cX10_drop 90 = .ok (.iload_n 1, 1) := by decide +kernel
theorem dX10_drop_91 : decode cX10_drop 91 = .ok (.ifCond .ne 7, 3) := by decide +kernel
theorem dX10_drop_94 : decode cX10_drop 94 = .ok (.iconst 0, 1) := by decide +kernel
theorem dX10_drop_95 : decode cX10_drop 95 = .ok (.goto 10, 3) := by decide +kernel
theorem dX10_drop_98 : decode cX10_drop 98 = .ok (.aload_n 0, 1) := by decide +kernel
theorem dX10_drop_99 : decode cX10_drop 99 = .ok (.getfield 13, 3) := by decide +kernel
theorem dX10_drop_102 : decode cX10_drop 102 = .ok (.bipush 15, 2) := by decide +kernel
theorem dX10_drop_104 : decode cX10_drop 104 = .ok (.iaload, 1) := by decide +kernel
theorem dX10_drop_105 : decode cX10_drop 105 = .ok (.iastore, 1) := by decide +kernel
theorem dX10_drop_106 : decode cX10_drop 106 = .ok (.aload_n 0, 1) := by decide +kernel
theorem dX10_drop_107 : decode cX10_drop 107 = .ok (.getfield 13, 3) := by decide +kernel
theorem dX10_drop_110 : decode cX10_drop 110 = .ok (.bipush 8, 2) := by decide +kernel
theorem dX10_drop_112 : decode cX10_drop 112 = .ok (.iaload, 1) := by decide +kernel
theorem dX10_drop_113 : decode cX10_drop 113 = .ok (.ireturn, 1) := by decide +kernel
theorem dX10_set_0 : decode cX10_set 0 = .ok (.aload_n 0, 1) := by decide +kernel
theorem dX10_set_1 : decode cX10_set 1 = .ok (.iload_n 1, 1) := by decide +kernel
theorem dX10_set_2 : decode cX10_set 2 = .ok (.iload_n 2, 1) := by decide +kernel
theorem dX10_set_3 : decode cX10_set 3 = .ok (.invokestatic 250, 3) := by decide +kernel
theorem dX10_set_6 : decode cX10_set 6 = .ok (.ifCond .eq 7, 3) := by decide +kernel
theorem dX10_set_9 : decode cX10_set 9 = .ok (.iconst 0, 1) := by decide +kernel
theorem dX10_set_10 : decode cX10_set 10 = .ok (.goto 4, 3) := by decide +kernel
theorem dX10_set_13 : decode cX10_set 13 = .ok (.iconst 1, 1) := by decide +kernel
theorem dX10_set_14 : decode cX10_set 14 = .ok (.invokevirtual 152, 3) := by decide +kernel
theorem dX10_set_17 : decode cX10_set 17 = .ok (.ifCond .eq 5, 3) := by decide +kernel
theorem dX10_set_20 : decode cX10_set 20 = .ok (.iconst 0, 1) := by decide +kernel
theorem dX10_set_21 : decode cX10_set 21 = .ok (.ireturn, 1) := by decide +kernel
theorem dX10_set_22 : decode cX10_set 22 = .ok (.aload_n 0, 1) := by decide +kernel
theorem dX10_set_23 : decode cX10_set 23 = .ok (.invokevirtual 242, 3) := by decide +kernel
theorem dX10_set_26 : decode cX10_set 26 = .ok (.aload_n 0, 1) := by decide +kernel
theorem dX10_set_27 : decode cX10_set 27 = .ok (.getfield 13, 3) := by decide +kernel
theorem dX10_set_30 : decode cX10_set 30 = .ok (.bipush 16, 2) := by decide +kernel
theorem dX10_set_32 : decode cX10_set 32 = .ok (.iload_n 1, 1) := by decide +kernel
theorem dX10_set_33 : decode cX10_set 33 = .ok (.iadd, 1) := by decide +kernel
theorem dX10_set_34 : decode cX10_set 34 = .ok (.iload_n 2, 1) := by decide +kernel
theorem dX10_set_35 : decode cX10_set 35 = .ok (.invokestatic 245, 3) := by decide +kernel
theorem dX10_set_38 : decode cX10_set 38 = .ok (.ireturn, 1) := by decide +kernel
theorem dX10_hours_0 : decode cX10_hours 0 = .ok (.aload_n 0, 1) := by decide +kernel
theorem dX10_hours_1 : decode cX10_hours 1 = .ok (.iload_n 1, 1) := by decide +kernel
theorem dX10_hours_2 : decode cX10_hours 2 = .ok (.i2l, 1) := by decide +kernel
theorem dX10_hours_3 : decode cX10_hours 3 = .ok (.lconst 1, 1) := by decide +kernel
theorem dX10_hours_4 : decode cX10_hours 4 = .ok (.ldc2_w 240, 3) := by decide +kernel
theorem dX10_hours_7 : decode cX10_hours 7 = .ok (.invokestatic 37, 3) := by decide +kernel
theorem dX10_hours_10 : decode cX10_hours 10 = .ok (.ifCond .eq 7, 3) := by decide +kernel
theorem dX10_hours_13 : decode cX10_hours 13 = .ok (.iconst 0, 1) := by decide +kernel
theorem dX10_hours_14 : decode cX10_hours 14 = .ok (.goto 4, 3) := by decide +kernel
theorem dX10_hours_17 : decode cX10_hours 17 = .ok (.iconst 1, 1) := by decide +kernel
theorem dX10_hours_18 : decode cX10_hours 18 = .ok (.invokevirtual 152, 3) := by decide +kernel
theorem dX10_hours_21 : decode cX10_hours 21 = .ok (.ifCond .eq 5, 3) := by decide +kernel
theorem dX10_hours_24 : decode cX10_hours 24 = .ok (.iconst 0, 1) := by decide +kernel
theorem dX10_hours_25 : decode cX10_hours 25 = .ok (.ireturn, 1) := by decide +kernel
theorem dX10_hours_26 : decode cX10_hours 26 = .ok (.aload_n 0, 1) := by decide +kernel
theorem dX10_hours_27 : decode cX10_hours 27 = .ok (.invokevirtual 242, 3) := by decide +kernel
theorem dX10_hours_30 : decode cX10_hours 30 = .ok (.aload_n 0, 1) := by decide +kernel
theorem dX10_hours_31 : decode cX10_hours 31 = .ok (.getfield 13, 3) := by decide +kernel
theorem dX10_hours_34 : decode cX10_hours 34 = .ok (.iload_n 1, 1) := by decide +kernel
theorem dX10_hours_35 : decode cX10_hours 35 = .ok (.invokestatic 211, 3) := by decide +kernel
theorem dX10_hours_38 : decode cX10_hours 38 = .ok (.ireturn, 1) := by decide +kernel
theorem dX10_undo_0 : decode cX10_undo 0 = .ok (.aload_n 0, 1) := by decide +kernel
theorem dX10_undo_1 : decode cX10_undo 1 = .ok (.aload_n 0, 1) := by decide +kernel
theorem dX10_undo_2 : decode cX10_undo 2 = .ok (.getfield 224, 3) := by decide +kernel
theorem dX10_undo_5 : decode cX10_undo 5 = .ok (.ifCond .ne 7, 3) := by decide +kernel
theorem dX10_undo_8 : decode cX10_undo 8 = .ok (.iconst 1, 1) := by decide +kernel
theorem dX10_undo_9 : decode cX10_undo 9 = .ok (.goto 4, 3) := by decide +kernel
theorem dX10_undo_12 : decode cX10_undo 12 = .ok (.iconst 0, 1) := by decide +kernel
theorem dX10_undo_13 : decode cX10_undo 13 = .ok (.invokevirtual 152, 3) := by decide +kernel
theorem dX10_undo_16 : decode cX10_undo 16 = .ok (.ifCond .eq 5, 3) := by decide +kernel
theorem dX10_undo_19 : decode cX10_undo 19 = .ok (.iconst 0, 1) := by decide +kernel
theorem dX10_undo_20 : decode cX10_undo 20 = .ok (.ireturn, 1) := by decide +kernel
theorem dX10_undo_21 : decode cX10_undo 21 = .ok (.aload_n 0, 1) := by decide +kernel
theorem dX10_undo_22 : decode cX10_undo 22 = .ok (.dup, 1) := by decide +kernel
theorem dX10_undo_23 : decode cX10_undo 23 = .ok (.getfield 224, 3) := by decide +kernel
theorem dX10_undo_26 : decode cX10_undo 26 = .ok (.iconst 1, 1) := by decide +kernel
theorem dX10_undo_27 : decode cX10_undo 27 = .ok (.isub, 1) := by decide +kernel
theorem dX10_undo_28 : decode cX10_undo 28 = .ok (.putfield 224, 3) := by decide +kernel
theorem dX10_undo_31 : decode cX10_undo 31 = .ok (.aload_n 0, 1) := by decide +kernel
theorem dX10_undo_32 : decode cX10_undo 32 = .ok (.getfield 19, 3) := by decide +kernel
theorem dX10_undo_35 : decode cX10_undo 35 = .ok (.bipush 104, 2) := by decide +kernel
theorem dX10_undo_37 : decode cX10_undo 37 = .ok (.aload_n 0, 1) := by decide +kernel
theorem dX10_undo_38 : decode cX10_undo 38 = .ok (.getfield 224, 3) := by decide +kernel
theorem dX10_undo_41 : decode cX10_undo 41 = .ok (.imul, 1) := by decide +kernel
theorem dX10_undo_42 : decode cX10_undo 42 = .ok (.aload_n 0, 1) := by decide +kernel
theorem dX10_undo_43 : decode cX10_undo 43 = .ok (.getfield 13, 3) := by decide +kernel
theorem dX10_undo_46 : decode cX10_undo 46 = .ok (.iconst 0, 1) := by decide +kernel
theorem dX10_undo_47 : decode cX10_undo 47 = .ok (.invokestatic 220, 3) := by decide +kernel
theorem dX10_undo_50 : decode cX10_undo 50 = .ok (.aload_n 0, 1) := by decide +kernel
theorem dX10_undo_51 : decode cX10_undo 51 = .ok (.getfield 224, 3) := by decide +kernel
theorem dX10_undo_54 : decode cX10_undo 54 = .ok (.ireturn, 1) := by decide +kernel
theorem dX10_darkIn_0 : decode cX10_darkIn 0 = .ok (.aload_n 0, 1) := by decide +kernel
theorem dX10_darkIn_1 : decode cX10_darkIn 1 = .ok (.aload_n 0, 1) := by decide +kernel
theorem dX10_darkIn_2 : decode cX10_darkIn 2 = .ok (.getfield 13, 3) := by decide +kernel
theorem dX10_darkIn_5 : decode cX10_darkIn 5 = .ok (.iload_n 1, 1) := by decide +kernel
theorem dX10_darkIn_6 : decode cX10_darkIn 6 = .ok (.invokestatic 41, 3) := by decide +kernel
theorem dX10_darkIn_9 : decode cX10_darkIn 9 = .ok (.ifCond .eq 7, 3) := by decide +kernel
theorem dX10_darkIn_12 : decode cX10_darkIn 12 = .ok (.iconst 0, 1) := by decide +kernel
theorem dX10_darkIn_13 : decode cX10_darkIn 13 = .ok (.goto 4, 3) := by decide +kernel
theorem dX10_darkIn_16 : decode cX10_darkIn 16 = .ok (.iconst 1, 1) := by decide +kernel
theorem dX10_darkIn_17 : decode cX10_darkIn 17 = .ok (.invokevirtual 152, 3) := by decide +kernel
theorem dX10_darkIn_20 : decode cX10_darkIn 20 = .ok (.ifCond .eq 5, 3) := by decide +kernel
theorem dX10_darkIn_23 : decode cX10_darkIn 23 = .ok (.iconst 0, 1) := by decide +kernel
theorem dX10_darkIn_24 : decode cX10_darkIn 24 = .ok (.ireturn, 1) := by decide +kernel
theorem dX10_darkIn_25 : decode cX10_darkIn 25 = .ok (.aload_n 0, 1) := by decide +kernel
theorem dX10_darkIn_26 : decode cX10_darkIn 26 = .ok (.getfield 13, 3) := by decide +kernel
theorem dX10_darkIn_29 : decode cX10_darkIn 29 = .ok (.iconst 0, 1) := by decide +kernel
theorem dX10_darkIn_30 : decode cX10_darkIn 30 = .ok (.aload_n 0, 1) := by decide +kernel
theorem dX10_darkIn_31 : decode cX10_darkIn 31 = .ok (.getfield 16, 3) := by decide +kernel
theorem dX10_darkIn_34 : decode cX10_darkIn 34 = .ok (.iconst 0, 1) := by decide +kernel
theorem dX10_darkIn_35 : decode cX10_darkIn 35 = .ok (.invokestatic 220, 3) := by decide +kernel
theorem dX10_darkIn_38 : decode cX10_darkIn 38 = .ok (.iconst 0, 1) := by decide +kernel
theorem dX10_darkIn_39 : decode cX10_darkIn 39 = .ok (.istore_n 2, 1) := by decide +kernel
theorem dX10_darkIn_40 : decode cX10_darkIn 40 = .ok (.iload_n 2, 1) := by decide +kernel
theorem dX10_darkIn_41 : decode cX10_darkIn 41 = .ok (.sipush 200, 3) := by decide +kernel
theorem dX10_darkIn_44 : decode cX10_darkIn 44 = .ok (.if_icmp .gt 37, 3) := by decide +kernel
theorem dX10_darkIn_47 : decode cX10_darkIn 47 = .ok (.aload_n 0, 1) := by decide +kernel
theorem dX10_darkIn_48 : decode cX10_darkIn 48 = .ok (.getfield 16, 3) := by decide +kernel
theorem dX10_darkIn_51 : decode cX10_darkIn 51 = .ok (.iload_n 1, 1) := by decide +kernel
theorem dX10_darkIn_52 : decode cX10_darkIn 52 = .ok (.aload_n 0, 1) := by decide +kernel
theorem dX10_darkIn_53 : decode cX10_darkIn 53 = .ok (.getfield 16, 3) := by decide +kernel
theorem dX10_darkIn_56 : decode cX10_darkIn 56 = .ok (.iload_n 1, 1) := by decide +kernel
theorem dX10_darkIn_57 : decode cX10_darkIn 57 = .ok (.invokestatic 45, 3) := by decide +kernel
theorem dX10_darkIn_60 : decode cX10_darkIn 60 = .ok (.invokestatic 102, 3) := by decide +kernel
theorem dX10_darkIn_63 : decode cX10_darkIn 63 = .ok (.ifCond .ne 5, 3) := by decide +kernel
theorem dX10_darkIn_66 : decode cX10_darkIn 66 = .ok (.iload_n 2, 1) := by decide +kernel
theorem dX10_darkIn_67 : decode cX10_darkIn 67 = .ok (.ireturn, 1) := by decide +kernel
theorem dX10_darkIn_68 : decode cX10_darkIn 68 = .ok (.aload_n 0, 1) := by decide +kernel
theorem dX10_darkIn_69 : decode cX10_darkIn 69 = .ok (.getfield 16, 3) := by decide +kernel
theorem dX10_darkIn_72 : decode cX10_darkIn 72 = .ok (.invokestatic 136, 3) := by decide +kernel
theorem dX10_darkIn_75 : decode cX10_darkIn 75 = .ok (.iinc 2 1, 3) := by decide +kernel
theorem dX10_darkIn_78 : decode cX10_darkIn 78 = .ok (.goto (-38), 3) := by decide +kernel
theorem dX10_darkIn_81 : decode cX10_darkIn 81 = .ok (.iconst (-1), 1) := by decide +kernel
theorem dX10_darkIn_82 : decode cX10_darkIn 82 = .ok (.ireturn, 1) := by decide +kernel
theorem dX10_depthIn_0 : decode cX10_depthIn 0 = .ok (.aload_n 0, 1) := by decide +kernel
theorem dX10_depthIn_1 : decode cX10_depthIn 1 = .ok (.aload_n 0, 1) := by decide +kernel
theorem dX10_depthIn_2 : decode cX10_depthIn 2 = .ok (.getfield 13, 3) := by decide +kernel
theorem dX10_depthIn_5 : decode cX10_depthIn 5 = .ok (.iload_n 1, 1) := by decide +kernel
theorem dX10_depthIn_6 : decode cX10_depthIn 6 = .ok (.invokestatic 41, 3) := by decide +kernel
theorem dX10_depthIn_9 : decode cX10_depthIn 9 = .ok (.ifCond .ne 7, 3) := by decide +kernel
theorem dX10_depthIn_12 : decode cX10_depthIn 12 = .ok (.iconst 1, 1) := by decide +kernel
theorem dX10_depthIn_13 : decode cX10_depthIn 13 = .ok (.goto 20, 3) := by decide +kernel
theorem dX10_depthIn_16 : decode cX10_depthIn 16 = .ok (.iload_n 2, 1) := by decide +kernel
theorem dX10_depthIn_17 : decode cX10_depthIn 17 = .ok (.i2l, 1) := by decide +kernel
theorem dX10_depthIn_18 : decode cX10_depthIn 18 = .ok (.lconst 1, 1) := by decide +kernel
theorem dX10_depthIn_19 : decode cX10_depthIn 19 = .ok (.ldc2_w 254, 3) := by decide +kernel
theorem dX10_depthIn_22 : decode cX10_depthIn 22 = .ok (.invokestatic 37, 3) := by decide +kernel
theorem dX10_depthIn_25 : decode cX10_depthIn 25 = .ok (.ifCond .eq 7, 3) := by decide +kernel
theorem dX10_depthIn_28 : decode cX10_depthIn 28 = .ok (.iconst 0, 1) := by decide +kernel
theorem dX10_depthIn_29 : decode cX10_depthIn 29 = .ok (.goto 4, 3) := by decide +kernel
theorem dX10_depthIn_32 : decode cX10_depthIn 32 = .ok (.iconst 2, 1) := by decide +kernel
theorem dX10_depthIn_33 : decode cX10_depthIn 33 = .ok (.invokevirtual 152, 3) := by decide +kernel
theorem dX10_depthIn_36 : decode cX10_depthIn 36 = .ok (.ifCond .eq 5, 3) := by decide +kernel
theorem dX10_depthIn_39 : decode cX10_depthIn 39 = .ok (.iconst 0, 1) := by decide +kernel
theorem dX10_depthIn_40 : decode cX10_depthIn 40 = .ok (.ireturn, 1) := by decide +kernel
theorem dX10_depthIn_41 : decode cX10_depthIn 41 = .ok (.aload_n 0, 1) := by decide +kernel
theorem dX10_depthIn_42 : decode cX10_depthIn 42 = .ok (.getfield 13, 3) := by decide +kernel
theorem dX10_depthIn_45 : decode cX10_depthIn 45 = .ok (.iconst 0, 1) := by decide +kernel
theorem dX10_depthIn_46 : decode cX10_depthIn 46 = .ok (.aload_n 0, 1) := by decide +kernel
theorem dX10_depthIn_47 : decode cX10_depthIn 47 = .ok (.getfield 16, 3) := by decide +kernel
theorem dX10_depthIn_50 : decode cX10_depthIn 50 = .ok (.iconst 0, 1) := by decide +kernel
theorem dX10_depthIn_51 : decode cX10_depthIn 51 = .ok (.invokestatic 220, 3) := by decide +kernel
theorem dX10_depthIn_54 : decode cX10_depthIn 54 = .ok (.aload_n 0, 1) := by decide +kernel
theorem dX10_depthIn_55 : decode cX10_depthIn 55 = .ok (.getfield 16, 3) := by decide +kernel
theorem dX10_depthIn_58 : decode cX10_depthIn 58 = .ok (.iload_n 2, 1) := by decide +kernel
theorem dX10_depthIn_59 : decode cX10_depthIn 59 = .ok (.invokestatic 211, 3) := by decide +kernel
theorem dX10_depthIn_62 : decode cX10_depthIn 62 = .ok (.pop, 1) := by decide +kernel
theorem dX10_depthIn_63 : decode cX10_depthIn 63 = .ok (.aload_n 0, 1) := by decide +kernel
theorem dX10_depthIn_64 : decode cX10_depthIn 64 = .ok (.getfield 16, 3) := by decide +kernel
theorem dX10_depthIn_67 : decode cX10_depthIn 67 = .ok (.iload_n 1, 1) := by decide +kernel
theorem dX10_depthIn_68 : decode cX10_depthIn 68 = .ok (.invokestatic 45, 3) := by decide +kernel
theorem dX10_depthIn_71 : decode cX10_depthIn 71 = .ok (.ireturn, 1) := by decide +kernel
theorem dX10_doneIn_0 : decode cX10_doneIn 0 = .ok (.aload_n 0, 1) := by decide +kernel
theorem dX10_doneIn_1 : decode cX10_doneIn 1 = .ok (.iconst 0, 1) := by decide +kernel
theorem dX10_doneIn_2 : decode cX10_doneIn 2 = .ok (.putfield 33, 3) := by decide +kernel
theorem dX10_doneIn_5 : decode cX10_doneIn 5 = .ok (.aload_n 0, 1) := by decide +kernel
theorem dX10_doneIn_6 : decode cX10_doneIn 6 = .ok (.getfield 13, 3) := by decide +kernel
theorem dX10_doneIn_9 : decode cX10_doneIn 9 = .ok (.iconst 0, 1) := by decide +kernel
theorem dX10_doneIn_10 : decode cX10_doneIn 10 = .ok (.aload_n 0, 1) := by decide +kernel
theorem dX10_doneIn_11 : decode cX10_doneIn 11 = .ok (.getfield 16, 3) := by decide +kernel
theorem dX10_doneIn_14 : decode cX10_doneIn 14 = .ok (.iconst 0, 1) := by decide +kernel
theorem dX10_doneIn_15 : decode cX10_doneIn 15 = .ok (.invokestatic 220, 3) := by decide +kernel
theorem dX10_doneIn_18 : decode cX10_doneIn 18 = .ok (.aload_n 0, 1) := by decide +kernel
theorem dX10_doneIn_19 : decode cX10_doneIn 19 = .ok (.getfield 16, 3) := by decide +kernel
theorem dX10_doneIn_22 : decode cX10_doneIn 22 = .ok (.bipush 17, 2) := by decide +kernel
theorem dX10_doneIn_24 : decode cX10_doneIn 24 = .ok (.iconst 0, 1) := by decide +kernel
theorem dX10_doneIn_25 : decode cX10_doneIn 25 = .ok (.iastore, 1) := by decide +kernel
theorem dX10_doneIn_26 : decode cX10_doneIn 26 = .ok (.iconst 0, 1) := by decide +kernel
theorem dX10_doneIn_27 : decode cX10_doneIn 27 = .ok (.istore_n 1, 1) := by decide +kernel
theorem dX10_doneIn_28 : decode cX10_doneIn 28 = .ok (.iload_n 1, 1) := by decide +kernel
theorem dX10_doneIn_29 : decode cX10_doneIn 29 = .ok (.sipush 200, 3) := by decide +kernel
theorem dX10_doneIn_32 : decode cX10_doneIn 32 = .ok (.if_icmp .gt 28, 3) := by decide +kernel
theorem dX10_doneIn_35 : decode cX10_doneIn 35 = .ok (.aload_n 0, 1) := by decide +kernel
theorem dX10_doneIn_36 : decode cX10_doneIn 36 = .ok (.getfield 16, 3) := by decide +kernel
theorem dX10_doneIn_39 : decode cX10_doneIn 39 = .ok (.bipush 8, 2) := by decide +kernel
theorem dX10_doneIn_41 : decode cX10_doneIn 41 = .ok (.iaload, 1) := by decide +kernel
theorem dX10_doneIn_42 : decode cX10_doneIn 42 = .ok (.ifCond .ne 5, 3) := by decide +kernel
theorem dX10_doneIn_45 : decode cX10_doneIn 45 = .ok (.iload_n 1, 1) := by decide +kernel
theorem dX10_doneIn_46 : decode cX10_doneIn 46 = .ok (.ireturn, 1) := by decide +kernel
theorem dX10_doneIn_47 : decode cX10_doneIn 47 = .ok (.aload_n 0, 1) := by decide +kernel
theorem dX10_doneIn_48 : decode cX10_doneIn 48 = .ok (.getfield 16, 3) := by decide +kernel
theorem dX10_doneIn_51 : decode cX10_doneIn 51 = .ok (.invokestatic 136, 3) := by decide +kernel
theorem dX10_doneIn_54 : decode cX10_doneIn 54 = .ok (.iinc 1 1, 3) := by decide +kernel
theorem dX10_doneIn_57 : decode cX10_doneIn 57 = .ok (.goto (-29), 3) := by decide +kernel
theorem dX10_doneIn_60 : decode cX10_doneIn 60 = .ok (.iconst (-1), 1) := by decide +kernel
theorem dX10_doneIn_61 : decode cX10_doneIn 61 = .ok (.ireturn, 1) := by decide +kernel
theorem dX10_bestCell_0 : decode cX10_bestCell 0 = .ok (.aload_n 0, 1) := by decide +kernel
theorem dX10_bestCell_1 : decode cX10_bestCell 1 = .ok (.aload_n 0, 1) := by decide +kernel
theorem dX10_bestCell_2 : decode cX10_bestCell 2 = .ok (.getfield 13, 3) := by decide +kernel
theorem dX10_bestCell_5 : decode cX10_bestCell 5 = .ok (.iload_n 1, 1) := by decide +kernel
theorem dX10_bestCell_6 : decode cX10_bestCell 6 = .ok (.invokestatic 142, 3) := by decide +kernel
theorem dX10_bestCell_9 : decode cX10_bestCell 9 = .ok (.ifCond .eq 14, 3) := by decide +kernel
theorem dX10_bestCell_12 : decode cX10_bestCell 12 = .ok (.aload_n 0, 1) := by decide +kernel
theorem dX10_bestCell_13 : decode cX10_bestCell 13 = .ok (.getfield 13, 3) := by decide +kernel
theorem dX10_bestCell_16 : decode cX10_bestCell 16 = .ok (.iload_n 2, 1) := by decide +kernel
theorem dX10_bestCell_17 : decode cX10_bestCell 17 = .ok (.invokestatic 41, 3) := by decide +kernel
theorem dX10_bestCell_20 : decode cX10_bestCell 20 = .ok (.ifCond .ne 7, 3) := by decide +kernel
theorem dX10_bestCell_23 : decode cX10_bestCell 23 = .ok (.iconst 1, 1) := by decide +kernel
theorem dX10_bestCell_24 : decode cX10_bestCell 24 = .ok (.goto 36, 3) := by decide +kernel
theorem dX10_bestCell_27 : decode cX10_bestCell 27 = .ok (.iload_n 3, 1) := by decide +kernel
theorem dX10_bestCell_28 : decode cX10_bestCell 28 = .ok (.i2l, 1) := by decide +kernel
theorem dX10_bestCell_29 : decode cX10_bestCell 29 = .ok (.lconst 1, 1) := by decide +kernel
theorem dX10_bestCell_30 : decode cX10_bestCell 30 = .ok (.ldc2_w 256, 3) := by decide +kernel
theorem dX10_bestCell_33 : decode cX10_bestCell 33 = .ok (.invokestatic 37, 3) := by decide +kernel
theorem dX10_bestCell_36 : decode cX10_bestCell 36 = .ok (.ifCond .ne 7, 3) := by decide +kernel
theorem dX10_bestCell_39 : decode cX10_bestCell 39 = .ok (.iconst 2, 1) := by decide +kernel
theorem dX10_bestCell_40 : decode cX10_bestCell 40 = .ok (.goto 20, 3) := by decide +kernel
theorem dX10_bestCell_43 : decode cX10_bestCell 43 = .ok (.aload_n 0, 1) := by decide +kernel
theorem dX10_bestCell_44 : decode cX10_bestCell 44 = .ok (.getfield 13, 3) := by decide +kernel
theorem dX10_bestCell_47 : decode cX10_bestCell 47 = .ok (.bipush 8, 2) := by decide +kernel
theorem dX10_bestCell_49 : decode cX10_bestCell 49 = .ok (.iaload, 1) := by decide +kernel
theorem dX10_bestCell_50 : decode cX10_bestCell 50 = .ok (.bipush 6, 2) := by decide +kernel
theorem dX10_bestCell_52 : decode cX10_bestCell 52 = .ok (.if_icmp .ge 7, 3) := by decide +kernel
theorem dX10_bestCell_55 : decode cX10_bestCell 55 = .ok (.iconst 0, 1) := by decide +kernel
theorem dX10_bestCell_56 : decode cX10_bestCell 56 = .ok (.goto 4, 3) := by decide +kernel
theorem dX10_bestCell_59 : decode cX10_bestCell 59 = .ok (.iconst 3, 1) := by decide +kernel
theorem dX10_bestCell_60 : decode cX10_bestCell 60 = .ok (.invokevirtual 152, 3) := by decide +kernel
theorem dX10_bestCell_63 : decode cX10_bestCell 63 = .ok (.ifCond .eq 5, 3) := by decide +kernel
theorem dX10_bestCell_66 : decode cX10_bestCell 66 = .ok (.iconst 0, 1) := by decide +kernel
theorem dX10_bestCell_67 : decode cX10_bestCell 67 = .ok (.ireturn, 1) := by decide +kernel
theorem dX10_bestCell_68 : decode cX10_bestCell 68 = .ok (.iconst (-1), 1) := by decide +kernel
theorem dX10_bestCell_69 : decode cX10_bestCell 69 = .ok (.istore 4, 2) := by decide +kernel
theorem dX10_bestCell_71 : decode cX10_bestCell 71 = .ok (.iconst 0, 1) := by decide +kernel
theorem dX10_bestCell_72 : decode cX10_bestCell 72 = .ok (.istore 5, 2) := by decide +kernel
theorem dX10_bestCell_74 : decode cX10_bestCell 74 = .ok (.iconst 0, 1) := by decide +kernel
theorem dX10_bestCell_75 : decode cX10_bestCell 75 = .ok (.istore 6, 2) := by decide +kernel
theorem dX10_bestCell_77 : decode cX10_bestCell 77 = .ok (.iload 6, 2) := by decide +kernel
theorem dX10_bestCell_79 : decode cX10_bestCell 79 = .ok (.aload_n 0, 1) := by decide +kernel
theorem dX10_bestCell_80 : decode cX10_bestCell 80 = .ok (.getfield 13, 3) := by decide +kernel
theorem dX10_bestCell_83 : decode cX10_bestCell 83 = .ok (.iload_n 2, 1) := by decide +kernel
theorem dX10_bestCell_84 : decode cX10_bestCell 84 = .ok (.invokestatic 45, 3) := by decide +kernel
theorem dX10_bestCell_87 : decode cX10_bestCell 87 = .ok (.if_icmp .ge 93, 3) := by decide +kernel
theorem dX10_bestCell_90 : decode cX10_bestCell 90 = .ok (.aload_n 0, 1) := by decide +kernel
theorem dX10_bestCell_91 : decode cX10_bestCell 91 = .ok (.getfield 13, 3) := by decide +kernel
theorem dX10_bestCell_94 : decode cX10_bestCell 94 = .ok (.iconst 0, 1) := by decide +kernel
theorem dX10_bestCell_95 : decode cX10_bestCell 95 = .ok (.aload_n 0, 1) := by decide +kernel
theorem dX10_bestCell_96 : decode cX10_bestCell 96 = .ok (.getfield 16, 3) := by decide +kernel
theorem dX10_bestCell_99 : decode cX10_bestCell 99 = .ok (.iconst 0, 1) := by decide +kernel
theorem dX10_bestCell_100 : decode cX10_bestCell 100 = .ok (.invokestatic 220, 3) := by decide +kernel
theorem dX10_bestCell_103 : decode cX10_bestCell 103 = .ok (.aload_n 0, 1) := by decide +kernel
theorem dX10_bestCell_104 : decode cX10_bestCell 104 = .ok (.getfield 16, 3) := by decide +kernel
theorem dX10_bestCell_107 : decode cX10_bestCell 107 = .ok (.iconst 0, 1) := by decide +kernel
theorem dX10_bestCell_108 : decode cX10_bestCell 108 = .ok (.iload_n 1, 1) := by decide +kernel
theorem dX10_bestCell_109 : decode cX10_bestCell 109 = .ok (.iload_n 2, 1) := by decide +kernel
theorem dX10_bestCell_110 : decode cX10_bestCell 110 = .ok (.iload 6, 2) := by decide +kernel
theorem dX10_bestCell_112 : decode cX10_bestCell 112 = .ok (.invokestatic 120, 3) := by decide +kernel
theorem dX10_bestCell_115 : decode cX10_bestCell 115 = .ok (.pop, 1) := by decide +kernel
theorem dX10_bestCell_116 : decode cX10_bestCell 116 = .ok (.aload_n 0, 1) := by decide +kernel
theorem dX10_bestCell_117 : decode cX10_bestCell 117 = .ok (.getfield 16, 3) := by decide +kernel
theorem dX10_bestCell_120 : decode cX10_bestCell 120 = .ok (.iload_n 3, 1) := by decide +kernel
theorem dX10_bestCell_121 : decode cX10_bestCell 121 = .ok (.invokestatic 211, 3) := by decide +kernel
theorem dX10_bestCell_124 : decode cX10_bestCell 124 = .ok (.istore 7, 2) := by decide +kernel
theorem dX10_bestCell_126 : decode cX10_bestCell 126 = .ok (.iload 4, 2) := by decide +kernel
theorem dX10_bestCell_128 : decode cX10_bestCell 128 = .ok (.iconst (-1), 1) := by decide +kernel
theorem dX10_bestCell_129 : decode cX10_bestCell 129 = .ok (.if_icmp .eq 10, 3) := by decide +kernel
theorem dX10_bestCell_132 : decode cX10_bestCell 132 = .ok (.iload 7, 2) := by decide +kernel
theorem dX10_bestCell_134 : decode cX10_bestCell 134 = .ok (.iload 5, 2) := by decide +kernel
theorem dX10_bestCell_136 : decode cX10_bestCell 136 = .ok (.if_icmp .lt 7, 3) := by decide +kernel
theorem dX10_bestCell_139 : decode cX10_bestCell 139 = .ok (.iconst 1, 1) := by decide +kernel
theorem dX10_bestCell_140 : decode cX10_bestCell 140 = .ok (.goto 4, 3) := by decide +kernel
theorem dX10_bestCell_143 : decode cX10_bestCell 143 = .ok (.iconst 0, 1) := by decide +kernel
theorem dX10_bestCell_144 : decode cX10_bestCell 144 = .ok (.istore 8, 2) := by decide +kernel
theorem dX10_bestCell_146 : decode cX10_bestCell 146 = .ok (.iload 8, 2) := by decide +kernel
theorem dX10_bestCell_148 : decode cX10_bestCell 148 = .ok (.ifCond .eq 8, 3) := by decide +kernel
theorem dX10_bestCell_151 : decode cX10_bestCell 151 = .ok (.iload 6, 2) := by decide +kernel
theorem dX10_bestCell_153 : decode cX10_bestCell 153 = .ok (.goto 5, 3) := by decide +kernel
theorem dX10_bestCell_156 : decode cX10_bestCell 156 = .ok (.iload 4, 2) := by decide +kernel
theorem dX10_bestCell_158 : decode cX10_bestCell 158 = .ok (.istore 4, 2) := by decide +kernel
theorem dX10_bestCell_160 : decode cX10_bestCell 160 = .ok (.iload 8, 2) := by decide +kernel
theorem dX10_bestCell_162 : decode cX10_bestCell 162 = .ok (.ifCond .eq 8, 3) := by decide +kernel
theorem dX10_bestCell_165 : decode cX10_bestCell 165 = .ok (.iload 7, 2) := by decide +kernel
theorem dX10_bestCell_167 : decode cX10_bestCell 167 = .ok (.goto 5, 3) := by decide +kernel
theorem dX10_bestCell_170 : decode cX10_bestCell 170 = .ok (.iload 5, 2) := by decide +kernel
theorem dX10_bestCell_172 : decode cX10_bestCell 172 = .ok (.istore 5, 2) := by decide +kernel
theorem dX10_bestCell_174 : decode cX10_bestCell 174 = .ok (.iinc 6 1, 3) := by decide +kernel
theorem dX10_bestCell_177 : decode cX10_bestCell 177 = .ok (.goto (-100), 3) := by decide +kernel
theorem dX10_bestCell_180 : decode cX10_bestCell 180 = .ok (.iload 4, 2) := by decide +kernel
theorem dX10_bestCell_182 : decode cX10_bestCell 182 = .ok (.ireturn, 1) := by decide +kernel
theorem dX10_steps_0 : decode cX10_steps 0 = .ok (.aload_n 0, 1) := by decide +kernel
theorem dX10_steps_1 : decode cX10_steps 1 = .ok (.aload_n 0, 1) := by decide +kernel
theorem dX10_steps_2 : decode cX10_steps 2 = .ok (.getfield 13, 3) := by decide +kernel
theorem dX10_steps_5 : decode cX10_steps 5 = .ok (.iload_n 1, 1) := by decide +kernel
theorem dX10_steps_6 : decode cX10_steps 6 = .ok (.iload_n 2, 1) := by decide +kernel
theorem dX10_steps_7 : decode cX10_steps 7 = .ok (.invokestatic 139, 3) := by decide +kernel
theorem dX10_steps_10 : decode cX10_steps 10 = .ok (.ifCond .eq 20, 3) := by decide +kernel
theorem dX10_steps_13 : decode cX10_steps 13 = .ok (.aload_n 0, 1) := by decide +kernel
theorem dX10_steps_14 : decode cX10_steps 14 = .ok (.getfield 13, 3) := by decide +kernel
theorem dX10_steps_17 : decode cX10_steps 17 = .ok (.iload_n 3, 1) := by decide +kernel
theorem dX10_steps_18 : decode cX10_steps 18 = .ok (.iload 4, 2) := by decide +kernel
theorem dX10_steps_20 : decode cX10_steps 20 = .ok (.invokestatic 139, 3) := by decide +kernel
theorem dX10_steps_23 : decode cX10_steps 23 = .ok (.ifCond .eq 7, 3) := by decide +kernel
theorem dX10_steps_26 : decode cX10_steps 26 = .ok (.iconst 0, 1) := by decide +kernel
theorem dX10_steps_27 : decode cX10_steps 27 = .ok (.goto 4, 3) := by decide +kernel
theorem dX10_steps_30 : decode cX10_steps 30 = .ok (.iconst 1, 1) := by decide +kernel
theorem dX10_steps_31 : decode cX10_steps 31 = .ok (.invokevirtual 152, 3) := by decide +kernel
theorem dX10_steps_34 : decode cX10_steps 34 = .ok (.ifCond .eq 5, 3) := by decide +kernel
theorem dX10_steps_37 : decode cX10_steps 37 = .ok (.iconst 0, 1) := by decide +kernel
theorem dX10_steps_38 : decode cX10_steps 38 = .ok (.ireturn, 1) := by decide +kernel
theorem dX10_steps_39 : decode cX10_steps 39 = .ok (.iload_n 1, 1) := by decide +kernel
theorem dX10_steps_40 : decode cX10_steps 40 = .ok (.iload_n 2, 1) := by decide +kernel
theorem dX10_steps_41 : decode cX10_steps 41 = .ok (.iload_n 3, 1) := by decide +kernel
theorem dX10_steps_42 : decode cX10_steps 42 = .ok (.iload 4, 2) := by decide +kernel
theorem dX10_steps_44 : decode cX10_steps 44 = .ok (.invokestatic 86, 3) := by decide +kernel
theorem dX10_steps_47 : decode cX10_steps 47 = .ok (.ireturn, 1) := by decide +kernel
theorem dX10_sends_0 : decode cX10_sends 0 = .ok (.aload_n 0, 1) := by decide +kernel
theorem dX10_sends_1 : decode cX10_sends 1 = .ok (.getfield 16, 3) := by decide +kernel
theorem dX10_sends_4 : decode cX10_sends 4 = .ok (.iload_n 1, 1) := by decide +kernel
theorem dX10_sends_5 : decode cX10_sends 5 = .ok (.invokestatic 229, 3) := by decide +kernel
theorem dX10_sends_8 : decode cX10_sends 8 = .ok (.ifCond .eq 18, 3) := by decide +kernel
theorem dX10_sends_11 : decode cX10_sends 11 = .ok (.aload_n 0, 1) := by decide +kernel
theorem dX10_sends_12 : decode cX10_sends 12 = .ok (.getfield 16, 3) := by decide +kernel
theorem dX10_sends_15 : decode cX10_sends 15 = .ok (.iload_n 2, 1) := by decide +kernel
theorem dX10_sends_16 : decode cX10_sends 16 = .ok (.invokestatic 41, 3) := by decide +kernel
theorem dX10_sends_19 : decode cX10_sends 19 = .ok (.ifCond .eq 7, 3) := by decide +kernel
theorem dX10_sends_22 : decode cX10_sends 22 = .ok (.iconst 1, 1) := by decide +kernel
theorem dX10_sends_23 : decode cX10_sends 23 = .ok (.goto 4, 3) := by decide +kernel
theorem dX10_sends_26 : decode cX10_sends 26 = .ok (.iconst 0, 1) := by decide +kernel
theorem dX10_sends_27 : decode cX10_sends 27 = .ok (.istore_n 3, 1) := by decide +kernel
theorem dX10_sends_28 : decode cX10_sends 28 = .ok (.iload_n 3, 1) := by decide +kernel
theorem dX10_sends_29 : decode cX10_sends 29 = .ok (.ifCond .eq 15, 3) := by decide +kernel
theorem dX10_sends_32 : decode cX10_sends 32 = .ok (.aload_n 0, 1) := by decide +kernel
theorem dX10_sends_33 : decode cX10_sends 33 = .ok (.getfield 16, 3) := by decide +kernel
theorem dX10_sends_36 : decode cX10_sends 36 = .ok (.bipush 24, 2) := by decide +kernel
theorem dX10_sends_38 : decode cX10_sends 38 = .ok (.iconst 4, 1) := by decide +kernel
theorem dX10_sends_39 : decode cX10_sends 39 = .ok (.iload_n 1, 1) := by decide +kernel
theorem dX10_sends_40 : decode cX10_sends 40 = .ok (.imul, 1) := by decide +kernel
theorem dX10_sends_41 : decode cX10_sends 41 = .ok (.iadd, 1) := by decide +kernel
theorem dX10_sends_42 : decode cX10_sends 42 = .ok (.iload_n 2, 1) := by decide +kernel
theorem dX10_sends_43 : decode cX10_sends 43 = .ok (.iastore, 1) := by decide +kernel
theorem dX10_sends_44 : decode cX10_sends 44 = .ok (.iload_n 3, 1) := by decide +kernel
theorem dX10_sends_45 : decode cX10_sends 45 = .ok (.ireturn, 1) := by decide +kernel
theorem dX10_command_0 : decode cX10_command 0 = .ok (.iload_n 2, 1) := by decide +kernel
theorem dX10_command_1 : decode cX10_command 1 = .ok (.sipush 10000, 3) := by decide +kernel
theorem dX10_command_4 : decode cX10_command 4 = .ok (.idiv, 1) := by decide +kernel
theorem dX10_command_5 : decode cX10_command 5 = .ok (.istore_n 3, 1) := by decide +kernel
theorem dX10_command_6 : decode cX10_command 6 = .ok (.iload_n 2, 1) := by decide +kernel
theorem dX10_command_7 : decode cX10_command 7 = .ok (.sipush 1000, 3) := by decide +kernel
theorem dX10_command_10 : decode cX10_command 10 = .ok (.idiv, 1) := by decide +kernel
theorem dX10_command_11 : decode cX10_command 11 = .ok (.bipush 10, 2) := by decide +kernel
theorem dX10_command_13 : decode cX10_command 13 = .ok (.irem, 1) := by decide +kernel
theorem dX10_command_14 : decode cX10_command 14 = .ok (.istore 4, 2) := by decide +kernel
theorem dX10_command_16 : decode cX10_command 16 = .ok (.iload_n 2, 1) := by decide +kernel
theorem dX10_command_17 : decode cX10_command 17 = .ok (.bipush 10, 2) := by decide +kernel
theorem dX10_command_19 : decode cX10_command 19 = .ok (.idiv, 1) := by decide +kernel
theorem dX10_command_20 : decode cX10_command 20 = .ok (.bipush 100, 2) := by decide +kernel
theorem dX10_command_22 : decode cX10_command 22 = .ok (.irem, 1) := by decide +kernel
theorem dX10_command_23 : decode cX10_command 23 = .ok (.istore 5, 2) := by decide +kernel
theorem dX10_command_25 : decode cX10_command 25 = .ok (.iload_n 2, 1) := by decide +kernel
theorem dX10_command_26 : decode cX10_command 26 = .ok (.bipush 10, 2) := by decide +kernel
theorem dX10_command_28 : decode cX10_command 28 = .ok (.irem, 1) := by decide +kernel
theorem dX10_command_29 : decode cX10_command 29 = .ok (.istore 6, 2) := by decide +kernel
theorem dX10_command_31 : decode cX10_command 31 = .ok (.iload_n 2, 1) := by decide +kernel
theorem dX10_command_32 : decode cX10_command 32 = .ok (.bipush 100, 2) := by decide +kernel
theorem dX10_command_34 : decode cX10_command 34 = .ok (.irem, 1) := by decide +kernel
theorem dX10_command_35 : decode cX10_command 35 = .ok (.istore 7, 2) := by decide +kernel
theorem dX10_command_37 : decode cX10_command 37 = .ok (.iload_n 2, 1) := by decide +kernel
theorem dX10_command_38 : decode cX10_command 38 = .ok (.sipush 10000, 3) := by decide +kernel
theorem dX10_command_41 : decode cX10_command 41 = .ok (.irem, 1) := by decide +kernel
theorem dX10_command_42 : decode cX10_command 42 = .ok (.istore 8, 2) := by decide +kernel
theorem dX10_command_44 : decode cX10_command 44 = .ok (.iload_n 1, 1) := by decide +kernel
theorem dX10_command_45 : decode cX10_command 45 = .ok (.tableswitch 383 1 9 #[51, 80, 122, 166, 207, 231, 284, 321, 359], 51) := by decide +kernel
theorem dX10_command_96 : decode cX10_command 96 = .ok (.iload_n 2, 1) := by decide +kernel
theorem dX10_command_97 : decode cX10_command 97 = .ok (.i2l, 1) := by decide +kernel
theorem dX10_command_98 : decode cX10_command 98 = .ok (.lconst 1, 1) := by decide +kernel
theorem dX10_command_99 : decode cX10_command 99 = .ok (.ldc2_w 240, 3) := by decide +kernel
theorem dX10_command_102 : decode cX10_command 102 = .ok (.invokestatic 37, 3) := by decide +kernel
theorem dX10_command_105 : decode cX10_command 105 = .ok (.ifCond .eq 18, 3) := by decide +kernel
theorem dX10_command_108 : decode cX10_command 108 = .ok (.aload_n 0, 1) := by decide +kernel
theorem dX10_command_109 : decode cX10_command 109 = .ok (.getfield 16, 3) := by decide +kernel
theorem dX10_command_112 : decode cX10_command 112 = .ok (.iload_n 2, 1) := by decide +kernel
theorem dX10_command_113 : decode cX10_command 113 = .ok (.invokestatic 211, 3) := by decide +kernel
theorem dX10_command_116 : decode cX10_command 116 = .ok (.ifCond .lt 7, 3) := by decide +kernel
theorem dX10_command_119 : decode cX10_command 119 = .ok (.iconst 1, 1) := by decide +kernel
theorem dX10_command_120 : decode cX10_command 120 = .ok (.goto 4, 3) := by decide +kernel
theorem dX10_command_123 : decode cX10_command 123 = .ok (.iconst 0, 1) := by decide +kernel
theorem dX10_command_124 : decode cX10_command 124 = .ok (.ireturn, 1) := by decide +kernel
theorem dX10_command_125 : decode cX10_command 125 = .ok (.iload 6, 2) := by decide +kernel
theorem dX10_command_127 : decode cX10_command 127 = .ok (.ifCond .ne 38, 3) := by decide +kernel
theorem dX10_command_130 : decode cX10_command 130 = .ok (.aload_n 0, 1) := by decide +kernel
theorem dX10_command_131 : decode cX10_command 131 = .ok (.getfield 16, 3) := by decide +kernel
theorem dX10_command_134 : decode cX10_command 134 = .ok (.iload_n 3, 1) := by decide +kernel
theorem dX10_command_135 : decode cX10_command 135 = .ok (.iload 4, 2) := by decide +kernel
theorem dX10_command_137 : decode cX10_command 137 = .ok (.iload 5, 2) := by decide +kernel
theorem dX10_command_139 : decode cX10_command 139 = .ok (.invokestatic 187, 3) := by decide +kernel
theorem dX10_command_142 : decode cX10_command 142 = .ok (.ifCond .eq 23, 3) := by decide +kernel
theorem dX10_command_145 : decode cX10_command 145 = .ok (.aload_n 0, 1) := by decide +kernel
theorem dX10_command_146 : decode cX10_command 146 = .ok (.getfield 16, 3) := by decide +kernel
theorem dX10_command_149 : decode cX10_command 149 = .ok (.iconst 0, 1) := by decide +kernel
theorem dX10_command_150 : decode cX10_command 150 = .ok (.iload_n 3, 1) := by decide +kernel
theorem dX10_command_151 : decode cX10_command 151 = .ok (.iload 4, 2) := by decide +kernel
theorem dX10_command_153 : decode cX10_command 153 = .ok (.iload 5, 2) := by decide +kernel
theorem dX10_command_155 : decode cX10_command 155 = .ok (.invokestatic 120, 3) := by decide +kernel
theorem dX10_command_158 : decode cX10_command 158 = .ok (.ifCond .le 7, 3) := by decide +kernel
theorem dX10_command_161 : decode cX10_command 161 = .ok (.iconst 1, 1) := by decide +kernel
theorem dX10_command_162 : decode cX10_command 162 = .ok (.goto 4, 3) := by decide +kernel
theorem dX10_command_165 : decode cX10_command 165 = .ok (.iconst 0, 1) := by decide +kernel
theorem dX10_command_166 : decode cX10_command 166 = .ok (.ireturn, 1) := by decide +kernel
theorem dX10_command_167 : decode cX10_command 167 = .ok (.iload 6, 2) := by decide +kernel
theorem dX10_command_169 : decode cX10_command 169 = .ok (.ifCond .ne 40, 3) := by decide +kernel
theorem dX10_command_172 : decode cX10_command 172 = .ok (.iload 4, 2) := by decide +kernel
theorem dX10_command_174 : decode cX10_command 174 = .ok (.ifCond .ne 35, 3) := by decide +kernel
theorem dX10_command_177 : decode cX10_command 177 = .ok (.aload_n 0, 1) := by decide +kernel
theorem dX10_command_178 : decode cX10_command 178 = .ok (.getfield 16, 3) := by decide +kernel
theorem dX10_command_181 : decode cX10_command 181 = .ok (.iload_n 3, 1) := by decide +kernel
theorem dX10_command_182 : decode cX10_command 182 = .ok (.iload 5, 2) := by decide +kernel
theorem dX10_command_184 : decode cX10_command 184 = .ok (.invokestatic 208, 3) := by decide +kernel
theorem dX10_command_187 : decode cX10_command 187 = .ok (.ifCond .eq 22, 3) := by decide +kernel
theorem dX10_command_190 : decode cX10_command 190 = .ok (.aload_n 0, 1) := by decide +kernel
theorem dX10_command_191 : decode cX10_command 191 = .ok (.getfield 16, 3) := by decide +kernel
theorem dX10_command_194 : decode cX10_command 194 = .ok (.iconst 1, 1) := by decide +kernel
theorem dX10_command_195 : decode cX10_command 195 = .ok (.iload_n 3, 1) := by decide +kernel
theorem dX10_command_196 : decode cX10_command 196 = .ok (.iload 5, 2) := by decide +kernel
theorem dX10_command_198 : decode cX10_command 198 = .ok (.iconst (-1), 1) := by decide +kernel
theorem dX10_command_199 : decode cX10_command 199 = .ok (.invokestatic 120, 3) := by decide +kernel
theorem dX10_command_202 : decode cX10_command 202 = .ok (.ifCond .le 7, 3) := by decide +kernel
theorem dX10_command_205 : decode cX10_command 205 = .ok (.iconst 1, 1) := by decide +kernel
theorem dX10_command_206 : decode cX10_command 206 = .ok (.goto 4, 3) := by decide +kernel
theorem dX10_command_209 : decode cX10_command 209 = .ok (.iconst 0, 1) := by decide +kernel
theorem dX10_command_210 : decode cX10_command 210 = .ok (.ireturn, 1) := by decide +kernel
theorem dX10_command_211 : decode cX10_command 211 = .ok (.iload 6, 2) := by decide +kernel
theorem dX10_command_213 : decode cX10_command 213 = .ok (.ifCond .ne 37, 3) := by decide +kernel
theorem dX10_command_216 : decode cX10_command 216 = .ok (.iload 4, 2) := by decide +kernel
theorem dX10_command_218 : decode cX10_command 218 = .ok (.ifCond .ne 32, 3) := by decide +kernel
theorem dX10_command_221 : decode cX10_command 221 = .ok (.iload_n 3, 1) := by decide +kernel
theorem dX10_command_222 : decode cX10_command 222 = .ok (.iload 5, 2) := by decide +kernel
theorem dX10_command_224 : decode cX10_command 224 = .ok (.invokestatic 250, 3) := by decide +kernel
theorem dX10_command_227 : decode cX10_command 227 = .ok (.ifCond .eq 23, 3) := by decide +kernel
theorem dX10_command_230 : decode cX10_command 230 = .ok (.aload_n 0, 1) := by decide +kernel
theorem dX10_command_231 : decode cX10_command 231 = .ok (.getfield 16, 3) := by decide +kernel
theorem dX10_command_234 : decode cX10_command 234 = .ok (.bipush 16, 2) := by decide +kernel
theorem dX10_command_236 : decode cX10_command 236 = .ok (.iload_n 3, 1) := by decide +kernel
theorem dX10_command_237 : decode cX10_command 237 = .ok (.iadd, 1) := by decide +kernel
theorem dX10_command_238 : decode cX10_command 238 = .ok (.iload 5, 2) := by decide +kernel
theorem dX10_command_240 : decode cX10_command 240 = .ok (.invokestatic 245, 3) := by decide +kernel
theorem dX10_command_243 : decode cX10_command 243 = .ok (.ifCond .lt 7, 3) := by decide +kernel
theorem dX10_command_246 : decode cX10_command 246 = .ok (.iconst 1, 1) := by decide +kernel
theorem dX10_command_247 : decode cX10_command 247 = .ok (.goto 4, 3) := by decide +kernel
theorem dX10_command_250 : decode cX10_command 250 = .ok (.iconst 0, 1) := by decide +kernel
theorem dX10_command_251 : decode cX10_command 251 = .ok (.ireturn, 1) := by decide +kernel
theorem dX10_command_252 : decode cX10_command 252 = .ok (.iload_n 2, 1) := by decide +kernel
theorem dX10_command_253 : decode cX10_command 253 = .ok (.sipush 1000, 3) := by decide +kernel
theorem dX10_command_256 : decode cX10_command 256 = .ok (.irem, 1) := by decide +kernel
theorem dX10_command_257 : decode cX10_command 257 = .ok (.ifCond .ne 17, 3) := by decide +kernel
theorem dX10_command_260 : decode cX10_command 260 = .ok (.aload_n 0, 1) := by decide +kernel
theorem dX10_command_261 : decode cX10_command 261 = .ok (.iload_n 3, 1) := by decide +kernel
theorem dX10_command_262 : decode cX10_command 262 = .ok (.iload 4, 2) := by decide +kernel
theorem dX10_command_264 : decode cX10_command 264 = .ok (.invokevirtual 258, 3) := by decide +kernel
theorem dX10_command_267 : decode cX10_command 267 = .ok (.ifCond .eq 7, 3) := by decide +kernel
theorem dX10_command_270 : decode cX10_command 270 = .ok (.iconst 1, 1) := by decide +kernel
theorem dX10_command_271 : decode cX10_command 271 = .ok (.goto 4, 3) := by decide +kernel
theorem dX10_command_274 : decode cX10_command 274 = .ok (.iconst 0, 1) := by decide +kernel
theorem dX10_command_275 : decode cX10_command 275 = .ok (.ireturn, 1) := by decide +kernel
theorem dX10_command_276 : decode cX10_command 276 = .ok (.iload 8, 2) := by decide +kernel
theorem dX10_command_278 : decode cX10_command 278 = .ok (.iconst 2, 1) := by decide +kernel
theorem dX10_command_279 : decode cX10_command 279 = .ok (.if_icmp .ge 48, 3) := by decide +kernel
theorem dX10_command_282 : decode cX10_command 282 = .ok (.aload_n 0, 1) := by decide +kernel
theorem dX10_command_283 : decode cX10_command 283 = .ok (.getfield 16, 3) := by decide +kernel
theorem dX10_command_286 : decode cX10_command 286 = .ok (.iload_n 3, 1) := by decide +kernel
theorem dX10_command_287 : decode cX10_command 287 = .ok (.invokestatic 41, 3) := by decide +kernel
theorem dX10_command_290 : decode cX10_command 290 = .ok (.ifCond .eq 37, 3) := by decide +kernel
theorem dX10_command_293 : decode cX10_command 293 = .ok (.aload_n 0, 1) := by decide +kernel
theorem dX10_command_294 : decode cX10_command 294 = .ok (.getfield 16, 3) := by decide +kernel
theorem dX10_command_297 : decode cX10_command 297 = .ok (.iload_n 3, 1) := by decide +kernel
theorem dX10_command_298 : decode cX10_command 298 = .ok (.aload_n 0, 1) := by decide +kernel
theorem dX10_command_299 : decode cX10_command 299 = .ok (.getfield 16, 3) := by decide +kernel
theorem dX10_command_302 : decode cX10_command 302 = .ok (.iload_n 3, 1) := by decide +kernel
theorem dX10_command_303 : decode cX10_command 303 = .ok (.invokestatic 45, 3) := by decide +kernel
theorem dX10_command_306 : decode cX10_command 306 = .ok (.invokestatic 102, 3) := by decide +kernel
theorem dX10_command_309 : decode cX10_command 309 = .ok (.iload 6, 2) := by decide +kernel
theorem dX10_command_311 : decode cX10_command 311 = .ok (.iconst 1, 1) := by decide +kernel
theorem dX10_command_312 : decode cX10_command 312 = .ok (.if_icmp .ne 7, 3) := by decide +kernel
theorem dX10_command_315 : decode cX10_command 315 = .ok (.iconst 1, 1) := by decide +kernel
theorem dX10_command_316 : decode cX10_command 316 = .ok (.goto 4, 3) := by decide +kernel
theorem dX10_command_319 : decode cX10_command 319 = .ok (.iconst 0, 1) := by decide +kernel
theorem dX10_command_320 : decode cX10_command 320 = .ok (.if_icmp .ne 7, 3) := by decide +kernel
theorem dX10_command_323 : decode cX10_command 323 = .ok (.iconst 1, 1) := by decide +kernel
theorem dX10_command_324 : decode cX10_command 324 = .ok (.goto 4, 3) := by decide +kernel
theorem dX10_command_327 : decode cX10_command 327 = .ok (.iconst 0, 1) := by decide +kernel
theorem dX10_command_328 : decode cX10_command 328 = .ok (.ireturn, 1) := by decide +kernel
theorem dX10_command_329 : decode cX10_command 329 = .ok (.iload 8, 2) := by decide +kernel
theorem dX10_command_331 : decode cX10_command 331 = .ok (.bipush 100, 2) := by decide +kernel
theorem dX10_command_333 : decode cX10_command 333 = .ok (.if_icmp .ge 31, 3) := by decide +kernel
theorem dX10_command_336 : decode cX10_command 336 = .ok (.aload_n 0, 1) := by decide +kernel
theorem dX10_command_337 : decode cX10_command 337 = .ok (.getfield 16, 3) := by decide +kernel
theorem dX10_command_340 : decode cX10_command 340 = .ok (.iload_n 3, 1) := by decide +kernel
theorem dX10_command_341 : decode cX10_command 341 = .ok (.invokestatic 41, 3) := by decide +kernel
theorem dX10_command_344 : decode cX10_command 344 = .ok (.ifCond .eq 20, 3) := by decide +kernel
theorem dX10_command_347 : decode cX10_command 347 = .ok (.aload_n 0, 1) := by decide +kernel
theorem dX10_command_348 : decode cX10_command 348 = .ok (.getfield 16, 3) := by decide +kernel
theorem dX10_command_351 : decode cX10_command 351 = .ok (.iload_n 3, 1) := by decide +kernel
theorem dX10_command_352 : decode cX10_command 352 = .ok (.invokestatic 45, 3) := by decide +kernel
theorem dX10_command_355 : decode cX10_command 355 = .ok (.iload 7, 2) := by decide +kernel
theorem dX10_command_357 : decode cX10_command 357 = .ok (.if_icmp .lt 7, 3) := by decide +kernel
theorem dX10_command_360 : decode cX10_command 360 = .ok (.iconst 1, 1) := by decide +kernel
theorem dX10_command_361 : decode cX10_command 361 = .ok (.goto 4, 3) := by decide +kernel
theorem dX10_command_364 : decode cX10_command 364 = .ok (.iconst 0, 1) := by decide +kernel
theorem dX10_command_365 : decode cX10_command 365 = .ok (.ireturn, 1) := by decide +kernel
theorem dX10_command_366 : decode cX10_command 366 = .ok (.iload 8, 2) := by decide +kernel
theorem dX10_command_368 : decode cX10_command 368 = .ok (.bipush 100, 2) := by decide +kernel
theorem dX10_command_370 : decode cX10_command 370 = .ok (.if_icmp .ge 32, 3) := by decide +kernel
theorem dX10_command_373 : decode cX10_command 373 = .ok (.aload_n 0, 1) := by decide +kernel
theorem dX10_command_374 : decode cX10_command 374 = .ok (.getfield 16, 3) := by decide +kernel
theorem dX10_command_377 : decode cX10_command 377 = .ok (.iload_n 3, 1) := by decide +kernel
theorem dX10_command_378 : decode cX10_command 378 = .ok (.invokestatic 142, 3) := by decide +kernel
theorem dX10_command_381 : decode cX10_command 381 = .ok (.ifCond .eq 21, 3) := by decide +kernel
theorem dX10_command_384 : decode cX10_command 384 = .ok (.aload_n 0, 1) := by decide +kernel
theorem dX10_command_385 : decode cX10_command 385 = .ok (.getfield 16, 3) := by decide +kernel
theorem dX10_command_388 : decode cX10_command 388 = .ok (.iload_n 3, 1) := by decide +kernel
theorem dX10_command_389 : decode cX10_command 389 = .ok (.iconst 1, 1) := by decide +kernel
theorem dX10_command_390 : decode cX10_command 390 = .ok (.invokestatic 51, 3) := by decide +kernel
theorem dX10_command_393 : decode cX10_command 393 = .ok (.iload 7, 2) := by decide +kernel
theorem dX10_command_395 : decode cX10_command 395 = .ok (.if_icmp .lt 7, 3) := by decide +kernel
theorem dX10_command_398 : decode cX10_command 398 = .ok (.iconst 1, 1) := by decide +kernel
theorem dX10_command_399 : decode cX10_command 399 = .ok (.goto 4, 3) := by decide +kernel
theorem dX10_command_402 : decode cX10_command 402 = .ok (.iconst 0, 1) := by decide +kernel
theorem dX10_command_403 : decode cX10_command 403 = .ok (.ireturn, 1) := by decide +kernel
theorem dX10_command_404 : decode cX10_command 404 = .ok (.iload_n 2, 1) := by decide +kernel
theorem dX10_command_405 : decode cX10_command 405 = .ok (.bipush 10, 2) := by decide +kernel
theorem dX10_command_407 : decode cX10_command 407 = .ok (.if_icmp .ge 19, 3) := by decide +kernel
theorem dX10_command_410 : decode cX10_command 410 = .ok (.aload_n 0, 1) := by decide +kernel
theorem dX10_command_411 : decode cX10_command 411 = .ok (.getfield 16, 3) := by decide +kernel
theorem dX10_command_414 : decode cX10_command 414 = .ok (.bipush 8, 2) := by decide +kernel
theorem dX10_command_416 : decode cX10_command 416 = .ok (.iaload, 1) := by decide +kernel
theorem dX10_command_417 : decode cX10_command 417 = .ok (.iload 6, 2) := by decide +kernel
theorem dX10_command_419 : decode cX10_command 419 = .ok (.if_icmp .gt 7, 3) := by decide +kernel
theorem dX10_command_422 : decode cX10_command 422 = .ok (.iconst 1, 1) := by decide +kernel
theorem dX10_command_423 : decode cX10_command 423 = .ok (.goto 4, 3) := by decide +kernel
theorem dX10_command_426 : decode cX10_command 426 = .ok (.iconst 0, 1) := by decide +kernel
theorem dX10_command_427 : decode cX10_command 427 = .ok (.ireturn, 1) := by decide +kernel
theorem dX10_command_428 : decode cX10_command 428 = .ok (.iconst 0, 1) := by decide +kernel
theorem dX10_command_429 : decode cX10_command 429 = .ok (.ireturn, 1) := by decide +kernel
theorem dX10_runScript_0 : decode cX10_runScript 0 = .ok (.lconst 1, 1) := by decide +kernel
theorem dX10_runScript_1 : decode cX10_runScript 1 = .ok (.lstore 4, 2) := by decide +kernel
theorem dX10_runScript_3 : decode cX10_runScript 3 = .ok (.iconst 0, 1) := by decide +kernel
theorem dX10_runScript_4 : decode cX10_runScript 4 = .ok (.istore 6, 2) := by decide +kernel
theorem dX10_runScript_6 : decode cX10_runScript 6 = .ok (.iload 6, 2) := by decide +kernel
theorem dX10_runScript_8 : decode cX10_runScript 8 = .ok (.iload_n 1, 1) := by decide +kernel
theorem dX10_runScript_9 : decode cX10_runScript 9 = .ok (.if_icmp .ge 23, 3) := by decide +kernel
theorem dX10_runScript_12 : decode cX10_runScript 12 = .ok (.iload 6, 2) := by decide +kernel
theorem dX10_runScript_14 : decode cX10_runScript 14 = .ok (.iconst 3, 1) := by decide +kernel
theorem dX10_runScript_15 : decode cX10_runScript 15 = .ok (.if_icmp .ge 17, 3) := by decide +kernel
theorem dX10_runScript_18 : decode cX10_runScript 18 = .ok (.lload 4, 2) := by decide +kernel
theorem dX10_runScript_20 : decode cX10_runScript 20 = .ok (.ldc2_w 261, 3) := by decide +kernel
theorem dX10_runScript_23 : decode cX10_runScript 23 = .ok (.lmul, 1) := by decide +kernel
theorem dX10_runScript_24 : decode cX10_runScript 24 = .ok (.lstore 4, 2) := by decide +kernel
theorem dX10_runScript_26 : decode cX10_runScript 26 = .ok (.iinc 6 1, 3) := by decide +kernel
theorem dX10_runScript_29 : decode cX10_runScript 29 = .ok (.goto (-23), 3) := by decide +kernel
theorem dX10_runScript_32 : decode cX10_runScript 32 = .ok (.aload_n 0, 1) := by decide +kernel
theorem dX10_runScript_33 : decode cX10_runScript 33 = .ok (.iload_n 1, 1) := by decide +kernel
theorem dX10_runScript_34 : decode cX10_runScript 34 = .ok (.i2l, 1) := by decide +kernel
theorem dX10_runScript_35 : decode cX10_runScript 35 = .ok (.lconst 1, 1) := by decide +kernel
theorem dX10_runScript_36 : decode cX10_runScript 36 = .ok (.ldc2_w 232, 3) := by decide +kernel
theorem dX10_runScript_39 : decode cX10_runScript 39 = .ok (.invokestatic 37, 3) := by decide +kernel
theorem dX10_runScript_42 : decode cX10_runScript 42 = .ok (.ifCond .eq 19, 3) := by decide +kernel
theorem dX10_runScript_45 : decode cX10_runScript 45 = .ok (.lload_n 2, 1) := by decide +kernel
theorem dX10_runScript_46 : decode cX10_runScript 46 = .ok (.lconst 0, 1) := by decide +kernel
theorem dX10_runScript_47 : decode cX10_runScript 47 = .ok (.lload 4, 2) := by decide +kernel
theorem dX10_runScript_49 : decode cX10_runScript 49 = .ok (.lconst 1, 1) := by decide +kernel
theorem dX10_runScript_50 : decode cX10_runScript 50 = .ok (.lsub, 1) := by decide +kernel
theorem dX10_runScript_51 : decode cX10_runScript 51 = .ok (.invokestatic 37, 3) := by decide +kernel
theorem dX10_runScript_54 : decode cX10_runScript 54 = .ok (.ifCond .eq 7, 3) := by decide +kernel
theorem dX10_runScript_57 : decode cX10_runScript 57 = .ok (.iconst 0, 1) := by decide +kernel
theorem dX10_runScript_58 : decode cX10_runScript 58 = .ok (.goto 4, 3) := by decide +kernel
theorem dX10_runScript_61 : decode cX10_runScript 61 = .ok (.iconst 1, 1) := by decide +kernel
theorem dX10_runScript_62 : decode cX10_runScript 62 = .ok (.invokevirtual 152, 3) := by decide +kernel
theorem dX10_runScript_65 : decode cX10_runScript 65 = .ok (.ifCond .eq 5, 3) := by decide +kernel
theorem dX10_runScript_68 : decode cX10_runScript 68 = .ok (.iconst 0, 1) := by decide +kernel
theorem dX10_runScript_69 : decode cX10_runScript 69 = .ok (.ireturn, 1) := by decide +kernel
theorem dX10_runScript_70 : decode cX10_runScript 70 = .ok (.aload_n 0, 1) := by decide +kernel
theorem dX10_runScript_71 : decode cX10_runScript 71 = .ok (.getfield 13, 3) := by decide +kernel
theorem dX10_runScript_74 : decode cX10_runScript 74 = .ok (.iconst 0, 1) := by decide +kernel
theorem dX10_runScript_75 : decode cX10_runScript 75 = .ok (.aload_n 0, 1) := by decide +kernel
theorem dX10_runScript_76 : decode cX10_runScript 76 = .ok (.getfield 16, 3) := by decide +kernel
theorem dX10_runScript_79 : decode cX10_runScript 79 = .ok (.iconst 0, 1) := by decide +kernel
theorem dX10_runScript_80 : decode cX10_runScript 80 = .ok (.invokestatic 220, 3) := by decide +kernel
theorem dX10_runScript_83 : decode cX10_runScript 83 = .ok (.iconst 0, 1) := by decide +kernel
theorem dX10_runScript_84 : decode cX10_runScript 84 = .ok (.istore 6, 2) := by decide +kernel
theorem dX10_runScript_86 : decode cX10_runScript 86 = .ok (.iload 6, 2) := by decide +kernel
theorem dX10_runScript_88 : decode cX10_runScript 88 = .ok (.iload_n 1, 1) := by decide +kernel
theorem dX10_runScript_89 : decode cX10_runScript 89 = .ok (.if_icmp .ge 50, 3) := by decide +kernel
theorem dX10_runScript_92 : decode cX10_runScript 92 = .ok (.lload 4, 2) := by decide +kernel
theorem dX10_runScript_94 : decode cX10_runScript 94 = .ok (.ldc2_w 261, 3) := by decide +kernel
theorem dX10_runScript_97 : decode cX10_runScript 97 = .ok (.ldiv, 1) := by decide +kernel
theorem dX10_runScript_98 : decode cX10_runScript 98 = .ok (.lstore 4, 2) := by decide +kernel
theorem dX10_runScript_100 : decode cX10_runScript 100 = .ok (.lload_n 2, 1) := by decide +kernel
theorem dX10_runScript_101 : decode cX10_runScript 101 = .ok (.lload 4, 2) := by decide +kernel
theorem dX10_runScript_103 : decode cX10_runScript 103 = .ok (.ldiv, 1) := by decide +kernel
theorem dX10_runScript_104 : decode cX10_runScript 104 = .ok (.ldc2_w 261, 3) := by decide +kernel
theorem dX10_runScript_107 : decode cX10_runScript 107 = .ok (.lrem, 1) := by decide +kernel
theorem dX10_runScript_108 : decode cX10_runScript 108 = .ok (.l2i, 1) := by decide +kernel
theorem dX10_runScript_109 : decode cX10_runScript 109 = .ok (.istore 7, 2) := by decide +kernel
theorem dX10_runScript_111 : decode cX10_runScript 111 = .ok (.aload_n 0, 1) := by decide +kernel
theorem dX10_runScript_112 : decode cX10_runScript 112 = .ok (.iload 7, 2) := by decide +kernel
theorem dX10_runScript_114 : decode cX10_runScript 114 = .ok (.ldc_w 263, 3) := by decide +kernel
theorem dX10_runScript_117 : decode cX10_runScript 117 = .ok (.idiv, 1) := by decide +kernel
theorem dX10_runScript_118 : decode cX10_runScript 118 = .ok (.iload 7, 2) := by decide +kernel
theorem dX10_runScript_120 : decode cX10_runScript 120 = .ok (.ldc_w 263, 3) := by decide +kernel
theorem dX10_runScript_123 : decode cX10_runScript 123 = .ok (.irem, 1) := by decide +kernel
theorem dX10_runScript_124 : decode cX10_runScript 124 = .ok (.invokevirtual 264, 3) := by decide +kernel
theorem dX10_runScript_127 : decode cX10_runScript 127 = .ok (.ifCond .ne 6, 3) := by decide +kernel
theorem dX10_runScript_130 : decode cX10_runScript 130 = .ok (.iload 6, 2) := by decide +kernel
theorem dX10_runScript_132 : decode cX10_runScript 132 = .ok (.ireturn, 1) := by decide +kernel
theorem dX10_runScript_133 : decode cX10_runScript 133 = .ok (.iinc 6 1, 3) := by decide +kernel
theorem dX10_runScript_136 : decode cX10_runScript 136 = .ok (.goto (-50), 3) := by decide +kernel
theorem dX10_runScript_139 : decode cX10_runScript 139 = .ok (.iconst (-1), 1) := by decide +kernel
theorem dX10_runScript_140 : decode cX10_runScript 140 = .ok (.ireturn, 1) := by decide +kernel
theorem dX10_turnThing_0 : decode cX10_turnThing 0 = .ok (.iload_n 2, 1) := by decide +kernel
theorem dX10_turnThing_1 : decode cX10_turnThing 1 = .ok (.iconst 3, 1) := by decide +kernel
theorem dX10_turnThing_2 : decode cX10_turnThing 2 = .ok (.irem, 1) := by decide +kernel
theorem dX10_turnThing_3 : decode cX10_turnThing 3 = .ok (.istore_n 3, 1) := by decide +kernel
theorem dX10_turnThing_4 : decode cX10_turnThing 4 = .ok (.iload_n 1, 1) := by decide +kernel
theorem dX10_turnThing_5 : decode cX10_turnThing 5 = .ok (.ifCond .ne 30, 3) := by decide +kernel
theorem dX10_turnThing_8 : decode cX10_turnThing 8 = .ok (.aload_n 0, 1) := by decide +kernel
theorem dX10_turnThing_9 : decode cX10_turnThing 9 = .ok (.getfield 16, 3) := by decide +kernel
theorem dX10_turnThing_12 : decode cX10_turnThing 12 = .ok (.iconst 0, 1) := by decide +kernel
theorem dX10_turnThing_13 : decode cX10_turnThing 13 = .ok (.iaload, 1) := by decide +kernel
theorem dX10_turnThing_14 : decode cX10_turnThing 14 = .ok (.iconst 3, 1) := by decide +kernel
theorem dX10_turnThing_15 : decode cX10_turnThing 15 = .ok (.if_icmp .ge 144, 3) := by decide +kernel
theorem dX10_turnThing_18 : decode cX10_turnThing 18 = .ok (.aload_n 0, 1) := by decide +kernel
theorem dX10_turnThing_19 : decode cX10_turnThing 19 = .ok (.getfield 16, 3) := by decide +kernel
theorem dX10_turnThing_22 : decode cX10_turnThing 22 = .ok (.iconst 1, 1) := by decide +kernel
theorem dX10_turnThing_23 : decode cX10_turnThing 23 = .ok (.iload_n 2, 1) := by decide +kernel
theorem dX10_turnThing_24 : decode cX10_turnThing 24 = .ok (.bipush 30, 2) := by decide +kernel
theorem dX10_turnThing_26 : decode cX10_turnThing 26 = .ok (.irem, 1) := by decide +kernel
theorem dX10_turnThing_27 : decode cX10_turnThing 27 = .ok (.iadd, 1) := by decide +kernel
theorem dX10_turnThing_28 : decode cX10_turnThing 28 = .ok (.invokestatic 190, 3) := by decide +kernel
theorem dX10_turnThing_31 : decode cX10_turnThing 31 = .ok (.pop, 1) := by decide +kernel
theorem dX10_turnThing_32 : decode cX10_turnThing 32 = .ok (.goto 127, 3) := by decide +kernel
theorem dX10_turnThing_35 : decode cX10_turnThing 35 = .ok (.iload_n 1, 1) := by decide +kernel
theorem dX10_turnThing_36 : decode cX10_turnThing 36 = .ok (.iconst 3, 1) := by decide +kernel
theorem dX10_turnThing_37 : decode cX10_turnThing 37 = .ok (.if_icmp .ge 33, 3) := by decide +kernel
theorem dX10_turnThing_40 : decode cX10_turnThing 40 = .ok (.aload_n 0, 1) := by decide +kernel
theorem dX10_turnThing_41 : decode cX10_turnThing 41 = .ok (.getfield 16, 3) := by decide +kernel
theorem dX10_turnThing_44 : decode cX10_turnThing 44 = .ok (.iload_n 3, 1) := by decide +kernel
theorem dX10_turnThing_45 : decode cX10_turnThing 45 = .ok (.invokestatic 193, 3) := by decide +kernel
theorem dX10_turnThing_48 : decode cX10_turnThing 48 = .ok (.ifCond .eq 111, 3) := by decide +kernel
theorem dX10_turnThing_51 : decode cX10_turnThing 51 = .ok (.aload_n 0, 1) := by decide +kernel
theorem dX10_turnThing_52 : decode cX10_turnThing 52 = .ok (.getfield 16, 3) := by decide +kernel
theorem dX10_turnThing_55 : decode cX10_turnThing 55 = .ok (.iload_n 3, 1) := by decide +kernel
theorem dX10_turnThing_56 : decode cX10_turnThing 56 = .ok (.iconst 1, 1) := by decide +kernel
theorem dX10_turnThing_57 : decode cX10_turnThing 57 = .ok (.iload_n 2, 1) := by decide +kernel
theorem dX10_turnThing_58 : decode cX10_turnThing 58 = .ok (.iconst 4, 1) := by decide +kernel
theorem dX10_turnThing_59 : decode cX10_turnThing 59 = .ok (.idiv, 1) := by decide +kernel
theorem dX10_turnThing_60 : decode cX10_turnThing 60 = .ok (.iconst 5, 1) := by decide +kernel
theorem dX10_turnThing_61 : decode cX10_turnThing 61 = .ok (.irem, 1) := by decide +kernel
theorem dX10_turnThing_62 : decode cX10_turnThing 62 = .ok (.iadd, 1) := by decide +kernel
theorem dX10_turnThing_63 : decode cX10_turnThing 63 = .ok (.invokestatic 196, 3) := by decide +kernel
theorem dX10_turnThing_66 : decode cX10_turnThing 66 = .ok (.pop, 1) := by decide +kernel
theorem dX10_turnThing_67 : decode cX10_turnThing 67 = .ok (.goto 92, 3) := by decide +kernel
theorem dX10_turnThing_70 : decode cX10_turnThing 70 = .ok (.iload_n 1, 1) := by decide +kernel
theorem dX10_turnThing_71 : decode cX10_turnThing 71 = .ok (.iconst 3, 1) := by decide +kernel
theorem dX10_turnThing_72 : decode cX10_turnThing 72 = .ok (.if_icmp .ne 56, 3) := by decide +kernel
theorem dX10_turnThing_75 : decode cX10_turnThing 75 = .ok (.aload_n 0, 1) := by decide +kernel
theorem dX10_turnThing_76 : decode cX10_turnThing 76 = .ok (.getfield 16, 3) := by decide +kernel
theorem dX10_turnThing_79 : decode cX10_turnThing 79 = .ok (.iload_n 3, 1) := by decide +kernel
theorem dX10_turnThing_80 : decode cX10_turnThing 80 = .ok (.iload_n 2, 1) := by decide +kernel
theorem dX10_turnThing_81 : decode cX10_turnThing 81 = .ok (.iconst 4, 1) := by decide +kernel
theorem dX10_turnThing_82 : decode cX10_turnThing 82 = .ok (.idiv, 1) := by decide +kernel
theorem dX10_turnThing_83 : decode cX10_turnThing 83 = .ok (.bipush 30, 2) := by decide +kernel
theorem dX10_turnThing_85 : decode cX10_turnThing 85 = .ok (.irem, 1) := by decide +kernel
theorem dX10_turnThing_86 : decode cX10_turnThing 86 = .ok (.invokestatic 174, 3) := by decide +kernel
theorem dX10_turnThing_89 : decode cX10_turnThing 89 = .ok (.ifCond .eq 70, 3) := by decide +kernel
theorem dX10_turnThing_92 : decode cX10_turnThing 92 = .ok (.aload_n 0, 1) := by decide +kernel
theorem dX10_turnThing_93 : decode cX10_turnThing 93 = .ok (.getfield 16, 3) := by decide +kernel
theorem dX10_turnThing_96 : decode cX10_turnThing 96 = .ok (.iload_n 3, 1) := by decide +kernel
theorem dX10_turnThing_97 : decode cX10_turnThing 97 = .ok (.iload_n 2, 1) := by decide +kernel
theorem dX10_turnThing_98 : decode cX10_turnThing 98 = .ok (.iconst 4, 1) := by decide +kernel
theorem dX10_turnThing_99 : decode cX10_turnThing 99 = .ok (.idiv, 1) := by decide +kernel
theorem dX10_turnThing_100 : decode cX10_turnThing 100 = .ok (.bipush 30, 2) := by decide +kernel
theorem dX10_turnThing_102 : decode cX10_turnThing 102 = .ok (.irem, 1) := by decide +kernel
theorem dX10_turnThing_103 : decode cX10_turnThing 103 = .ok (.iconst 1, 1) := by decide +kernel
theorem dX10_turnThing_104 : decode cX10_turnThing 104 = .ok (.iload_n 2, 1) := by decide +kernel
theorem dX10_turnThing_105 : decode cX10_turnThing 105 = .ok (.sipush 128, 3) := by decide +kernel
theorem dX10_turnThing_108 : decode cX10_turnThing 108 = .ok (.idiv, 1) := by decide +kernel
theorem dX10_turnThing_109 : decode cX10_turnThing 109 = .ok (.bipush 9, 2) := by decide +kernel
theorem dX10_turnThing_111 : decode cX10_turnThing 111 = .ok (.irem, 1) := by decide +kernel
theorem dX10_turnThing_112 : decode cX10_turnThing 112 = .ok (.iadd, 1) := by decide +kernel
theorem dX10_turnThing_113 : decode cX10_turnThing 113 = .ok (.iload_n 2, 1) := by decide +kernel
theorem dX10_turnThing_114 : decode cX10_turnThing 114 = .ok (.sipush 2048, 3) := by decide +kernel
theorem dX10_turnThing_117 : decode cX10_turnThing 117 = .ok (.idiv, 1) := by decide +kernel
theorem dX10_turnThing_118 : decode cX10_turnThing 118 = .ok (.bipush 100, 2) := by decide +kernel
theorem dX10_turnThing_120 : decode cX10_turnThing 120 = .ok (.irem, 1) := by decide +kernel
theorem dX10_turnThing_121 : decode cX10_turnThing 121 = .ok (.invokestatic 177, 3) := by decide +kernel
theorem dX10_turnThing_124 : decode cX10_turnThing 124 = .ok (.pop, 1) := by decide +kernel
theorem dX10_turnThing_125 : decode cX10_turnThing 125 = .ok (.goto 34, 3) := by decide +kernel
theorem dX10_turnThing_128 : decode cX10_turnThing 128 = .ok (.aload_n 0, 1) := by decide +kernel
theorem dX10_turnThing_129 : decode cX10_turnThing 129 = .ok (.getfield 16, 3) := by decide +kernel
theorem dX10_turnThing_132 : decode cX10_turnThing 132 = .ok (.iconst 4, 1) := by decide +kernel
theorem dX10_turnThing_133 : decode cX10_turnThing 133 = .ok (.iaload, 1) := by decide +kernel
theorem dX10_turnThing_134 : decode cX10_turnThing 134 = .ok (.iload_n 2, 1) := by decide +kernel
theorem dX10_turnThing_135 : decode cX10_turnThing 135 = .ok (.sipush 200, 3) := by decide +kernel
theorem dX10_turnThing_138 : decode cX10_turnThing 138 = .ok (.irem, 1) := by decide +kernel
theorem dX10_turnThing_139 : decode cX10_turnThing 139 = .ok (.iadd, 1) := by decide +kernel
theorem dX10_turnThing_140 : decode cX10_turnThing 140 = .ok (.sipush 9999, 3) := by decide +kernel
theorem dX10_turnThing_143 : decode cX10_turnThing 143 = .ok (.if_icmp .gt 16, 3) := by decide +kernel
theorem dX10_turnThing_146 : decode cX10_turnThing 146 = .ok (.aload_n 0, 1) := by decide +kernel
theorem dX10_turnThing_147 : decode cX10_turnThing 147 = .ok (.getfield 16, 3) := by decide +kernel
theorem dX10_turnThing_150 : decode cX10_turnThing 150 = .ok (.iload_n 2, 1) := by decide +kernel
theorem dX10_turnThing_151 : decode cX10_turnThing 151 = .ok (.sipush 200, 3) := by decide +kernel
theorem dX10_turnThing_154 : decode cX10_turnThing 154 = .ok (.irem, 1) := by decide +kernel
theorem dX10_turnThing_155 : decode cX10_turnThing 155 = .ok (.invokestatic 202, 3) := by decide +kernel
theorem dX10_turnThing_158 : decode cX10_turnThing 158 = .ok (.pop, 1) := by decide +kernel
theorem dX10_turnThing_159 : decode cX10_turnThing 159 = .ok (.return_, 1) := by decide +kernel
theorem dX10_turnOrder_0 : decode cX10_turnOrder 0 = .ok (.iload_n 1, 1) := by decide +kernel
theorem dX10_turnOrder_1 : decode cX10_turnOrder 1 = .ok (.bipush 7, 2) := by decide +kernel
theorem dX10_turnOrder_3 : decode cX10_turnOrder 3 = .ok (.if_icmp .ge 59, 3) := by decide +kernel
theorem dX10_turnOrder_6 : decode cX10_turnOrder 6 = .ok (.aload_n 0, 1) := by decide +kernel
theorem dX10_turnOrder_7 : decode cX10_turnOrder 7 = .ok (.getfield 16, 3) := by decide +kernel
theorem dX10_turnOrder_10 : decode cX10_turnOrder 10 = .ok (.iload_n 2, 1) := by decide +kernel
theorem dX10_turnOrder_11 : decode cX10_turnOrder 11 = .ok (.bipush 8, 2) := by decide +kernel
theorem dX10_turnOrder_13 : decode cX10_turnOrder 13 = .ok (.irem, 1) := by decide +kernel
theorem dX10_turnOrder_14 : decode cX10_turnOrder 14 = .ok (.iload_n 2, 1) := by decide +kernel
theorem dX10_turnOrder_15 : decode cX10_turnOrder 15 = .ok (.bipush 8, 2) := by decide +kernel
theorem dX10_turnOrder_17 : decode cX10_turnOrder 17 = .ok (.idiv, 1) := by decide +kernel
theorem dX10_turnOrder_18 : decode cX10_turnOrder 18 = .ok (.iconst 3, 1) := by decide +kernel
theorem dX10_turnOrder_19 : decode cX10_turnOrder 19 = .ok (.irem, 1) := by decide +kernel
theorem dX10_turnOrder_20 : decode cX10_turnOrder 20 = .ok (.iload_n 2, 1) := by decide +kernel
theorem dX10_turnOrder_21 : decode cX10_turnOrder 21 = .ok (.bipush 32, 2) := by decide +kernel
theorem dX10_turnOrder_23 : decode cX10_turnOrder 23 = .ok (.idiv, 1) := by decide +kernel
theorem dX10_turnOrder_24 : decode cX10_turnOrder 24 = .ok (.bipush 40, 2) := by decide +kernel
theorem dX10_turnOrder_26 : decode cX10_turnOrder 26 = .ok (.irem, 1) := by decide +kernel
theorem dX10_turnOrder_27 : decode cX10_turnOrder 27 = .ok (.invokestatic 187, 3) := by decide +kernel
theorem dX10_turnOrder_30 : decode cX10_turnOrder 30 = .ok (.ifCond .eq 170, 3) := by decide +kernel
theorem dX10_turnOrder_33 : decode cX10_turnOrder 33 = .ok (.aload_n 0, 1) := by decide +kernel
theorem dX10_turnOrder_34 : decode cX10_turnOrder 34 = .ok (.getfield 16, 3) := by decide +kernel
theorem dX10_turnOrder_37 : decode cX10_turnOrder 37 = .ok (.iconst 0, 1) := by decide +kernel
theorem dX10_turnOrder_38 : decode cX10_turnOrder 38 = .ok (.iload_n 2, 1) := by decide +kernel
theorem dX10_turnOrder_39 : decode cX10_turnOrder 39 = .ok (.bipush 8, 2) := by decide +kernel
theorem dX10_turnOrder_41 : decode cX10_turnOrder 41 = .ok (.irem, 1) := by decide +kernel
theorem dX10_turnOrder_42 : decode cX10_turnOrder 42 = .ok (.iload_n 2, 1) := by decide +kernel
theorem dX10_turnOrder_43 : decode cX10_turnOrder 43 = .ok (.bipush 8, 2) := by decide +kernel
theorem dX10_turnOrder_45 : decode cX10_turnOrder 45 = .ok (.idiv, 1) := by decide +kernel
theorem dX10_turnOrder_46 : decode cX10_turnOrder 46 = .ok (.iconst 3, 1) := by decide +kernel
theorem dX10_turnOrder_47 : decode cX10_turnOrder 47 = .ok (.irem, 1) := by decide +kernel
theorem dX10_turnOrder_48 : decode cX10_turnOrder 48 = .ok (.iload_n 2, 1) := by decide +kernel
theorem dX10_turnOrder_49 : decode cX10_turnOrder 49 = .ok (.bipush 32, 2) := by decide +kernel
theorem dX10_turnOrder_51 : decode cX10_turnOrder 51 = .ok (.idiv, 1) := by decide +kernel
theorem dX10_turnOrder_52 : decode cX10_turnOrder 52 = .ok (.bipush 40, 2) := by decide +kernel
theorem dX10_turnOrder_54 : decode cX10_turnOrder 54 = .ok (.irem, 1) := by decide +kernel
theorem dX10_turnOrder_55 : decode cX10_turnOrder 55 = .ok (.invokestatic 120, 3) := by decide +kernel
theorem dX10_turnOrder_58 : decode cX10_turnOrder 58 = .ok (.pop, 1) := by decide +kernel
theorem dX10_turnOrder_59 : decode cX10_turnOrder 59 = .ok (.goto 141, 3) := by decide +kernel
theorem dX10_turnOrder_62 : decode cX10_turnOrder 62 = .ok (.iload_n 1, 1) := by decide +kernel
theorem dX10_turnOrder_63 : decode cX10_turnOrder 63 = .ok (.bipush 7, 2) := by decide +kernel
theorem dX10_turnOrder_65 : decode cX10_turnOrder 65 = .ok (.if_icmp .ne 52, 3) := by decide +kernel
theorem dX10_turnOrder_68 : decode cX10_turnOrder 68 = .ok (.aload_n 0, 1) := by decide +kernel
theorem dX10_turnOrder_69 : decode cX10_turnOrder 69 = .ok (.getfield 16, 3) := by decide +kernel
theorem dX10_turnOrder_72 : decode cX10_turnOrder 72 = .ok (.iload_n 2, 1) := by decide +kernel
theorem dX10_turnOrder_73 : decode cX10_turnOrder 73 = .ok (.bipush 8, 2) := by decide +kernel
theorem dX10_turnOrder_75 : decode cX10_turnOrder 75 = .ok (.irem, 1) := by decide +kernel
theorem dX10_turnOrder_76 : decode cX10_turnOrder 76 = .ok (.iconst 1, 1) := by decide +kernel
theorem dX10_turnOrder_77 : decode cX10_turnOrder 77 = .ok (.iload_n 2, 1) := by decide +kernel
theorem dX10_turnOrder_78 : decode cX10_turnOrder 78 = .ok (.bipush 8, 2) := by decide +kernel
theorem dX10_turnOrder_80 : decode cX10_turnOrder 80 = .ok (.idiv, 1) := by decide +kernel
theorem dX10_turnOrder_81 : decode cX10_turnOrder 81 = .ok (.bipush 99, 2) := by decide +kernel
theorem dX10_turnOrder_83 : decode cX10_turnOrder 83 = .ok (.irem, 1) := by decide +kernel
theorem dX10_turnOrder_84 : decode cX10_turnOrder 84 = .ok (.iadd, 1) := by decide +kernel
theorem dX10_turnOrder_85 : decode cX10_turnOrder 85 = .ok (.invokestatic 208, 3) := by decide +kernel
theorem dX10_turnOrder_88 : decode cX10_turnOrder 88 = .ok (.ifCond .eq 112, 3) := by decide +kernel
theorem dX10_turnOrder_91 : decode cX10_turnOrder 91 = .ok (.aload_n 0, 1) := by decide +kernel
theorem dX10_turnOrder_92 : decode cX10_turnOrder 92 = .ok (.getfield 16, 3) := by decide +kernel
theorem dX10_turnOrder_95 : decode cX10_turnOrder 95 = .ok (.iconst 1, 1) := by decide +kernel
theorem dX10_turnOrder_96 : decode cX10_turnOrder 96 = .ok (.iload_n 2, 1) := by decide +kernel
theorem dX10_turnOrder_97 : decode cX10_turnOrder 97 = .ok (.bipush 8, 2) := by decide +kernel
theorem dX10_turnOrder_99 : decode cX10_turnOrder 99 = .ok (.irem, 1) := by decide +kernel
theorem dX10_turnOrder_100 : decode cX10_turnOrder 100 = .ok (.iconst 1, 1) := by decide +kernel
theorem dX10_turnOrder_101 : decode cX10_turnOrder 101 = .ok (.iload_n 2, 1) := by decide +kernel
theorem dX10_turnOrder_102 : decode cX10_turnOrder 102 = .ok (.bipush 8, 2) := by decide +kernel
theorem dX10_turnOrder_104 : decode cX10_turnOrder 104 = .ok (.idiv, 1) := by decide +kernel
theorem dX10_turnOrder_105 : decode cX10_turnOrder 105 = .ok (.bipush 99, 2) := by decide +kernel
theorem dX10_turnOrder_107 : decode cX10_turnOrder 107 = .ok (.irem, 1) := by decide +kernel
theorem dX10_turnOrder_108 : decode cX10_turnOrder 108 = .ok (.iadd, 1) := by decide +kernel
theorem dX10_turnOrder_109 : decode cX10_turnOrder 109 = .ok (.iconst (-1), 1) := by decide +kernel
theorem dX10_turnOrder_110 : decode cX10_turnOrder 110 = .ok (.invokestatic 120, 3) := by decide +kernel
theorem dX10_turnOrder_113 : decode cX10_turnOrder 113 = .ok (.pop, 1) := by decide +kernel
theorem dX10_turnOrder_114 : decode cX10_turnOrder 114 = .ok (.goto 86, 3) := by decide +kernel
theorem dX10_turnOrder_117 : decode cX10_turnOrder 117 = .ok (.iload_n 1, 1) := by decide +kernel
theorem dX10_turnOrder_118 : decode cX10_turnOrder 118 = .ok (.bipush 8, 2) := by decide +kernel
theorem dX10_turnOrder_120 : decode cX10_turnOrder 120 = .ok (.if_icmp .ne 65, 3) := by decide +kernel
theorem dX10_turnOrder_123 : decode cX10_turnOrder 123 = .ok (.aload_n 0, 1) := by decide +kernel
theorem dX10_turnOrder_124 : decode cX10_turnOrder 124 = .ok (.getfield 16, 3) := by decide +kernel
theorem dX10_turnOrder_127 : decode cX10_turnOrder 127 = .ok (.bipush 16, 2) := by decide +kernel
theorem dX10_turnOrder_129 : decode cX10_turnOrder 129 = .ok (.iload_n 2, 1) := by decide +kernel
theorem dX10_turnOrder_130 : decode cX10_turnOrder 130 = .ok (.bipush 16, 2) := by decide +kernel
theorem dX10_turnOrder_132 : decode cX10_turnOrder 132 = .ok (.idiv, 1) := by decide +kernel
theorem dX10_turnOrder_133 : decode cX10_turnOrder 133 = .ok (.iconst 2, 1) := by decide +kernel
theorem dX10_turnOrder_134 : decode cX10_turnOrder 134 = .ok (.irem, 1) := by decide +kernel
theorem dX10_turnOrder_135 : decode cX10_turnOrder 135 = .ok (.ifCond .ne 10, 3) := by decide +kernel
theorem dX10_turnOrder_138 : decode cX10_turnOrder 138 = .ok (.iload_n 2, 1) := by decide +kernel
theorem dX10_turnOrder_139 : decode cX10_turnOrder 139 = .ok (.bipush 13, 2) := by decide +kernel
theorem dX10_turnOrder_141 : decode cX10_turnOrder 141 = .ok (.irem, 1) := by decide +kernel
theorem dX10_turnOrder_142 : decode cX10_turnOrder 142 = .ok (.goto 10, 3) := by decide +kernel
theorem dX10_turnOrder_145 : decode cX10_turnOrder 145 = .ok (.aload_n 0, 1) := by decide +kernel
theorem dX10_turnOrder_146 : decode cX10_turnOrder 146 = .ok (.getfield 16, 3) := by decide +kernel
theorem dX10_turnOrder_149 : decode cX10_turnOrder 149 = .ok (.bipush 16, 2) := by decide +kernel
theorem dX10_turnOrder_151 : decode cX10_turnOrder 151 = .ok (.iaload, 1) := by decide +kernel
theorem dX10_turnOrder_152 : decode cX10_turnOrder 152 = .ok (.iastore, 1) := by decide +kernel
theorem dX10_turnOrder_153 : decode cX10_turnOrder 153 = .ok (.aload_n 0, 1) := by decide +kernel
theorem dX10_turnOrder_154 : decode cX10_turnOrder 154 = .ok (.getfield 16, 3) := by decide +kernel
theorem dX10_turnOrder_157 : decode cX10_turnOrder 157 = .ok (.bipush 17, 2) := by decide +kernel
theorem dX10_turnOrder_159 : decode cX10_turnOrder 159 = .ok (.iload_n 2, 1) := by decide +kernel
theorem dX10_turnOrder_160 : decode cX10_turnOrder 160 = .ok (.bipush 16, 2) := by decide +kernel
theorem dX10_turnOrder_162 : decode cX10_turnOrder 162 = .ok (.idiv, 1) := by decide +kernel
theorem dX10_turnOrder_163 : decode cX10_turnOrder 163 = .ok (.iconst 2, 1) := by decide +kernel
theorem dX10_turnOrder_164 : decode cX10_turnOrder 164 = .ok (.irem, 1) := by decide +kernel
theorem dX10_turnOrder_165 : decode cX10_turnOrder 165 = .ok (.ifCond .ne 13, 3) := by decide +kernel
theorem dX10_turnOrder_168 : decode cX10_turnOrder 168 = .ok (.aload_n 0, 1) := by decide +kernel
theorem dX10_turnOrder_169 : decode cX10_turnOrder 169 = .ok (.getfield 16, 3) := by decide +kernel
theorem dX10_turnOrder_172 : decode cX10_turnOrder 172 = .ok (.bipush 17, 2) := by decide +kernel
theorem dX10_turnOrder_174 : decode cX10_turnOrder 174 = .ok (.iaload, 1) := by decide +kernel
theorem dX10_turnOrder_175 : decode cX10_turnOrder 175 = .ok (.goto 6, 3) := by decide +kernel
theorem dX10_turnOrder_178 : decode cX10_turnOrder 178 = .ok (.iload_n 2, 1) := by decide +kernel
theorem dX10_turnOrder_179 : decode cX10_turnOrder 179 = .ok (.iconst 2, 1) := by decide +kernel
theorem dX10_turnOrder_180 : decode cX10_turnOrder 180 = .ok (.irem, 1) := by decide +kernel
theorem dX10_turnOrder_181 : decode cX10_turnOrder 181 = .ok (.iastore, 1) := by decide +kernel
theorem dX10_turnOrder_182 : decode cX10_turnOrder 182 = .ok (.goto 18, 3) := by decide +kernel
theorem dX10_turnOrder_185 : decode cX10_turnOrder 185 = .ok (.aload_n 0, 1) := by decide +kernel
theorem dX10_turnOrder_186 : decode cX10_turnOrder 186 = .ok (.iload_n 2, 1) := by decide +kernel
theorem dX10_turnOrder_187 : decode cX10_turnOrder 187 = .ok (.bipush 6, 2) := by decide +kernel
theorem dX10_turnOrder_189 : decode cX10_turnOrder 189 = .ok (.irem, 1) := by decide +kernel
theorem dX10_turnOrder_190 : decode cX10_turnOrder 190 = .ok (.iload_n 2, 1) := by decide +kernel
theorem dX10_turnOrder_191 : decode cX10_turnOrder 191 = .ok (.bipush 8, 2) := by decide +kernel
theorem dX10_turnOrder_193 : decode cX10_turnOrder 193 = .ok (.idiv, 1) := by decide +kernel
theorem dX10_turnOrder_194 : decode cX10_turnOrder 194 = .ok (.iconst 3, 1) := by decide +kernel
theorem dX10_turnOrder_195 : decode cX10_turnOrder 195 = .ok (.irem, 1) := by decide +kernel
theorem dX10_turnOrder_196 : decode cX10_turnOrder 196 = .ok (.invokevirtual 258, 3) := by decide +kernel
theorem dX10_turnOrder_199 : decode cX10_turnOrder 199 = .ok (.pop, 1) := by decide +kernel
theorem dX10_turnOrder_200 : decode cX10_turnOrder 200 = .ok (.return_, 1) := by decide +kernel
theorem dX10_simulate_0 : decode cX10_simulate 0 = .ok (.aload_n 0, 1) := by decide +kernel
theorem dX10_simulate_1 : decode cX10_simulate 1 = .ok (.iload_n 3, 1) := by decide +kernel
theorem dX10_simulate_2 : decode cX10_simulate 2 = .ok (.i2l, 1) := by decide +kernel
theorem dX10_simulate_3 : decode cX10_simulate 3 = .ok (.lconst 1, 1) := by decide +kernel
theorem dX10_simulate_4 : decode cX10_simulate 4 = .ok (.ldc2_w 240, 3) := by decide +kernel
theorem dX10_simulate_7 : decode cX10_simulate 7 = .ok (.invokestatic 37, 3) := by decide +kernel
theorem dX10_simulate_10 : decode cX10_simulate 10 = .ok (.ifCond .eq 7, 3) := by decide +kernel
theorem dX10_simulate_13 : decode cX10_simulate 13 = .ok (.iconst 0, 1) := by decide +kernel
theorem dX10_simulate_14 : decode cX10_simulate 14 = .ok (.goto 4, 3) := by decide +kernel
theorem dX10_simulate_17 : decode cX10_simulate 17 = .ok (.iconst 1, 1) := by decide +kernel
theorem dX10_simulate_18 : decode cX10_simulate 18 = .ok (.invokevirtual 152, 3) := by decide +kernel
theorem dX10_simulate_21 : decode cX10_simulate 21 = .ok (.ifCond .eq 5, 3) := by decide +kernel
theorem dX10_simulate_24 : decode cX10_simulate 24 = .ok (.iconst 0, 1) := by decide +kernel
theorem dX10_simulate_25 : decode cX10_simulate 25 = .ok (.ireturn, 1) := by decide +kernel
theorem dX10_simulate_26 : decode cX10_simulate 26 = .ok (.aload_n 0, 1) := by decide +kernel
theorem dX10_simulate_27 : decode cX10_simulate 27 = .ok (.getfield 13, 3) := by decide +kernel
theorem dX10_simulate_30 : decode cX10_simulate 30 = .ok (.iconst 0, 1) := by decide +kernel
theorem dX10_simulate_31 : decode cX10_simulate 31 = .ok (.aload_n 0, 1) := by decide +kernel
theorem dX10_simulate_32 : decode cX10_simulate 32 = .ok (.getfield 16, 3) := by decide +kernel
theorem dX10_simulate_35 : decode cX10_simulate 35 = .ok (.iconst 0, 1) := by decide +kernel
theorem dX10_simulate_36 : decode cX10_simulate 36 = .ok (.invokestatic 220, 3) := by decide +kernel
theorem dX10_simulate_39 : decode cX10_simulate 39 = .ok (.lload_n 1, 1) := by decide +kernel
theorem dX10_simulate_40 : decode cX10_simulate 40 = .ok (.lstore 4, 2) := by decide +kernel
theorem dX10_simulate_42 : decode cX10_simulate 42 = .ok (.iconst 0, 1) := by decide +kernel
theorem dX10_simulate_43 : decode cX10_simulate 43 = .ok (.istore 6, 2) := by decide +kernel
theorem dX10_simulate_45 : decode cX10_simulate 45 = .ok (.iload 6, 2) := by decide +kernel
theorem dX10_simulate_47 : decode cX10_simulate 47 = .ok (.iload_n 3, 1) := by decide +kernel
theorem dX10_simulate_48 : decode cX10_simulate 48 = .ok (.if_icmp .ge 93, 3) := by decide +kernel
theorem dX10_simulate_51 : decode cX10_simulate 51 = .ok (.lload 4, 2) := by decide +kernel
theorem dX10_simulate_53 : decode cX10_simulate 53 = .ok (.ldc2_w 267, 3) := by decide +kernel
theorem dX10_simulate_56 : decode cX10_simulate 56 = .ok (.lmul, 1) := by decide +kernel
theorem dX10_simulate_57 : decode cX10_simulate 57 = .ok (.ldc2_w 269, 3) := by decide +kernel
theorem dX10_simulate_60 : decode cX10_simulate 60 = .ok (.ladd, 1) := by decide +kernel
theorem dX10_simulate_61 : decode cX10_simulate 61 = .ok (.lstore 4, 2) := by decide +kernel
theorem dX10_simulate_63 : decode cX10_simulate 63 = .ok (.lload 4, 2) := by decide +kernel
theorem dX10_simulate_65 : decode cX10_simulate 65 = .ok (.bipush 33, 2) := by decide +kernel
theorem dX10_simulate_67 : decode cX10_simulate 67 = .ok (.lushr, 1) := by decide +kernel
theorem dX10_simulate_68 : decode cX10_simulate 68 = .ok (.l2i, 1) := by decide +kernel
theorem dX10_simulate_69 : decode cX10_simulate 69 = .ok (.istore 7, 2) := by decide +kernel
theorem dX10_simulate_71 : decode cX10_simulate 71 = .ok (.iload 7, 2) := by decide +kernel
theorem dX10_simulate_73 : decode cX10_simulate 73 = .ok (.bipush 16, 2) := by decide +kernel
theorem dX10_simulate_75 : decode cX10_simulate 75 = .ok (.idiv, 1) := by decide +kernel
theorem dX10_simulate_76 : decode cX10_simulate 76 = .ok (.istore 8, 2) := by decide +kernel
theorem dX10_simulate_78 : decode cX10_simulate 78 = .ok (.iload 7, 2) := by decide +kernel
theorem dX10_simulate_80 : decode cX10_simulate 80 = .ok (.bipush 16, 2) := by decide +kernel
theorem dX10_simulate_82 : decode cX10_simulate 82 = .ok (.irem, 1) := by decide +kernel
theorem dX10_simulate_83 : decode cX10_simulate 83 = .ok (.istore 9, 2) := by decide +kernel
theorem dX10_simulate_85 : decode cX10_simulate 85 = .ok (.iload 9, 2) := by decide +kernel
theorem dX10_simulate_87 : decode cX10_simulate 87 = .ok (.iconst 5, 1) := by decide +kernel
theorem dX10_simulate_88 : decode cX10_simulate 88 = .ok (.if_icmp .ge 14, 3) := by decide +kernel
theorem dX10_simulate_91 : decode cX10_simulate 91 = .ok (.aload_n 0, 1) := by decide +kernel
theorem dX10_simulate_92 : decode cX10_simulate 92 = .ok (.iload 9, 2) := by decide +kernel
theorem dX10_simulate_94 : decode cX10_simulate 94 = .ok (.iload 8, 2) := by decide +kernel
theorem dX10_simulate_96 : decode cX10_simulate 96 = .ok (.invokevirtual 271, 3) := by decide +kernel
theorem dX10_simulate_99 : decode cX10_simulate 99 = .ok (.goto 36, 3) := by decide +kernel
theorem dX10_simulate_102 : decode cX10_simulate 102 = .ok (.iload 9, 2) := by decide +kernel
theorem dX10_simulate_104 : decode cX10_simulate 104 = .ok (.bipush 10, 2) := by decide +kernel
theorem dX10_simulate_106 : decode cX10_simulate 106 = .ok (.if_icmp .ge 14, 3) := by decide +kernel
theorem dX10_simulate_109 : decode cX10_simulate 109 = .ok (.aload_n 0, 1) := by decide +kernel
theorem dX10_simulate_110 : decode cX10_simulate 110 = .ok (.iload 9, 2) := by decide +kernel
theorem dX10_simulate_112 : decode cX10_simulate 112 = .ok (.iload 8, 2) := by decide +kernel
theorem dX10_simulate_114 : decode cX10_simulate 114 = .ok (.invokevirtual 275, 3) := by decide +kernel
theorem dX10_simulate_117 : decode cX10_simulate 117 = .ok (.goto 18, 3) := by decide +kernel
theorem dX10_simulate_120 : decode cX10_simulate 120 = .ok (.aload_n 0, 1) := by decide +kernel
theorem dX10_simulate_121 : decode cX10_simulate 121 = .ok (.getfield 16, 3) := by decide +kernel
theorem dX10_simulate_124 : decode cX10_simulate 124 = .ok (.iconst 1, 1) := by decide +kernel
theorem dX10_simulate_125 : decode cX10_simulate 125 = .ok (.iload 8, 2) := by decide +kernel
theorem dX10_simulate_127 : decode cX10_simulate 127 = .ok (.bipush 12, 2) := by decide +kernel
theorem dX10_simulate_129 : decode cX10_simulate 129 = .ok (.irem, 1) := by decide +kernel
theorem dX10_simulate_130 : decode cX10_simulate 130 = .ok (.iadd, 1) := by decide +kernel
theorem dX10_simulate_131 : decode cX10_simulate 131 = .ok (.invokestatic 211, 3) := by decide +kernel
theorem dX10_simulate_134 : decode cX10_simulate 134 = .ok (.pop, 1) := by decide +kernel
theorem dX10_simulate_135 : decode cX10_simulate 135 = .ok (.iinc 6 1, 3) := by decide +kernel
theorem dX10_simulate_138 : decode cX10_simulate 138 = .ok (.goto (-93), 3) := by decide +kernel
theorem dX10_simulate_141 : decode cX10_simulate 141 = .ok (.aload_n 0, 1) := by decide +kernel
theorem dX10_simulate_142 : decode cX10_simulate 142 = .ok (.getfield 16, 3) := by decide +kernel
theorem dX10_simulate_145 : decode cX10_simulate 145 = .ok (.bipush 9, 2) := by decide +kernel
theorem dX10_simulate_147 : decode cX10_simulate 147 = .ok (.iaload, 1) := by decide +kernel
theorem dX10_simulate_148 : decode cX10_simulate 148 = .ok (.aload_n 0, 1) := by decide +kernel
theorem dX10_simulate_149 : decode cX10_simulate 149 = .ok (.getfield 13, 3) := by decide +kernel
theorem dX10_simulate_152 : decode cX10_simulate 152 = .ok (.bipush 9, 2) := by decide +kernel
theorem dX10_simulate_154 : decode cX10_simulate 154 = .ok (.iaload, 1) := by decide +kernel
theorem dX10_simulate_155 : decode cX10_simulate 155 = .ok (.isub, 1) := by decide +kernel
theorem dX10_simulate_156 : decode cX10_simulate 156 = .ok (.istore 6, 2) := by decide +kernel
theorem dX10_simulate_158 : decode cX10_simulate 158 = .ok (.sipush 1000, 3) := by decide +kernel
theorem dX10_simulate_161 : decode cX10_simulate 161 = .ok (.aload_n 0, 1) := by decide +kernel
theorem dX10_simulate_162 : decode cX10_simulate 162 = .ok (.getfield 16, 3) := by decide +kernel
theorem dX10_simulate_165 : decode cX10_simulate 165 = .ok (.bipush 10, 2) := by decide +kernel
theorem dX10_simulate_167 : decode cX10_simulate 167 = .ok (.iaload, 1) := by decide +kernel
theorem dX10_simulate_168 : decode cX10_simulate 168 = .ok (.aload_n 0, 1) := by decide +kernel
theorem dX10_simulate_169 : decode cX10_simulate 169 = .ok (.getfield 13, 3) := by decide +kernel
theorem dX10_simulate_172 : decode cX10_simulate 172 = .ok (.bipush 10, 2) := by decide +kernel
theorem dX10_simulate_174 : decode cX10_simulate 174 = .ok (.iaload, 1) := by decide +kernel
theorem dX10_simulate_175 : decode cX10_simulate 175 = .ok (.isub, 1) := by decide +kernel
theorem dX10_simulate_176 : decode cX10_simulate 176 = .ok (.imul, 1) := by decide +kernel
theorem dX10_simulate_177 : decode cX10_simulate 177 = .ok (.iload 6, 2) := by decide +kernel
theorem dX10_simulate_179 : decode cX10_simulate 179 = .ok (.sipush 999, 3) := by decide +kernel
theorem dX10_simulate_182 : decode cX10_simulate 182 = .ok (.if_icmp .le 9, 3) := by decide +kernel
theorem dX10_simulate_185 : decode cX10_simulate 185 = .ok (.sipush 999, 3) := by decide +kernel
theorem dX10_simulate_188 : decode cX10_simulate 188 = .ok (.goto 5, 3) := by decide +kernel
theorem dX10_simulate_191 : decode cX10_simulate 191 = .ok (.iload 6, 2) := by decide +kernel
theorem dX10_simulate_193 : decode cX10_simulate 193 = .ok (.iadd, 1) := by decide +kernel
theorem dX10_simulate_194 : decode cX10_simulate 194 = .ok (.ireturn, 1) := by decide +kernel
theorem dX10_save_0 : decode cX10_save 0 = .ok (.aload_n 0, 1) := by decide +kernel
theorem dX10_save_1 : decode cX10_save 1 = .ok (.iload_n 1, 1) := by decide +kernel
theorem dX10_save_2 : decode cX10_save 2 = .ok (.i2l, 1) := by decide +kernel
theorem dX10_save_3 : decode cX10_save 3 = .ok (.lconst 0, 1) := by decide +kernel
theorem dX10_save_4 : decode cX10_save 4 = .ok (.lconst 1, 1) := by decide +kernel
theorem dX10_save_5 : decode cX10_save 5 = .ok (.invokestatic 37, 3) := by decide +kernel
theorem dX10_save_8 : decode cX10_save 8 = .ok (.ifCond .eq 7, 3) := by decide +kernel
theorem dX10_save_11 : decode cX10_save 11 = .ok (.iconst 0, 1) := by decide +kernel
theorem dX10_save_12 : decode cX10_save 12 = .ok (.goto 4, 3) := by decide +kernel
theorem dX10_save_15 : decode cX10_save 15 = .ok (.iconst 1, 1) := by decide +kernel
theorem dX10_save_16 : decode cX10_save 16 = .ok (.invokevirtual 152, 3) := by decide +kernel
theorem dX10_save_19 : decode cX10_save 19 = .ok (.ifCond .eq 5, 3) := by decide +kernel
theorem dX10_save_22 : decode cX10_save 22 = .ok (.iconst 0, 1) := by decide +kernel
theorem dX10_save_23 : decode cX10_save 23 = .ok (.ireturn, 1) := by decide +kernel
theorem dX10_save_24 : decode cX10_save 24 = .ok (.aload_n 0, 1) := by decide +kernel
theorem dX10_save_25 : decode cX10_save 25 = .ok (.getfield 13, 3) := by decide +kernel
theorem dX10_save_28 : decode cX10_save 28 = .ok (.iconst 0, 1) := by decide +kernel
theorem dX10_save_29 : decode cX10_save 29 = .ok (.aload_n 0, 1) := by decide +kernel
theorem dX10_save_30 : decode cX10_save 30 = .ok (.getfield 22, 3) := by decide +kernel
theorem dX10_save_33 : decode cX10_save 33 = .ok (.bipush 104, 2) := by decide +kernel
theorem dX10_save_35 : decode cX10_save 35 = .ok (.iload_n 1, 1) := by decide +kernel
theorem dX10_save_36 : decode cX10_save 36 = .ok (.imul, 1) := by decide +kernel
theorem dX10_save_37 : decode cX10_save 37 = .ok (.invokestatic 220, 3) := by decide +kernel
theorem dX10_save_40 : decode cX10_save 40 = .ok (.aload_n 0, 1) := by decide +kernel
theorem dX10_save_41 : decode cX10_save 41 = .ok (.getfield 25, 3) := by decide +kernel
theorem dX10_save_44 : decode cX10_save 44 = .ok (.iload_n 1, 1) := by decide +kernel
theorem dX10_save_45 : decode cX10_save 45 = .ok (.iconst 1, 1) := by decide +kernel
theorem dX10_save_46 : decode cX10_save 46 = .ok (.bastore, 1) := by decide +kernel
theorem dX10_save_47 : decode cX10_save 47 = .ok (.aload_n 0, 1) := by decide +kernel
theorem dX10_save_48 : decode cX10_save 48 = .ok (.getfield 13, 3) := by decide +kernel
theorem dX10_save_51 : decode cX10_save 51 = .ok (.iconst 3, 1) := by decide +kernel
theorem dX10_save_52 : decode cX10_save 52 = .ok (.iaload, 1) := by decide +kernel
theorem dX10_save_53 : decode cX10_save 53 = .ok (.ireturn, 1) := by decide +kernel
theorem dX10_restore_0 : decode cX10_restore 0 = .ok (.aload_n 0, 1) := by decide +kernel
theorem dX10_restore_1 : decode cX10_restore 1 = .ok (.iload_n 1, 1) := by decide +kernel
theorem dX10_restore_2 : decode cX10_restore 2 = .ok (.i2l, 1) := by decide +kernel
theorem dX10_restore_3 : decode cX10_restore 3 = .ok (.lconst 0, 1) := by decide +kernel
theorem dX10_restore_4 : decode cX10_restore 4 = .ok (.lconst 1, 1) := by decide +kernel
theorem dX10_restore_5 : decode cX10_restore 5 = .ok (.invokestatic 37, 3) := by decide +kernel
theorem dX10_restore_8 : decode cX10_restore 8 = .ok (.ifCond .ne 7, 3) := by decide +kernel
theorem dX10_restore_11 : decode cX10_restore 11 = .ok (.iconst 1, 1) := by decide +kernel
theorem dX10_restore_12 : decode cX10_restore 12 = .ok (.goto 17, 3) := by decide +kernel
theorem dX10_restore_15 : decode cX10_restore 15 = .ok (.aload_n 0, 1) := by decide +kernel
theorem dX10_restore_16 : decode cX10_restore 16 = .ok (.getfield 25, 3) := by decide +kernel
theorem dX10_restore_19 : decode cX10_restore 19 = .ok (.iload_n 1, 1) := by decide +kernel
theorem dX10_restore_20 : decode cX10_restore 20 = .ok (.baload, 1) := by decide +kernel
theorem dX10_restore_21 : decode cX10_restore 21 = .ok (.ifCond .ne 7, 3) := by decide +kernel
theorem dX10_restore_24 : decode cX10_restore 24 = .ok (.iconst 2, 1) := by decide +kernel
theorem dX10_restore_25 : decode cX10_restore 25 = .ok (.goto 4, 3) := by decide +kernel
theorem dX10_restore_28 : decode cX10_restore 28 = .ok (.iconst 0, 1) := by decide +kernel
theorem dX10_restore_29 : decode cX10_restore 29 = .ok (.invokevirtual 152, 3) := by decide +kernel
theorem dX10_restore_32 : decode cX10_restore 32 = .ok (.ifCond .eq 5, 3) := by decide +kernel
theorem dX10_restore_35 : decode cX10_restore 35 = .ok (.iconst 0, 1) := by decide +kernel
theorem dX10_restore_36 : decode cX10_restore 36 = .ok (.ireturn, 1) := by decide +kernel
theorem dX10_restore_37 : decode cX10_restore 37 = .ok (.aload_n 0, 1) := by decide +kernel
theorem dX10_restore_38 : decode cX10_restore 38 = .ok (.getfield 22, 3) := by decide +kernel
theorem dX10_restore_41 : decode cX10_restore 41 = .ok (.bipush 104, 2) := by decide +kernel
theorem dX10_restore_43 : decode cX10_restore 43 = .ok (.iload_n 1, 1) := by decide +kernel
theorem dX10_restore_44 : decode cX10_restore 44 = .ok (.imul, 1) := by decide +kernel
theorem dX10_restore_45 : decode cX10_restore 45 = .ok (.aload_n 0, 1) := by decide +kernel
theorem dX10_restore_46 : decode cX10_restore 46 = .ok (.getfield 13, 3) := by decide +kernel
theorem dX10_restore_49 : decode cX10_restore 49 = .ok (.iconst 0, 1) := by decide +kernel
theorem dX10_restore_50 : decode cX10_restore 50 = .ok (.invokestatic 220, 3) := by decide +kernel
theorem dX10_restore_53 : decode cX10_restore 53 = .ok (.aload_n 0, 1) := by decide +kernel
theorem dX10_restore_54 : decode cX10_restore 54 = .ok (.iconst 0, 1) := by decide +kernel
theorem dX10_restore_55 : decode cX10_restore 55 = .ok (.putfield 224, 3) := by decide +kernel
theorem dX10_restore_58 : decode cX10_restore 58 = .ok (.aload_n 0, 1) := by decide +kernel
theorem dX10_restore_59 : decode cX10_restore 59 = .ok (.getfield 13, 3) := by decide +kernel
theorem dX10_restore_62 : decode cX10_restore 62 = .ok (.iconst 3, 1) := by decide +kernel
theorem dX10_restore_63 : decode cX10_restore 63 = .ok (.iaload, 1) := by decide +kernel
theorem dX10_restore_64 : decode cX10_restore 64 = .ok (.ireturn, 1) := by decide +kernel
