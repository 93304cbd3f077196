/-! The law: its instructions, its methods. -/
theorem dL_lamps_0 : decode cL_lamps 0 = .ok (.aload_n 0, 1) := by decide +kernel
theorem dL_lamps_1 : decode cL_lamps 1 = .ok (.iload_n 1, 1) := by decide +kernel
theorem dL_lamps_2 : decode cL_lamps 2 = .ok (.iload_n 2, 1) := by decide +kernel
theorem dL_lamps_3 : decode cL_lamps 3 = .ok (.iload_n 3, 1) := by decide +kernel
theorem dL_lamps_4 : decode cL_lamps 4 = .ok (.iload 4, 2) := by decide +kernel
theorem dL_lamps_6 : decode cL_lamps 6 = .ok (.invokevirtual 7, 3) := by decide +kernel
theorem dL_lamps_9 : decode cL_lamps 9 = .ok (.ireturn, 1) := by decide +kernel
theorem dL_lamps_10 : decode cL_lamps 10 = .ok (.astore 5, 2) := by decide +kernel
theorem dL_lamps_12 : decode cL_lamps 12 = .ok (.ldc 15, 2) := by decide +kernel
theorem dL_lamps_14 : decode cL_lamps 14 = .ok (.ireturn, 1) := by decide +kernel
theorem dL_lamps_15 : decode cL_lamps 15 = .ok (.astore 5, 2) := by decide +kernel
theorem dL_lamps_17 : decode cL_lamps 17 = .ok (.ldc 18, 2) := by decide +kernel
theorem dL_lamps_19 : decode cL_lamps 19 = .ok (.ireturn, 1) := by decide +kernel
theorem dL_lamps_20 : decode cL_lamps 20 = .ok (.astore 5, 2) := by decide +kernel
theorem dL_lamps_22 : decode cL_lamps 22 = .ok (.ldc 21, 2) := by decide +kernel
theorem dL_lamps_24 : decode cL_lamps 24 = .ok (.ireturn, 1) := by decide +kernel
theorem dL_ways_0 : decode cL_ways 0 = .ok (.aload_n 0, 1) := by decide +kernel
theorem dL_ways_1 : decode cL_ways 1 = .ok (.iload_n 1, 1) := by decide +kernel
theorem dL_ways_2 : decode cL_ways 2 = .ok (.iload_n 2, 1) := by decide +kernel
theorem dL_ways_3 : decode cL_ways 3 = .ok (.iload_n 3, 1) := by decide +kernel
theorem dL_ways_4 : decode cL_ways 4 = .ok (.iload 4, 2) := by decide +kernel
theorem dL_ways_6 : decode cL_ways 6 = .ok (.invokevirtual 22, 3) := by decide +kernel
theorem dL_ways_9 : decode cL_ways 9 = .ok (.ireturn, 1) := by decide +kernel
theorem dL_ways_10 : decode cL_ways 10 = .ok (.astore 5, 2) := by decide +kernel
theorem dL_ways_12 : decode cL_ways 12 = .ok (.ldc 15, 2) := by decide +kernel
theorem dL_ways_14 : decode cL_ways 14 = .ok (.ireturn, 1) := by decide +kernel
theorem dL_doScript_0 : decode cL_doScript 0 = .ok (.aload_n 0, 1) := by decide +kernel
theorem dL_doScript_1 : decode cL_doScript 1 = .ok (.iload_n 1, 1) := by decide +kernel
theorem dL_doScript_2 : decode cL_doScript 2 = .ok (.lload_n 2, 1) := by decide +kernel
theorem dL_doScript_3 : decode cL_doScript 3 = .ok (.invokevirtual 25, 3) := by decide +kernel
theorem dL_doScript_6 : decode cL_doScript 6 = .ok (.ireturn, 1) := by decide +kernel
theorem dL_doScript_7 : decode cL_doScript 7 = .ok (.astore 4, 2) := by decide +kernel
theorem dL_doScript_9 : decode cL_doScript 9 = .ok (.ldc 18, 2) := by decide +kernel
theorem dL_doScript_11 : decode cL_doScript 11 = .ok (.ireturn, 1) := by decide +kernel
theorem dL_doSimulate_0 : decode cL_doSimulate 0 = .ok (.aload_n 0, 1) := by decide +kernel
theorem dL_doSimulate_1 : decode cL_doSimulate 1 = .ok (.lload_n 1, 1) := by decide +kernel
theorem dL_doSimulate_2 : decode cL_doSimulate 2 = .ok (.iload_n 3, 1) := by decide +kernel
theorem dL_doSimulate_3 : decode cL_doSimulate 3 = .ok (.invokevirtual 29, 3) := by decide +kernel
theorem dL_doSimulate_6 : decode cL_doSimulate 6 = .ok (.ireturn, 1) := by decide +kernel
theorem dL_doSimulate_7 : decode cL_doSimulate 7 = .ok (.astore 4, 2) := by decide +kernel
theorem dL_doSimulate_9 : decode cL_doSimulate 9 = .ok (.ldc 18, 2) := by decide +kernel
theorem dL_doSimulate_11 : decode cL_doSimulate 11 = .ok (.ireturn, 1) := by decide +kernel
theorem dL_tryAppend_0 : decode cL_tryAppend 0 = .ok (.aload_n 0, 1) := by decide +kernel
theorem dL_tryAppend_1 : decode cL_tryAppend 1 = .ok (.iload_n 1, 1) := by decide +kernel
theorem dL_tryAppend_2 : decode cL_tryAppend 2 = .ok (.invokevirtual 33, 3) := by decide +kernel
theorem dL_tryAppend_5 : decode cL_tryAppend 5 = .ok (.ireturn, 1) := by decide +kernel
theorem dL_tryAppend_6 : decode cL_tryAppend 6 = .ok (.astore_n 2, 1) := by decide +kernel
theorem dL_tryAppend_7 : decode cL_tryAppend 7 = .ok (.ldc 18, 2) := by decide +kernel
theorem dL_tryAppend_9 : decode cL_tryAppend 9 = .ok (.ireturn, 1) := by decide +kernel
theorem dL_tryAppend_10 : decode cL_tryAppend 10 = .ok (.astore_n 2, 1) := by decide +kernel
theorem dL_tryAppend_11 : decode cL_tryAppend 11 = .ok (.ldc 21, 2) := by decide +kernel
theorem dL_tryAppend_13 : decode cL_tryAppend 13 = .ok (.ireturn, 1) := by decide +kernel
theorem dL_tryLoad_0 : decode cL_tryLoad 0 = .ok (.aload_n 0, 1) := by decide +kernel
theorem dL_tryLoad_1 : decode cL_tryLoad 1 = .ok (.invokevirtual 37, 3) := by decide +kernel
theorem dL_tryLoad_4 : decode cL_tryLoad 4 = .ok (.ireturn, 1) := by decide +kernel
theorem dL_tryLoad_5 : decode cL_tryLoad 5 = .ok (.astore_n 1, 1) := by decide +kernel
theorem dL_tryLoad_6 : decode cL_tryLoad 6 = .ok (.ldc 21, 2) := by decide +kernel
theorem dL_tryLoad_8 : decode cL_tryLoad 8 = .ok (.ireturn, 1) := by decide +kernel
theorem dL_tryAbout_0 : decode cL_tryAbout 0 = .ok (.aload_n 0, 1) := by decide +kernel
theorem dL_tryAbout_1 : decode cL_tryAbout 1 = .ok (.iload_n 1, 1) := by decide +kernel
theorem dL_tryAbout_2 : decode cL_tryAbout 2 = .ok (.invokevirtual 41, 3) := by decide +kernel
theorem dL_tryAbout_5 : decode cL_tryAbout 5 = .ok (.ireturn, 1) := by decide +kernel
theorem dL_tryAbout_6 : decode cL_tryAbout 6 = .ok (.astore_n 2, 1) := by decide +kernel
theorem dL_tryAbout_7 : decode cL_tryAbout 7 = .ok (.ldc 18, 2) := by decide +kernel
theorem dL_tryAbout_9 : decode cL_tryAbout 9 = .ok (.ireturn, 1) := by decide +kernel
theorem dL_tryTold_0 : decode cL_tryTold 0 = .ok (.aload_n 0, 1) := by decide +kernel
theorem dL_tryTold_1 : decode cL_tryTold 1 = .ok (.iload_n 1, 1) := by decide +kernel
theorem dL_tryTold_2 : decode cL_tryTold 2 = .ok (.iload_n 2, 1) := by decide +kernel
theorem dL_tryTold_3 : decode cL_tryTold 3 = .ok (.invokevirtual 44, 3) := by decide +kernel
theorem dL_tryTold_6 : decode cL_tryTold 6 = .ok (.ireturn, 1) := by decide +kernel
theorem dL_tryTold_7 : decode cL_tryTold 7 = .ok (.astore_n 3, 1) := by decide +kernel
theorem dL_tryTold_8 : decode cL_tryTold 8 = .ok (.ldc 15, 2) := by decide +kernel
theorem dL_tryTold_10 : decode cL_tryTold 10 = .ok (.ireturn, 1) := by decide +kernel
theorem dL_tryTold_11 : decode cL_tryTold 11 = .ok (.astore_n 3, 1) := by decide +kernel
theorem dL_tryTold_12 : decode cL_tryTold 12 = .ok (.ldc 18, 2) := by decide +kernel
theorem dL_tryTold_14 : decode cL_tryTold 14 = .ok (.ireturn, 1) := by decide +kernel
theorem dL_tryWorker_0 : decode cL_tryWorker 0 = .ok (.aload_n 0, 1) := by decide +kernel
theorem dL_tryWorker_1 : decode cL_tryWorker 1 = .ok (.iload_n 1, 1) := by decide +kernel
theorem dL_tryWorker_2 : decode cL_tryWorker 2 = .ok (.iload_n 2, 1) := by decide +kernel
theorem dL_tryWorker_3 : decode cL_tryWorker 3 = .ok (.invokevirtual 48, 3) := by decide +kernel
theorem dL_tryWorker_6 : decode cL_tryWorker 6 = .ok (.ireturn, 1) := by decide +kernel
theorem dL_tryWorker_7 : decode cL_tryWorker 7 = .ok (.astore_n 3, 1) := by decide +kernel
theorem dL_tryWorker_8 : decode cL_tryWorker 8 = .ok (.ldc 15, 2) := by decide +kernel
theorem dL_tryWorker_10 : decode cL_tryWorker 10 = .ok (.ireturn, 1) := by decide +kernel
theorem dL_tryWorker_11 : decode cL_tryWorker 11 = .ok (.astore_n 3, 1) := by decide +kernel
theorem dL_tryWorker_12 : decode cL_tryWorker 12 = .ok (.ldc 18, 2) := by decide +kernel
theorem dL_tryWorker_14 : decode cL_tryWorker 14 = .ok (.ireturn, 1) := by decide +kernel
theorem dL_tryGlow_0 : decode cL_tryGlow 0 = .ok (.aload_n 0, 1) := by decide +kernel
theorem dL_tryGlow_1 : decode cL_tryGlow 1 = .ok (.iload_n 1, 1) := by decide +kernel
theorem dL_tryGlow_2 : decode cL_tryGlow 2 = .ok (.iload_n 2, 1) := by decide +kernel
theorem dL_tryGlow_3 : decode cL_tryGlow 3 = .ok (.invokevirtual 51, 3) := by decide +kernel
theorem dL_tryGlow_6 : decode cL_tryGlow 6 = .ok (.ireturn, 1) := by decide +kernel
theorem dL_tryGlow_7 : decode cL_tryGlow 7 = .ok (.astore_n 3, 1) := by decide +kernel
theorem dL_tryGlow_8 : decode cL_tryGlow 8 = .ok (.ldc 15, 2) := by decide +kernel
theorem dL_tryGlow_10 : decode cL_tryGlow 10 = .ok (.ireturn, 1) := by decide +kernel
theorem dL_tryGlow_11 : decode cL_tryGlow 11 = .ok (.astore_n 3, 1) := by decide +kernel
theorem dL_tryGlow_12 : decode cL_tryGlow 12 = .ok (.ldc 18, 2) := by decide +kernel
theorem dL_tryGlow_14 : decode cL_tryGlow 14 = .ok (.ireturn, 1) := by decide +kernel
theorem dL_tryLad_0 : decode cL_tryLad 0 = .ok (.aload_n 0, 1) := by decide +kernel
theorem dL_tryLad_1 : decode cL_tryLad 1 = .ok (.iload_n 1, 1) := by decide +kernel
theorem dL_tryLad_2 : decode cL_tryLad 2 = .ok (.invokevirtual 54, 3) := by decide +kernel
theorem dL_tryLad_5 : decode cL_tryLad 5 = .ok (.ireturn, 1) := by decide +kernel
theorem dL_tryLad_6 : decode cL_tryLad 6 = .ok (.astore_n 2, 1) := by decide +kernel
theorem dL_tryLad_7 : decode cL_tryLad 7 = .ok (.ldc 18, 2) := by decide +kernel
theorem dL_tryLad_9 : decode cL_tryLad 9 = .ok (.ireturn, 1) := by decide +kernel
theorem dL_tryOrder_0 : decode cL_tryOrder 0 = .ok (.aload_n 0, 1) := by decide +kernel
theorem dL_tryOrder_1 : decode cL_tryOrder 1 = .ok (.iload_n 1, 1) := by decide +kernel
theorem dL_tryOrder_2 : decode cL_tryOrder 2 = .ok (.iload_n 2, 1) := by decide +kernel
theorem dL_tryOrder_3 : decode cL_tryOrder 3 = .ok (.invokevirtual 57, 3) := by decide +kernel
theorem dL_tryOrder_6 : decode cL_tryOrder 6 = .ok (.ireturn, 1) := by decide +kernel
theorem dL_tryOrder_7 : decode cL_tryOrder 7 = .ok (.astore_n 3, 1) := by decide +kernel
theorem dL_tryOrder_8 : decode cL_tryOrder 8 = .ok (.ldc 15, 2) := by decide +kernel
theorem dL_tryOrder_10 : decode cL_tryOrder 10 = .ok (.ireturn, 1) := by decide +kernel
theorem dL_tryOrder_11 : decode cL_tryOrder 11 = .ok (.astore_n 3, 1) := by decide +kernel
theorem dL_tryOrder_12 : decode cL_tryOrder 12 = .ok (.ldc 18, 2) := by decide +kernel
theorem dL_tryOrder_14 : decode cL_tryOrder 14 = .ok (.ireturn, 1) := by decide +kernel
theorem dL_tryLit_0 : decode cL_tryLit 0 = .ok (.aload_n 0, 1) := by decide +kernel
theorem dL_tryLit_1 : decode cL_tryLit 1 = .ok (.iload_n 1, 1) := by decide +kernel
theorem dL_tryLit_2 : decode cL_tryLit 2 = .ok (.iload_n 2, 1) := by decide +kernel
theorem dL_tryLit_3 : decode cL_tryLit 3 = .ok (.invokevirtual 60, 3) := by decide +kernel
theorem dL_tryLit_6 : decode cL_tryLit 6 = .ok (.ireturn, 1) := by decide +kernel
theorem dL_tryLit_7 : decode cL_tryLit 7 = .ok (.astore_n 3, 1) := by decide +kernel
theorem dL_tryLit_8 : decode cL_tryLit 8 = .ok (.ldc 15, 2) := by decide +kernel
theorem dL_tryLit_10 : decode cL_tryLit 10 = .ok (.ireturn, 1) := by decide +kernel
theorem dL_tryLit_11 : decode cL_tryLit 11 = .ok (.astore_n 3, 1) := by decide +kernel
theorem dL_tryLit_12 : decode cL_tryLit 12 = .ok (.ldc 18, 2) := by decide +kernel
theorem dL_tryLit_14 : decode cL_tryLit 14 = .ok (.ireturn, 1) := by decide +kernel
theorem dL_tryGallery_0 : decode cL_tryGallery 0 = .ok (.aload_n 0, 1) := by decide +kernel
theorem dL_tryGallery_1 : decode cL_tryGallery 1 = .ok (.iload_n 1, 1) := by decide +kernel
theorem dL_tryGallery_2 : decode cL_tryGallery 2 = .ok (.invokevirtual 63, 3) := by decide +kernel
theorem dL_tryGallery_5 : decode cL_tryGallery 5 = .ok (.ireturn, 1) := by decide +kernel
theorem dL_tryGallery_6 : decode cL_tryGallery 6 = .ok (.astore_n 2, 1) := by decide +kernel
theorem dL_tryGallery_7 : decode cL_tryGallery 7 = .ok (.ldc 18, 2) := by decide +kernel
theorem dL_tryGallery_9 : decode cL_tryGallery 9 = .ok (.ireturn, 1) := by decide +kernel
theorem dL_tryGallery_10 : decode cL_tryGallery 10 = .ok (.astore_n 2, 1) := by decide +kernel
theorem dL_tryGallery_11 : decode cL_tryGallery 11 = .ok (.ldc 21, 2) := by decide +kernel
theorem dL_tryGallery_13 : decode cL_tryGallery 13 = .ok (.ireturn, 1) := by decide +kernel
theorem dL_tryMiner_0 : decode cL_tryMiner 0 = .ok (.aload_n 0, 1) := by decide +kernel
theorem dL_tryMiner_1 : decode cL_tryMiner 1 = .ok (.iload_n 1, 1) := by decide +kernel
theorem dL_tryMiner_2 : decode cL_tryMiner 2 = .ok (.iload_n 2, 1) := by decide +kernel
theorem dL_tryMiner_3 : decode cL_tryMiner 3 = .ok (.invokevirtual 66, 3) := by decide +kernel
theorem dL_tryMiner_6 : decode cL_tryMiner 6 = .ok (.ireturn, 1) := by decide +kernel
theorem dL_tryMiner_7 : decode cL_tryMiner 7 = .ok (.astore_n 3, 1) := by decide +kernel
theorem dL_tryMiner_8 : decode cL_tryMiner 8 = .ok (.ldc 15, 2) := by decide +kernel
theorem dL_tryMiner_10 : decode cL_tryMiner 10 = .ok (.ireturn, 1) := by decide +kernel
theorem dL_tryMiner_11 : decode cL_tryMiner 11 = .ok (.astore_n 3, 1) := by decide +kernel
theorem dL_tryMiner_12 : decode cL_tryMiner 12 = .ok (.ldc 18, 2) := by decide +kernel
theorem dL_tryMiner_14 : decode cL_tryMiner 14 = .ok (.ireturn, 1) := by decide +kernel
theorem dL_tryMiner_15 : decode cL_tryMiner 15 = .ok (.astore_n 3, 1) := by decide +kernel
theorem dL_tryMiner_16 : decode cL_tryMiner 16 = .ok (.ldc 21, 2) := by decide +kernel
theorem dL_tryMiner_18 : decode cL_tryMiner 18 = .ok (.ireturn, 1) := by decide +kernel
theorem dL_trySend_0 : decode cL_trySend 0 = .ok (.aload_n 0, 1) := by decide +kernel
theorem dL_trySend_1 : decode cL_trySend 1 = .ok (.iload_n 1, 1) := by decide +kernel
theorem dL_trySend_2 : decode cL_trySend 2 = .ok (.iload_n 2, 1) := by decide +kernel
theorem dL_trySend_3 : decode cL_trySend 3 = .ok (.invokevirtual 69, 3) := by decide +kernel
theorem dL_trySend_6 : decode cL_trySend 6 = .ok (.ireturn, 1) := by decide +kernel
theorem dL_trySend_7 : decode cL_trySend 7 = .ok (.astore_n 3, 1) := by decide +kernel
theorem dL_trySend_8 : decode cL_trySend 8 = .ok (.ldc 15, 2) := by decide +kernel
theorem dL_trySend_10 : decode cL_trySend 10 = .ok (.ireturn, 1) := by decide +kernel
theorem dL_tryStore_0 : decode cL_tryStore 0 = .ok (.aload_n 0, 1) := by decide +kernel
theorem dL_tryStore_1 : decode cL_tryStore 1 = .ok (.iload_n 1, 1) := by decide +kernel
theorem dL_tryStore_2 : decode cL_tryStore 2 = .ok (.invokevirtual 72, 3) := by decide +kernel
theorem dL_tryStore_5 : decode cL_tryStore 5 = .ok (.ireturn, 1) := by decide +kernel
theorem dL_tryStore_6 : decode cL_tryStore 6 = .ok (.astore_n 2, 1) := by decide +kernel
theorem dL_tryStore_7 : decode cL_tryStore 7 = .ok (.ldc 18, 2) := by decide +kernel
theorem dL_tryStore_9 : decode cL_tryStore 9 = .ok (.ireturn, 1) := by decide +kernel
theorem dL_tryStore_10 : decode cL_tryStore 10 = .ok (.astore_n 2, 1) := by decide +kernel
theorem dL_tryStore_11 : decode cL_tryStore 11 = .ok (.ldc 21, 2) := by decide +kernel
theorem dL_tryStore_13 : decode cL_tryStore 13 = .ok (.ireturn, 1) := by decide +kernel
theorem dL_tryHang_0 : decode cL_tryHang 0 = .ok (.aload_n 0, 1) := by decide +kernel
theorem dL_tryHang_1 : decode cL_tryHang 1 = .ok (.iload_n 1, 1) := by decide +kernel
theorem dL_tryHang_2 : decode cL_tryHang 2 = .ok (.iload_n 2, 1) := by decide +kernel
theorem dL_tryHang_3 : decode cL_tryHang 3 = .ok (.iload_n 3, 1) := by decide +kernel
theorem dL_tryHang_4 : decode cL_tryHang 4 = .ok (.invokevirtual 75, 3) := by decide +kernel
theorem dL_tryHang_7 : decode cL_tryHang 7 = .ok (.ireturn, 1) := by decide +kernel
theorem dL_tryHang_8 : decode cL_tryHang 8 = .ok (.astore 4, 2) := by decide +kernel
theorem dL_tryHang_10 : decode cL_tryHang 10 = .ok (.ldc 15, 2) := by decide +kernel
theorem dL_tryHang_12 : decode cL_tryHang 12 = .ok (.ireturn, 1) := by decide +kernel
theorem dL_tryHang_13 : decode cL_tryHang 13 = .ok (.astore 4, 2) := by decide +kernel
theorem dL_tryHang_15 : decode cL_tryHang 15 = .ok (.ldc 21, 2) := by decide +kernel
theorem dL_tryHang_17 : decode cL_tryHang 17 = .ok (.ireturn, 1) := by decide +kernel
theorem dL_tryFill_0 : decode cL_tryFill 0 = .ok (.aload_n 0, 1) := by decide +kernel
theorem dL_tryFill_1 : decode cL_tryFill 1 = .ok (.iload_n 1, 1) := by decide +kernel
theorem dL_tryFill_2 : decode cL_tryFill 2 = .ok (.iload_n 2, 1) := by decide +kernel
theorem dL_tryFill_3 : decode cL_tryFill 3 = .ok (.invokevirtual 79, 3) := by decide +kernel
theorem dL_tryFill_6 : decode cL_tryFill 6 = .ok (.ireturn, 1) := by decide +kernel
theorem dL_tryFill_7 : decode cL_tryFill 7 = .ok (.astore_n 3, 1) := by decide +kernel
theorem dL_tryFill_8 : decode cL_tryFill 8 = .ok (.ldc 15, 2) := by decide +kernel
theorem dL_tryFill_10 : decode cL_tryFill 10 = .ok (.ireturn, 1) := by decide +kernel
theorem dL_tryFill_11 : decode cL_tryFill 11 = .ok (.astore_n 3, 1) := by decide +kernel
theorem dL_tryFill_12 : decode cL_tryFill 12 = .ok (.ldc 18, 2) := by decide +kernel
theorem dL_tryFill_14 : decode cL_tryFill 14 = .ok (.ireturn, 1) := by decide +kernel
theorem dL_tryFill_15 : decode cL_tryFill 15 = .ok (.astore_n 3, 1) := by decide +kernel
theorem dL_tryFill_16 : decode cL_tryFill 16 = .ok (.ldc 21, 2) := by decide +kernel
theorem dL_tryFill_18 : decode cL_tryFill 18 = .ok (.ireturn, 1) := by decide +kernel
theorem dL_tryDrop_0 : decode cL_tryDrop 0 = .ok (.aload_n 0, 1) := by decide +kernel
theorem dL_tryDrop_1 : decode cL_tryDrop 1 = .ok (.iload_n 1, 1) := by decide +kernel
theorem dL_tryDrop_2 : decode cL_tryDrop 2 = .ok (.invokevirtual 82, 3) := by decide +kernel
theorem dL_tryDrop_5 : decode cL_tryDrop 5 = .ok (.ireturn, 1) := by decide +kernel
theorem dL_tryDrop_6 : decode cL_tryDrop 6 = .ok (.astore_n 2, 1) := by decide +kernel
theorem dL_tryDrop_7 : decode cL_tryDrop 7 = .ok (.ldc 15, 2) := by decide +kernel
theorem dL_tryDrop_9 : decode cL_tryDrop 9 = .ok (.ireturn, 1) := by decide +kernel
theorem dL_tryDrop_10 : decode cL_tryDrop 10 = .ok (.astore_n 2, 1) := by decide +kernel
theorem dL_tryDrop_11 : decode cL_tryDrop 11 = .ok (.ldc 21, 2) := by decide +kernel
theorem dL_tryDrop_13 : decode cL_tryDrop 13 = .ok (.ireturn, 1) := by decide +kernel
theorem dL_tryLay_0 : decode cL_tryLay 0 = .ok (.aload_n 0, 1) := by decide +kernel
theorem dL_tryLay_1 : decode cL_tryLay 1 = .ok (.iload_n 1, 1) := by decide +kernel
theorem dL_tryLay_2 : decode cL_tryLay 2 = .ok (.iload_n 2, 1) := by decide +kernel
theorem dL_tryLay_3 : decode cL_tryLay 3 = .ok (.invokevirtual 85, 3) := by decide +kernel
theorem dL_tryLay_6 : decode cL_tryLay 6 = .ok (.ireturn, 1) := by decide +kernel
theorem dL_tryLay_7 : decode cL_tryLay 7 = .ok (.astore_n 3, 1) := by decide +kernel
theorem dL_tryLay_8 : decode cL_tryLay 8 = .ok (.ldc 18, 2) := by decide +kernel
theorem dL_tryLay_10 : decode cL_tryLay 10 = .ok (.ireturn, 1) := by decide +kernel
theorem dL_tryHours_0 : decode cL_tryHours 0 = .ok (.aload_n 0, 1) := by decide +kernel
theorem dL_tryHours_1 : decode cL_tryHours 1 = .ok (.iload_n 1, 1) := by decide +kernel
theorem dL_tryHours_2 : decode cL_tryHours 2 = .ok (.invokevirtual 88, 3) := by decide +kernel
theorem dL_tryHours_5 : decode cL_tryHours 5 = .ok (.ireturn, 1) := by decide +kernel
theorem dL_tryHours_6 : decode cL_tryHours 6 = .ok (.astore_n 2, 1) := by decide +kernel
theorem dL_tryHours_7 : decode cL_tryHours 7 = .ok (.ldc 18, 2) := by decide +kernel
theorem dL_tryHours_9 : decode cL_tryHours 9 = .ok (.ireturn, 1) := by decide +kernel
theorem dL_tryUndo_0 : decode cL_tryUndo 0 = .ok (.aload_n 0, 1) := by decide +kernel
theorem dL_tryUndo_1 : decode cL_tryUndo 1 = .ok (.invokevirtual 91, 3) := by decide +kernel
theorem dL_tryUndo_4 : decode cL_tryUndo 4 = .ok (.ireturn, 1) := by decide +kernel
theorem dL_tryUndo_5 : decode cL_tryUndo 5 = .ok (.astore_n 1, 1) := by decide +kernel
theorem dL_tryUndo_6 : decode cL_tryUndo 6 = .ok (.ldc 21, 2) := by decide +kernel
theorem dL_tryUndo_8 : decode cL_tryUndo 8 = .ok (.ireturn, 1) := by decide +kernel
theorem dL_tryDark_0 : decode cL_tryDark 0 = .ok (.aload_n 0, 1) := by decide +kernel
theorem dL_tryDark_1 : decode cL_tryDark 1 = .ok (.iload_n 1, 1) := by decide +kernel
theorem dL_tryDark_2 : decode cL_tryDark 2 = .ok (.invokevirtual 94, 3) := by decide +kernel
theorem dL_tryDark_5 : decode cL_tryDark 5 = .ok (.ireturn, 1) := by decide +kernel
theorem dL_tryDark_6 : decode cL_tryDark 6 = .ok (.astore_n 2, 1) := by decide +kernel
theorem dL_tryDark_7 : decode cL_tryDark 7 = .ok (.ldc 15, 2) := by decide +kernel
theorem dL_tryDark_9 : decode cL_tryDark 9 = .ok (.ireturn, 1) := by decide +kernel
theorem dL_tryDeep_0 : decode cL_tryDeep 0 = .ok (.aload_n 0, 1) := by decide +kernel
theorem dL_tryDeep_1 : decode cL_tryDeep 1 = .ok (.iload_n 1, 1) := by decide +kernel
theorem dL_tryDeep_2 : decode cL_tryDeep 2 = .ok (.iload_n 2, 1) := by decide +kernel
theorem dL_tryDeep_3 : decode cL_tryDeep 3 = .ok (.invokevirtual 97, 3) := by decide +kernel
theorem dL_tryDeep_6 : decode cL_tryDeep 6 = .ok (.ireturn, 1) := by decide +kernel
theorem dL_tryDeep_7 : decode cL_tryDeep 7 = .ok (.astore_n 3, 1) := by decide +kernel
theorem dL_tryDeep_8 : decode cL_tryDeep 8 = .ok (.ldc 15, 2) := by decide +kernel
theorem dL_tryDeep_10 : decode cL_tryDeep 10 = .ok (.ireturn, 1) := by decide +kernel
theorem dL_tryDeep_11 : decode cL_tryDeep 11 = .ok (.astore_n 3, 1) := by decide +kernel
theorem dL_tryDeep_12 : decode cL_tryDeep 12 = .ok (.ldc 18, 2) := by decide +kernel
theorem dL_tryDeep_14 : decode cL_tryDeep 14 = .ok (.ireturn, 1) := by decide +kernel
theorem dL_tryBest_0 : decode cL_tryBest 0 = .ok (.aload_n 0, 1) := by decide +kernel
theorem dL_tryBest_1 : decode cL_tryBest 1 = .ok (.iload_n 1, 1) := by decide +kernel
theorem dL_tryBest_2 : decode cL_tryBest 2 = .ok (.iload_n 2, 1) := by decide +kernel
theorem dL_tryBest_3 : decode cL_tryBest 3 = .ok (.iload_n 3, 1) := by decide +kernel
theorem dL_tryBest_4 : decode cL_tryBest 4 = .ok (.invokevirtual 100, 3) := by decide +kernel
theorem dL_tryBest_7 : decode cL_tryBest 7 = .ok (.ireturn, 1) := by decide +kernel
theorem dL_tryBest_8 : decode cL_tryBest 8 = .ok (.astore 4, 2) := by decide +kernel
theorem dL_tryBest_10 : decode cL_tryBest 10 = .ok (.ldc 15, 2) := by decide +kernel
theorem dL_tryBest_12 : decode cL_tryBest 12 = .ok (.ireturn, 1) := by decide +kernel
theorem dL_tryBest_13 : decode cL_tryBest 13 = .ok (.astore 4, 2) := by decide +kernel
theorem dL_tryBest_15 : decode cL_tryBest 15 = .ok (.ldc 18, 2) := by decide +kernel
theorem dL_tryBest_17 : decode cL_tryBest 17 = .ok (.ireturn, 1) := by decide +kernel
theorem dL_tryBest_18 : decode cL_tryBest 18 = .ok (.astore 4, 2) := by decide +kernel
theorem dL_tryBest_20 : decode cL_tryBest 20 = .ok (.ldc 21, 2) := by decide +kernel
theorem dL_tryBest_22 : decode cL_tryBest 22 = .ok (.ireturn, 1) := by decide +kernel
theorem dL_tryKeep_0 : decode cL_tryKeep 0 = .ok (.aload_n 0, 1) := by decide +kernel
theorem dL_tryKeep_1 : decode cL_tryKeep 1 = .ok (.iload_n 1, 1) := by decide +kernel
theorem dL_tryKeep_2 : decode cL_tryKeep 2 = .ok (.invokevirtual 103, 3) := by decide +kernel
theorem dL_tryKeep_5 : decode cL_tryKeep 5 = .ok (.ireturn, 1) := by decide +kernel
theorem dL_tryKeep_6 : decode cL_tryKeep 6 = .ok (.astore_n 2, 1) := by decide +kernel
theorem dL_tryKeep_7 : decode cL_tryKeep 7 = .ok (.ldc 15, 2) := by decide +kernel
theorem dL_tryKeep_9 : decode cL_tryKeep 9 = .ok (.ireturn, 1) := by decide +kernel
theorem dL_tryBack_0 : decode cL_tryBack 0 = .ok (.aload_n 0, 1) := by decide +kernel
theorem dL_tryBack_1 : decode cL_tryBack 1 = .ok (.iload_n 1, 1) := by decide +kernel
theorem dL_tryBack_2 : decode cL_tryBack 2 = .ok (.invokevirtual 106, 3) := by decide +kernel
theorem dL_tryBack_5 : decode cL_tryBack 5 = .ok (.ireturn, 1) := by decide +kernel
theorem dL_tryBack_6 : decode cL_tryBack 6 = .ok (.astore_n 2, 1) := by decide +kernel
theorem dL_tryBack_7 : decode cL_tryBack 7 = .ok (.ldc 15, 2) := by decide +kernel
theorem dL_tryBack_9 : decode cL_tryBack 9 = .ok (.ireturn, 1) := by decide +kernel
theorem dL_tryBack_10 : decode cL_tryBack 10 = .ok (.astore_n 2, 1) := by decide +kernel
theorem dL_tryBack_11 : decode cL_tryBack 11 = .ok (.ldc 21, 2) := by decide +kernel
theorem dL_tryBack_13 : decode cL_tryBack 13 = .ok (.ireturn, 1) := by decide +kernel
theorem dL_call_0 : decode cL_call 0 = .ok (.iload_n 1, 1) := by decide +kernel
theorem dL_call_1 : decode cL_call 1 = .ok (.tableswitch 259 0 22 #[107, 113, 118, 124, 131, 138, 145, 151, 158, 165, 171, 178, 185, 191, 200, 207, 213, 220, 226, 231, 237, 244, 253], 107) := by decide +kernel
theorem dL_call_108 : decode cL_call 108 = .ok (.aload_n 0, 1) := by decide +kernel
theorem dL_call_109 : decode cL_call 109 = .ok (.iload_n 2, 1) := by decide +kernel
theorem dL_call_110 : decode cL_call 110 = .ok (.invokestatic 109, 3) := by decide +kernel
theorem dL_call_113 : decode cL_call 113 = .ok (.ireturn, 1) := by decide +kernel
theorem dL_call_114 : decode cL_call 114 = .ok (.aload_n 0, 1) := by decide +kernel
theorem dL_call_115 : decode cL_call 115 = .ok (.invokestatic 115, 3) := by decide +kernel
theorem dL_call_118 : decode cL_call 118 = .ok (.ireturn, 1) := by decide +kernel
theorem dL_call_119 : decode cL_call 119 = .ok (.aload_n 0, 1) := by decide +kernel
theorem dL_call_120 : decode cL_call 120 = .ok (.iload_n 2, 1) := by decide +kernel
theorem dL_call_121 : decode cL_call 121 = .ok (.invokestatic 119, 3) := by decide +kernel
theorem dL_call_124 : decode cL_call 124 = .ok (.ireturn, 1) := by decide +kernel
theorem dL_call_125 : decode cL_call 125 = .ok (.aload_n 0, 1) := by decide +kernel
theorem dL_call_126 : decode cL_call 126 = .ok (.iload_n 2, 1) := by decide +kernel
theorem dL_call_127 : decode cL_call 127 = .ok (.iload_n 3, 1) := by decide +kernel
theorem dL_call_128 : decode cL_call 128 = .ok (.invokestatic 122, 3) := by decide +kernel
theorem dL_call_131 : decode cL_call 131 = .ok (.ireturn, 1) := by decide +kernel
theorem dL_call_132 : decode cL_call 132 = .ok (.aload_n 0, 1) := by decide +kernel
theorem dL_call_133 : decode cL_call 133 = .ok (.iload_n 2, 1) := by decide +kernel
theorem dL_call_134 : decode cL_call 134 = .ok (.iload_n 3, 1) := by decide +kernel
theorem dL_call_135 : decode cL_call 135 = .ok (.invokestatic 126, 3) := by decide +kernel
theorem dL_call_138 : decode cL_call 138 = .ok (.ireturn, 1) := by decide +kernel
theorem dL_call_139 : decode cL_call 139 = .ok (.aload_n 0, 1) := by decide +kernel
theorem dL_call_140 : decode cL_call 140 = .ok (.iload_n 2, 1) := by decide +kernel
theorem dL_call_141 : decode cL_call 141 = .ok (.iload_n 3, 1) := by decide +kernel
theorem dL_call_142 : decode cL_call 142 = .ok (.invokestatic 129, 3) := by decide +kernel
theorem dL_call_145 : decode cL_call 145 = .ok (.ireturn, 1) := by decide +kernel
theorem dL_call_146 : decode cL_call 146 = .ok (.aload_n 0, 1) := by decide +kernel
theorem dL_call_147 : decode cL_call 147 = .ok (.iload_n 2, 1) := by decide +kernel
theorem dL_call_148 : decode cL_call 148 = .ok (.invokestatic 132, 3) := by decide +kernel
theorem dL_call_151 : decode cL_call 151 = .ok (.ireturn, 1) := by decide +kernel
theorem dL_call_152 : decode cL_call 152 = .ok (.aload_n 0, 1) := by decide +kernel
theorem dL_call_153 : decode cL_call 153 = .ok (.iload_n 2, 1) := by decide +kernel
theorem dL_call_154 : decode cL_call 154 = .ok (.iload_n 3, 1) := by decide +kernel
theorem dL_call_155 : decode cL_call 155 = .ok (.invokestatic 135, 3) := by decide +kernel
theorem dL_call_158 : decode cL_call 158 = .ok (.ireturn, 1) := by decide +kernel
theorem dL_call_159 : decode cL_call 159 = .ok (.aload_n 0, 1) := by decide +kernel
theorem dL_call_160 : decode cL_call 160 = .ok (.iload_n 2, 1) := by decide +kernel
theorem dL_call_161 : decode cL_call 161 = .ok (.iload_n 3, 1) := by decide +kernel
theorem dL_call_162 : decode cL_call 162 = .ok (.invokestatic 138, 3) := by decide +kernel
theorem dL_call_165 : decode cL_call 165 = .ok (.ireturn, 1) := by decide +kernel
theorem dL_call_166 : decode cL_call 166 = .ok (.aload_n 0, 1) := by decide +kernel
theorem dL_call_167 : decode cL_call 167 = .ok (.iload_n 2, 1) := by decide +kernel
theorem dL_call_168 : decode cL_call 168 = .ok (.invokestatic 141, 3) := by decide +kernel
theorem dL_call_171 : decode cL_call 171 = .ok (.ireturn, 1) := by decide +kernel
theorem dL_call_172 : decode cL_call 172 = .ok (.aload_n 0, 1) := by decide +kernel
theorem dL_call_173 : decode cL_call 173 = .ok (.iload_n 2, 1) := by decide +kernel
theorem dL_call_174 : decode cL_call 174 = .ok (.iload_n 3, 1) := by decide +kernel
theorem dL_call_175 : decode cL_call 175 = .ok (.invokestatic 144, 3) := by decide +kernel
theorem dL_call_178 : decode cL_call 178 = .ok (.ireturn, 1) := by decide +kernel
theorem dL_call_179 : decode cL_call 179 = .ok (.aload_n 0, 1) := by decide +kernel
theorem dL_call_180 : decode cL_call 180 = .ok (.iload_n 2, 1) := by decide +kernel
theorem dL_call_181 : decode cL_call 181 = .ok (.iload_n 3, 1) := by decide +kernel
theorem dL_call_182 : decode cL_call 182 = .ok (.invokestatic 147, 3) := by decide +kernel
theorem dL_call_185 : decode cL_call 185 = .ok (.ireturn, 1) := by decide +kernel
theorem dL_call_186 : decode cL_call 186 = .ok (.aload_n 0, 1) := by decide +kernel
theorem dL_call_187 : decode cL_call 187 = .ok (.iload_n 2, 1) := by decide +kernel
theorem dL_call_188 : decode cL_call 188 = .ok (.invokestatic 150, 3) := by decide +kernel
theorem dL_call_191 : decode cL_call 191 = .ok (.ireturn, 1) := by decide +kernel
theorem dL_call_192 : decode cL_call 192 = .ok (.aload_n 0, 1) := by decide +kernel
theorem dL_call_193 : decode cL_call 193 = .ok (.iload_n 2, 1) := by decide +kernel
theorem dL_call_194 : decode cL_call 194 = .ok (.iload_n 3, 1) := by decide +kernel
theorem dL_call_195 : decode cL_call 195 = .ok (.iload 4, 2) := by decide +kernel
theorem dL_call_197 : decode cL_call 197 = .ok (.invokestatic 153, 3) := by decide +kernel
theorem dL_call_200 : decode cL_call 200 = .ok (.ireturn, 1) := by decide +kernel
theorem dL_call_201 : decode cL_call 201 = .ok (.aload_n 0, 1) := by decide +kernel
theorem dL_call_202 : decode cL_call 202 = .ok (.iload_n 2, 1) := by decide +kernel
theorem dL_call_203 : decode cL_call 203 = .ok (.iload_n 3, 1) := by decide +kernel
theorem dL_call_204 : decode cL_call 204 = .ok (.invokestatic 157, 3) := by decide +kernel
theorem dL_call_207 : decode cL_call 207 = .ok (.ireturn, 1) := by decide +kernel
theorem dL_call_208 : decode cL_call 208 = .ok (.aload_n 0, 1) := by decide +kernel
theorem dL_call_209 : decode cL_call 209 = .ok (.iload_n 2, 1) := by decide +kernel
theorem dL_call_210 : decode cL_call 210 = .ok (.invokestatic 160, 3) := by decide +kernel
theorem dL_call_213 : decode cL_call 213 = .ok (.ireturn, 1) := by decide +kernel
theorem dL_call_214 : decode cL_call 214 = .ok (.aload_n 0, 1) := by decide +kernel
theorem dL_call_215 : decode cL_call 215 = .ok (.iload_n 2, 1) := by decide +kernel
theorem dL_call_216 : decode cL_call 216 = .ok (.iload_n 3, 1) := by decide +kernel
theorem dL_call_217 : decode cL_call 217 = .ok (.invokestatic 163, 3) := by decide +kernel
theorem dL_call_220 : decode cL_call 220 = .ok (.ireturn, 1) := by decide +kernel
theorem dL_call_221 : decode cL_call 221 = .ok (.aload_n 0, 1) := by decide +kernel
theorem dL_call_222 : decode cL_call 222 = .ok (.iload_n 2, 1) := by decide +kernel
theorem dL_call_223 : decode cL_call 223 = .ok (.invokestatic 166, 3) := by decide +kernel
theorem dL_call_226 : decode cL_call 226 = .ok (.ireturn, 1) := by decide +kernel
theorem dL_call_227 : decode cL_call 227 = .ok (.aload_n 0, 1) := by decide +kernel
theorem dL_call_228 : decode cL_call 228 = .ok (.invokestatic 169, 3) := by decide +kernel
theorem dL_call_231 : decode cL_call 231 = .ok (.ireturn, 1) := by decide +kernel
theorem dL_call_232 : decode cL_call 232 = .ok (.aload_n 0, 1) := by decide +kernel
theorem dL_call_233 : decode cL_call 233 = .ok (.iload_n 2, 1) := by decide +kernel
theorem dL_call_234 : decode cL_call 234 = .ok (.invokestatic 172, 3) := by decide +kernel
theorem dL_call_237 : decode cL_call 237 = .ok (.ireturn, 1) := by decide +kernel
theorem dL_call_238 : decode cL_call 238 = .ok (.aload_n 0, 1) := by decide +kernel
theorem dL_call_239 : decode cL_call 239 = .ok (.iload_n 2, 1) := by decide +kernel
theorem dL_call_240 : decode cL_call 240 = .ok (.iload_n 3, 1) := by decide +kernel
theorem dL_call_241 : decode cL_call 241 = .ok (.invokestatic 175, 3) := by decide +kernel
theorem dL_call_244 : decode cL_call 244 = .ok (.ireturn, 1) := by decide +kernel
theorem dL_call_245 : decode cL_call 245 = .ok (.aload_n 0, 1) := by decide +kernel
theorem dL_call_246 : decode cL_call 246 = .ok (.iload_n 2, 1) := by decide +kernel
theorem dL_call_247 : decode cL_call 247 = .ok (.iload_n 3, 1) := by decide +kernel
theorem dL_call_248 : decode cL_call 248 = .ok (.iload 4, 2) := by decide +kernel
theorem dL_call_250 : decode cL_call 250 = .ok (.invokestatic 178, 3) := by decide +kernel
theorem dL_call_253 : decode cL_call 253 = .ok (.ireturn, 1) := by decide +kernel
theorem dL_call_254 : decode cL_call 254 = .ok (.aload_n 0, 1) := by decide +kernel
theorem dL_call_255 : decode cL_call 255 = .ok (.iload_n 2, 1) := by decide +kernel
theorem dL_call_256 : decode cL_call 256 = .ok (.invokestatic 181, 3) := by decide +kernel
theorem dL_call_259 : decode cL_call 259 = .ok (.ireturn, 1) := by decide +kernel
theorem dL_call_260 : decode cL_call 260 = .ok (.aload_n 0, 1) := by decide +kernel
theorem dL_call_261 : decode cL_call 261 = .ok (.iload_n 2, 1) := by decide +kernel
theorem dL_call_262 : decode cL_call 262 = .ok (.invokestatic 184, 3) := by decide +kernel
theorem dL_call_265 : decode cL_call 265 = .ok (.ireturn, 1) := by decide +kernel
theorem dL_cell_0 : decode cL_cell 0 = .ok (.iload_n 1, 1) := by decide +kernel
theorem dL_cell_1 : decode cL_cell 1 = .ok (.aload_n 0, 1) := by decide +kernel
theorem dL_cell_2 : decode cL_cell 2 = .ok (.arraylength, 1) := by decide +kernel
theorem dL_cell_3 : decode cL_cell 3 = .ok (.if_icmp .ge 9, 3) := by decide +kernel
theorem dL_cell_6 : decode cL_cell 6 = .ok (.aload_n 0, 1) := by decide +kernel
theorem dL_cell_7 : decode cL_cell 7 = .ok (.iload_n 1, 1) := by decide +kernel
theorem dL_cell_8 : decode cL_cell 8 = .ok (.iaload, 1) := by decide +kernel
theorem dL_cell_9 : decode cL_cell 9 = .ok (.goto 13, 3) := by decide +kernel
theorem dL_cell_12 : decode cL_cell 12 = .ok (.ldc 187, 2) := by decide +kernel
theorem dL_cell_14 : decode cL_cell 14 = .ok (.iload_n 1, 1) := by decide +kernel
theorem dL_cell_15 : decode cL_cell 15 = .ok (.iconst 3, 1) := by decide +kernel
theorem dL_cell_16 : decode cL_cell 16 = .ok (.iadd, 1) := by decide +kernel
theorem dL_cell_17 : decode cL_cell 17 = .ok (.imul, 1) := by decide +kernel
theorem dL_cell_18 : decode cL_cell 18 = .ok (.sipush 11789, 3) := by decide +kernel
theorem dL_cell_21 : decode cL_cell 21 = .ok (.iadd, 1) := by decide +kernel
theorem dL_cell_22 : decode cL_cell 22 = .ok (.ldc 188, 2) := by decide +kernel
theorem dL_cell_24 : decode cL_cell 24 = .ok (.iand, 1) := by decide +kernel
theorem dL_cell_25 : decode cL_cell 25 = .ok (.ireturn, 1) := by decide +kernel
theorem dL_thrown_0 : decode cL_thrown 0 = .ok (.iload_n 0, 1) := by decide +kernel
theorem dL_thrown_1 : decode cL_thrown 1 = .ok (.ldc 15, 2) := by decide +kernel
theorem dL_thrown_3 : decode cL_thrown 3 = .ok (.if_icmp .eq 15, 3) := by decide +kernel
theorem dL_thrown_6 : decode cL_thrown 6 = .ok (.iload_n 0, 1) := by decide +kernel
theorem dL_thrown_7 : decode cL_thrown 7 = .ok (.ldc 18, 2) := by decide +kernel
theorem dL_thrown_9 : decode cL_thrown 9 = .ok (.if_icmp .eq 9, 3) := by decide +kernel
theorem dL_thrown_12 : decode cL_thrown 12 = .ok (.iload_n 0, 1) := by decide +kernel
theorem dL_thrown_13 : decode cL_thrown 13 = .ok (.ldc 21, 2) := by decide +kernel
theorem dL_thrown_15 : decode cL_thrown 15 = .ok (.if_icmp .ne 7, 3) := by decide +kernel
theorem dL_thrown_18 : decode cL_thrown 18 = .ok (.iconst 1, 1) := by decide +kernel
theorem dL_thrown_19 : decode cL_thrown 19 = .ok (.goto 4, 3) := by decide +kernel
theorem dL_thrown_22 : decode cL_thrown 22 = .ok (.iconst 0, 1) := by decide +kernel
theorem dL_thrown_23 : decode cL_thrown 23 = .ok (.ireturn, 1) := by decide +kernel
theorem dL_refuses_0 : decode cL_refuses 0 = .ok (.aload_n 0, 1) := by decide +kernel
theorem dL_refuses_1 : decode cL_refuses 1 = .ok (.iconst 2, 1) := by decide +kernel
theorem dL_refuses_2 : decode cL_refuses 2 = .ok (.iconst 0, 1) := by decide +kernel
theorem dL_refuses_3 : decode cL_refuses 3 = .ok (.iconst 0, 1) := by decide +kernel
theorem dL_refuses_4 : decode cL_refuses 4 = .ok (.iconst 0, 1) := by decide +kernel
theorem dL_refuses_5 : decode cL_refuses 5 = .ok (.invokestatic 189, 3) := by decide +kernel
theorem dL_refuses_8 : decode cL_refuses 8 = .ok (.istore_n 2, 1) := by decide +kernel
theorem dL_refuses_9 : decode cL_refuses 9 = .ok (.aload_n 0, 1) := by decide +kernel
theorem dL_refuses_10 : decode cL_refuses 10 = .ok (.iconst 2, 1) := by decide +kernel
theorem dL_refuses_11 : decode cL_refuses 11 = .ok (.iconst 1, 1) := by decide +kernel
theorem dL_refuses_12 : decode cL_refuses 12 = .ok (.iconst 0, 1) := by decide +kernel
theorem dL_refuses_13 : decode cL_refuses 13 = .ok (.iconst 0, 1) := by decide +kernel
theorem dL_refuses_14 : decode cL_refuses 14 = .ok (.invokestatic 189, 3) := by decide +kernel
theorem dL_refuses_17 : decode cL_refuses 17 = .ok (.istore_n 3, 1) := by decide +kernel
theorem dL_refuses_18 : decode cL_refuses 18 = .ok (.aload_n 0, 1) := by decide +kernel
theorem dL_refuses_19 : decode cL_refuses 19 = .ok (.iconst 2, 1) := by decide +kernel
theorem dL_refuses_20 : decode cL_refuses 20 = .ok (.iconst 2, 1) := by decide +kernel
theorem dL_refuses_21 : decode cL_refuses 21 = .ok (.iconst 0, 1) := by decide +kernel
theorem dL_refuses_22 : decode cL_refuses 22 = .ok (.iconst 0, 1) := by decide +kernel
theorem dL_refuses_23 : decode cL_refuses 23 = .ok (.invokestatic 189, 3) := by decide +kernel
theorem dL_refuses_26 : decode cL_refuses 26 = .ok (.istore 4, 2) := by decide +kernel
theorem dL_refuses_28 : decode cL_refuses 28 = .ok (.aload_n 0, 1) := by decide +kernel
theorem dL_refuses_29 : decode cL_refuses 29 = .ok (.iconst 2, 1) := by decide +kernel
theorem dL_refuses_30 : decode cL_refuses 30 = .ok (.bipush 10, 2) := by decide +kernel
theorem dL_refuses_32 : decode cL_refuses 32 = .ok (.iconst 0, 1) := by decide +kernel
theorem dL_refuses_33 : decode cL_refuses 33 = .ok (.iconst 0, 1) := by decide +kernel
theorem dL_refuses_34 : decode cL_refuses 34 = .ok (.invokestatic 189, 3) := by decide +kernel
theorem dL_refuses_37 : decode cL_refuses 37 = .ok (.istore 5, 2) := by decide +kernel
theorem dL_refuses_39 : decode cL_refuses 39 = .ok (.iload_n 1, 1) := by decide +kernel
theorem dL_refuses_40 : decode cL_refuses 40 = .ok (.iconst 2, 1) := by decide +kernel
theorem dL_refuses_41 : decode cL_refuses 41 = .ok (.irem, 1) := by decide +kernel
theorem dL_refuses_42 : decode cL_refuses 42 = .ok (.ifCond .ne 12, 3) := by decide +kernel
theorem dL_refuses_45 : decode cL_refuses 45 = .ok (.iconst (-1), 1) := by decide +kernel
theorem dL_refuses_46 : decode cL_refuses 46 = .ok (.iload_n 1, 1) := by decide +kernel
theorem dL_refuses_47 : decode cL_refuses 47 = .ok (.bipush 99, 2) := by decide +kernel
theorem dL_refuses_49 : decode cL_refuses 49 = .ok (.irem, 1) := by decide +kernel
theorem dL_refuses_50 : decode cL_refuses 50 = .ok (.isub, 1) := by decide +kernel
theorem dL_refuses_51 : decode cL_refuses 51 = .ok (.goto 9, 3) := by decide +kernel
theorem dL_refuses_54 : decode cL_refuses 54 = .ok (.iload_n 2, 1) := by decide +kernel
theorem dL_refuses_55 : decode cL_refuses 55 = .ok (.iload_n 1, 1) := by decide +kernel
theorem dL_refuses_56 : decode cL_refuses 56 = .ok (.bipush 99, 2) := by decide +kernel
theorem dL_refuses_58 : decode cL_refuses 58 = .ok (.irem, 1) := by decide +kernel
theorem dL_refuses_59 : decode cL_refuses 59 = .ok (.iadd, 1) := by decide +kernel
theorem dL_refuses_60 : decode cL_refuses 60 = .ok (.istore 6, 2) := by decide +kernel
theorem dL_refuses_62 : decode cL_refuses 62 = .ok (.iload_n 1, 1) := by decide +kernel
theorem dL_refuses_63 : decode cL_refuses 63 = .ok (.iconst 2, 1) := by decide +kernel
theorem dL_refuses_64 : decode cL_refuses 64 = .ok (.irem, 1) := by decide +kernel
theorem dL_refuses_65 : decode cL_refuses 65 = .ok (.ifCond .ne 12, 3) := by decide +kernel
theorem dL_refuses_68 : decode cL_refuses 68 = .ok (.iconst (-1), 1) := by decide +kernel
theorem dL_refuses_69 : decode cL_refuses 69 = .ok (.iload_n 1, 1) := by decide +kernel
theorem dL_refuses_70 : decode cL_refuses 70 = .ok (.bipush 99, 2) := by decide +kernel
theorem dL_refuses_72 : decode cL_refuses 72 = .ok (.irem, 1) := by decide +kernel
theorem dL_refuses_73 : decode cL_refuses 73 = .ok (.isub, 1) := by decide +kernel
theorem dL_refuses_74 : decode cL_refuses 74 = .ok (.goto 9, 3) := by decide +kernel
theorem dL_refuses_77 : decode cL_refuses 77 = .ok (.iload_n 3, 1) := by decide +kernel
theorem dL_refuses_78 : decode cL_refuses 78 = .ok (.iload_n 1, 1) := by decide +kernel
theorem dL_refuses_79 : decode cL_refuses 79 = .ok (.bipush 99, 2) := by decide +kernel
theorem dL_refuses_81 : decode cL_refuses 81 = .ok (.irem, 1) := by decide +kernel
theorem dL_refuses_82 : decode cL_refuses 82 = .ok (.iadd, 1) := by decide +kernel
theorem dL_refuses_83 : decode cL_refuses 83 = .ok (.istore 7, 2) := by decide +kernel
theorem dL_refuses_85 : decode cL_refuses 85 = .ok (.iload_n 1, 1) := by decide +kernel
theorem dL_refuses_86 : decode cL_refuses 86 = .ok (.iconst 2, 1) := by decide +kernel
theorem dL_refuses_87 : decode cL_refuses 87 = .ok (.irem, 1) := by decide +kernel
theorem dL_refuses_88 : decode cL_refuses 88 = .ok (.ifCond .ne 12, 3) := by decide +kernel
theorem dL_refuses_91 : decode cL_refuses 91 = .ok (.iconst (-1), 1) := by decide +kernel
theorem dL_refuses_92 : decode cL_refuses 92 = .ok (.iload_n 1, 1) := by decide +kernel
theorem dL_refuses_93 : decode cL_refuses 93 = .ok (.bipush 99, 2) := by decide +kernel
theorem dL_refuses_95 : decode cL_refuses 95 = .ok (.irem, 1) := by decide +kernel
theorem dL_refuses_96 : decode cL_refuses 96 = .ok (.isub, 1) := by decide +kernel
theorem dL_refuses_97 : decode cL_refuses 97 = .ok (.goto 10, 3) := by decide +kernel
theorem dL_refuses_100 : decode cL_refuses 100 = .ok (.iload 4, 2) := by decide +kernel
theorem dL_refuses_102 : decode cL_refuses 102 = .ok (.iload_n 1, 1) := by decide +kernel
theorem dL_refuses_103 : decode cL_refuses 103 = .ok (.bipush 99, 2) := by decide +kernel
theorem dL_refuses_105 : decode cL_refuses 105 = .ok (.irem, 1) := by decide +kernel
theorem dL_refuses_106 : decode cL_refuses 106 = .ok (.iadd, 1) := by decide +kernel
theorem dL_refuses_107 : decode cL_refuses 107 = .ok (.istore 8, 2) := by decide +kernel
theorem dL_refuses_109 : decode cL_refuses 109 = .ok (.iload_n 1, 1) := by decide +kernel
theorem dL_refuses_110 : decode cL_refuses 110 = .ok (.iconst 2, 1) := by decide +kernel
theorem dL_refuses_111 : decode cL_refuses 111 = .ok (.irem, 1) := by decide +kernel
theorem dL_refuses_112 : decode cL_refuses 112 = .ok (.ifCond .ne 12, 3) := by decide +kernel
theorem dL_refuses_115 : decode cL_refuses 115 = .ok (.iconst (-1), 1) := by decide +kernel
theorem dL_refuses_116 : decode cL_refuses 116 = .ok (.iload_n 1, 1) := by decide +kernel
theorem dL_refuses_117 : decode cL_refuses 117 = .ok (.bipush 99, 2) := by decide +kernel
theorem dL_refuses_119 : decode cL_refuses 119 = .ok (.irem, 1) := by decide +kernel
theorem dL_refuses_120 : decode cL_refuses 120 = .ok (.isub, 1) := by decide +kernel
theorem dL_refuses_121 : decode cL_refuses 121 = .ok (.goto 16, 3) := by decide +kernel
theorem dL_refuses_124 : decode cL_refuses 124 = .ok (.aload_n 0, 1) := by decide +kernel
theorem dL_refuses_125 : decode cL_refuses 125 = .ok (.iconst 3, 1) := by decide +kernel
theorem dL_refuses_126 : decode cL_refuses 126 = .ok (.iconst 0, 1) := by decide +kernel
theorem dL_refuses_127 : decode cL_refuses 127 = .ok (.iconst 0, 1) := by decide +kernel
theorem dL_refuses_128 : decode cL_refuses 128 = .ok (.iconst 0, 1) := by decide +kernel
theorem dL_refuses_129 : decode cL_refuses 129 = .ok (.invokestatic 189, 3) := by decide +kernel
theorem dL_refuses_132 : decode cL_refuses 132 = .ok (.iload_n 1, 1) := by decide +kernel
theorem dL_refuses_133 : decode cL_refuses 133 = .ok (.bipush 99, 2) := by decide +kernel
theorem dL_refuses_135 : decode cL_refuses 135 = .ok (.irem, 1) := by decide +kernel
theorem dL_refuses_136 : decode cL_refuses 136 = .ok (.iadd, 1) := by decide +kernel
theorem dL_refuses_137 : decode cL_refuses 137 = .ok (.istore 9, 2) := by decide +kernel
theorem dL_refuses_139 : decode cL_refuses 139 = .ok (.aload_n 0, 1) := by decide +kernel
theorem dL_refuses_140 : decode cL_refuses 140 = .ok (.iconst 0, 1) := by decide +kernel
theorem dL_refuses_141 : decode cL_refuses 141 = .ok (.iload_n 1, 1) := by decide +kernel
theorem dL_refuses_142 : decode cL_refuses 142 = .ok (.iconst 2, 1) := by decide +kernel
theorem dL_refuses_143 : decode cL_refuses 143 = .ok (.irem, 1) := by decide +kernel
theorem dL_refuses_144 : decode cL_refuses 144 = .ok (.ifCond .ne 12, 3) := by decide +kernel
theorem dL_refuses_147 : decode cL_refuses 147 = .ok (.iconst (-1), 1) := by decide +kernel
theorem dL_refuses_148 : decode cL_refuses 148 = .ok (.iload_n 1, 1) := by decide +kernel
theorem dL_refuses_149 : decode cL_refuses 149 = .ok (.bipush 9, 2) := by decide +kernel
theorem dL_refuses_151 : decode cL_refuses 151 = .ok (.irem, 1) := by decide +kernel
theorem dL_refuses_152 : decode cL_refuses 152 = .ok (.isub, 1) := by decide +kernel
theorem dL_refuses_153 : decode cL_refuses 153 = .ok (.goto 11, 3) := by decide +kernel
theorem dL_refuses_156 : decode cL_refuses 156 = .ok (.sipush 256, 3) := by decide +kernel
theorem dL_refuses_159 : decode cL_refuses 159 = .ok (.iload_n 1, 1) := by decide +kernel
theorem dL_refuses_160 : decode cL_refuses 160 = .ok (.bipush 9, 2) := by decide +kernel
theorem dL_refuses_162 : decode cL_refuses 162 = .ok (.irem, 1) := by decide +kernel
theorem dL_refuses_163 : decode cL_refuses 163 = .ok (.iadd, 1) := by decide +kernel
theorem dL_refuses_164 : decode cL_refuses 164 = .ok (.iconst 0, 1) := by decide +kernel
theorem dL_refuses_165 : decode cL_refuses 165 = .ok (.iconst 0, 1) := by decide +kernel
theorem dL_refuses_166 : decode cL_refuses 166 = .ok (.invokestatic 189, 3) := by decide +kernel
theorem dL_refuses_169 : decode cL_refuses 169 = .ok (.ldc 18, 2) := by decide +kernel
theorem dL_refuses_171 : decode cL_refuses 171 = .ok (.if_icmp .ne 797, 3) := by decide +kernel
theorem dL_refuses_174 : decode cL_refuses 174 = .ok (.aload_n 0, 1) := by decide +kernel
theorem dL_refuses_175 : decode cL_refuses 175 = .ok (.iconst 2, 1) := by decide +kernel
theorem dL_refuses_176 : decode cL_refuses 176 = .ok (.bipush 13, 2) := by decide +kernel
theorem dL_refuses_178 : decode cL_refuses 178 = .ok (.iload_n 1, 1) := by decide +kernel
theorem dL_refuses_179 : decode cL_refuses 179 = .ok (.bipush 50, 2) := by decide +kernel
theorem dL_refuses_181 : decode cL_refuses 181 = .ok (.irem, 1) := by decide +kernel
theorem dL_refuses_182 : decode cL_refuses 182 = .ok (.iadd, 1) := by decide +kernel
theorem dL_refuses_183 : decode cL_refuses 183 = .ok (.iconst 0, 1) := by decide +kernel
theorem dL_refuses_184 : decode cL_refuses 184 = .ok (.iconst 0, 1) := by decide +kernel
theorem dL_refuses_185 : decode cL_refuses 185 = .ok (.invokestatic 189, 3) := by decide +kernel
theorem dL_refuses_188 : decode cL_refuses 188 = .ok (.ldc 18, 2) := by decide +kernel
theorem dL_refuses_190 : decode cL_refuses 190 = .ok (.if_icmp .ne 778, 3) := by decide +kernel
theorem dL_refuses_193 : decode cL_refuses 193 = .ok (.aload_n 0, 1) := by decide +kernel
theorem dL_refuses_194 : decode cL_refuses 194 = .ok (.iconst 3, 1) := by decide +kernel
theorem dL_refuses_195 : decode cL_refuses 195 = .ok (.iload 6, 2) := by decide +kernel
theorem dL_refuses_197 : decode cL_refuses 197 = .ok (.bipush 99, 2) := by decide +kernel
theorem dL_refuses_199 : decode cL_refuses 199 = .ok (.iconst 0, 1) := by decide +kernel
theorem dL_refuses_200 : decode cL_refuses 200 = .ok (.invokestatic 189, 3) := by decide +kernel
theorem dL_refuses_203 : decode cL_refuses 203 = .ok (.ldc 15, 2) := by decide +kernel
theorem dL_refuses_205 : decode cL_refuses 205 = .ok (.if_icmp .ne 763, 3) := by decide +kernel
theorem dL_refuses_208 : decode cL_refuses 208 = .ok (.aload_n 0, 1) := by decide +kernel
theorem dL_refuses_209 : decode cL_refuses 209 = .ok (.iconst 3, 1) := by decide +kernel
theorem dL_refuses_210 : decode cL_refuses 210 = .ok (.iconst 0, 1) := by decide +kernel
theorem dL_refuses_211 : decode cL_refuses 211 = .ok (.bipush 6, 2) := by decide +kernel
theorem dL_refuses_213 : decode cL_refuses 213 = .ok (.iload_n 1, 1) := by decide +kernel
theorem dL_refuses_214 : decode cL_refuses 214 = .ok (.bipush 9, 2) := by decide +kernel
theorem dL_refuses_216 : decode cL_refuses 216 = .ok (.irem, 1) := by decide +kernel
theorem dL_refuses_217 : decode cL_refuses 217 = .ok (.iadd, 1) := by decide +kernel
theorem dL_refuses_218 : decode cL_refuses 218 = .ok (.iconst 0, 1) := by decide +kernel
theorem dL_refuses_219 : decode cL_refuses 219 = .ok (.invokestatic 189, 3) := by decide +kernel
theorem dL_refuses_222 : decode cL_refuses 222 = .ok (.ldc 18, 2) := by decide +kernel
theorem dL_refuses_224 : decode cL_refuses 224 = .ok (.if_icmp .ne 744, 3) := by decide +kernel
theorem dL_refuses_227 : decode cL_refuses 227 = .ok (.aload_n 0, 1) := by decide +kernel
theorem dL_refuses_228 : decode cL_refuses 228 = .ok (.iconst 4, 1) := by decide +kernel
theorem dL_refuses_229 : decode cL_refuses 229 = .ok (.iload 7, 2) := by decide +kernel
theorem dL_refuses_231 : decode cL_refuses 231 = .ok (.bipush 99, 2) := by decide +kernel
theorem dL_refuses_233 : decode cL_refuses 233 = .ok (.iconst 0, 1) := by decide +kernel
theorem dL_refuses_234 : decode cL_refuses 234 = .ok (.invokestatic 189, 3) := by decide +kernel
theorem dL_refuses_237 : decode cL_refuses 237 = .ok (.ldc 15, 2) := by decide +kernel
theorem dL_refuses_239 : decode cL_refuses 239 = .ok (.if_icmp .ne 729, 3) := by decide +kernel
theorem dL_refuses_242 : decode cL_refuses 242 = .ok (.aload_n 0, 1) := by decide +kernel
theorem dL_refuses_243 : decode cL_refuses 243 = .ok (.iconst 5, 1) := by decide +kernel
theorem dL_refuses_244 : decode cL_refuses 244 = .ok (.iload 8, 2) := by decide +kernel
theorem dL_refuses_246 : decode cL_refuses 246 = .ok (.bipush 99, 2) := by decide +kernel
theorem dL_refuses_248 : decode cL_refuses 248 = .ok (.iconst 0, 1) := by decide +kernel
theorem dL_refuses_249 : decode cL_refuses 249 = .ok (.invokestatic 189, 3) := by decide +kernel
theorem dL_refuses_252 : decode cL_refuses 252 = .ok (.ldc 15, 2) := by decide +kernel
theorem dL_refuses_254 : decode cL_refuses 254 = .ok (.if_icmp .ne 714, 3) := by decide +kernel
theorem dL_refuses_257 : decode cL_refuses 257 = .ok (.aload_n 0, 1) := by decide +kernel
theorem dL_refuses_258 : decode cL_refuses 258 = .ok (.bipush 6, 2) := by decide +kernel
theorem dL_refuses_260 : decode cL_refuses 260 = .ok (.iconst 4, 1) := by decide +kernel
theorem dL_refuses_261 : decode cL_refuses 261 = .ok (.iload_n 1, 1) := by decide +kernel
theorem dL_refuses_262 : decode cL_refuses 262 = .ok (.bipush 9, 2) := by decide +kernel
theorem dL_refuses_264 : decode cL_refuses 264 = .ok (.irem, 1) := by decide +kernel
theorem dL_refuses_265 : decode cL_refuses 265 = .ok (.iadd, 1) := by decide +kernel
theorem dL_refuses_266 : decode cL_refuses 266 = .ok (.iconst 0, 1) := by decide +kernel
theorem dL_refuses_267 : decode cL_refuses 267 = .ok (.iconst 0, 1) := by decide +kernel
theorem dL_refuses_268 : decode cL_refuses 268 = .ok (.invokestatic 189, 3) := by decide +kernel
theorem dL_refuses_271 : decode cL_refuses 271 = .ok (.ldc 18, 2) := by decide +kernel
theorem dL_refuses_273 : decode cL_refuses 273 = .ok (.if_icmp .ne 695, 3) := by decide +kernel
theorem dL_refuses_276 : decode cL_refuses 276 = .ok (.aload_n 0, 1) := by decide +kernel
theorem dL_refuses_277 : decode cL_refuses 277 = .ok (.bipush 7, 2) := by decide +kernel
theorem dL_refuses_279 : decode cL_refuses 279 = .ok (.iload 5, 2) := by decide +kernel
theorem dL_refuses_281 : decode cL_refuses 281 = .ok (.iload_n 1, 1) := by decide +kernel
theorem dL_refuses_282 : decode cL_refuses 282 = .ok (.bipush 9, 2) := by decide +kernel
theorem dL_refuses_284 : decode cL_refuses 284 = .ok (.irem, 1) := by decide +kernel
theorem dL_refuses_285 : decode cL_refuses 285 = .ok (.iadd, 1) := by decide +kernel
theorem dL_refuses_286 : decode cL_refuses 286 = .ok (.bipush 99, 2) := by decide +kernel
theorem dL_refuses_288 : decode cL_refuses 288 = .ok (.iconst 0, 1) := by decide +kernel
theorem dL_refuses_289 : decode cL_refuses 289 = .ok (.invokestatic 189, 3) := by decide +kernel
theorem dL_refuses_292 : decode cL_refuses 292 = .ok (.ldc 15, 2) := by decide +kernel
theorem dL_refuses_294 : decode cL_refuses 294 = .ok (.if_icmp .ne 674, 3) := by decide +kernel
theorem dL_refuses_297 : decode cL_refuses 297 = .ok (.aload_n 0, 1) := by decide +kernel
theorem dL_refuses_298 : decode cL_refuses 298 = .ok (.bipush 8, 2) := by decide +kernel
theorem dL_refuses_300 : decode cL_refuses 300 = .ok (.iload 6, 2) := by decide +kernel
theorem dL_refuses_302 : decode cL_refuses 302 = .ok (.bipush 9, 2) := by decide +kernel
theorem dL_refuses_304 : decode cL_refuses 304 = .ok (.iconst 0, 1) := by decide +kernel
theorem dL_refuses_305 : decode cL_refuses 305 = .ok (.invokestatic 189, 3) := by decide +kernel
theorem dL_refuses_308 : decode cL_refuses 308 = .ok (.ldc 15, 2) := by decide +kernel
theorem dL_refuses_310 : decode cL_refuses 310 = .ok (.if_icmp .ne 658, 3) := by decide +kernel
theorem dL_refuses_313 : decode cL_refuses 313 = .ok (.aload_n 0, 1) := by decide +kernel
theorem dL_refuses_314 : decode cL_refuses 314 = .ok (.bipush 8, 2) := by decide +kernel
theorem dL_refuses_316 : decode cL_refuses 316 = .ok (.iconst 0, 1) := by decide +kernel
theorem dL_refuses_317 : decode cL_refuses 317 = .ok (.iconst 2, 1) := by decide +kernel
theorem dL_refuses_318 : decode cL_refuses 318 = .ok (.iload_n 1, 1) := by decide +kernel
theorem dL_refuses_319 : decode cL_refuses 319 = .ok (.bipush 9, 2) := by decide +kernel
theorem dL_refuses_321 : decode cL_refuses 321 = .ok (.irem, 1) := by decide +kernel
theorem dL_refuses_322 : decode cL_refuses 322 = .ok (.iadd, 1) := by decide +kernel
theorem dL_refuses_323 : decode cL_refuses 323 = .ok (.iconst 0, 1) := by decide +kernel
theorem dL_refuses_324 : decode cL_refuses 324 = .ok (.invokestatic 189, 3) := by decide +kernel
theorem dL_refuses_327 : decode cL_refuses 327 = .ok (.ldc 18, 2) := by decide +kernel
theorem dL_refuses_329 : decode cL_refuses 329 = .ok (.if_icmp .ne 639, 3) := by decide +kernel
theorem dL_refuses_332 : decode cL_refuses 332 = .ok (.aload_n 0, 1) := by decide +kernel
theorem dL_refuses_333 : decode cL_refuses 333 = .ok (.bipush 9, 2) := by decide +kernel
theorem dL_refuses_335 : decode cL_refuses 335 = .ok (.iload_n 1, 1) := by decide +kernel
theorem dL_refuses_336 : decode cL_refuses 336 = .ok (.iconst 2, 1) := by decide +kernel
theorem dL_refuses_337 : decode cL_refuses 337 = .ok (.irem, 1) := by decide +kernel
theorem dL_refuses_338 : decode cL_refuses 338 = .ok (.ifCond .ne 7, 3) := by decide +kernel
theorem dL_refuses_341 : decode cL_refuses 341 = .ok (.iconst 0, 1) := by decide +kernel
theorem dL_refuses_342 : decode cL_refuses 342 = .ok (.goto 10, 3) := by decide +kernel
theorem dL_refuses_345 : decode cL_refuses 345 = .ok (.bipush 61, 2) := by decide +kernel
theorem dL_refuses_347 : decode cL_refuses 347 = .ok (.iload_n 1, 1) := by decide +kernel
theorem dL_refuses_348 : decode cL_refuses 348 = .ok (.bipush 9, 2) := by decide +kernel
theorem dL_refuses_350 : decode cL_refuses 350 = .ok (.irem, 1) := by decide +kernel
theorem dL_refuses_351 : decode cL_refuses 351 = .ok (.iadd, 1) := by decide +kernel
theorem dL_refuses_352 : decode cL_refuses 352 = .ok (.iconst 0, 1) := by decide +kernel
theorem dL_refuses_353 : decode cL_refuses 353 = .ok (.iconst 0, 1) := by decide +kernel
theorem dL_refuses_354 : decode cL_refuses 354 = .ok (.invokestatic 189, 3) := by decide +kernel
theorem dL_refuses_357 : decode cL_refuses 357 = .ok (.ldc 18, 2) := by decide +kernel
theorem dL_refuses_359 : decode cL_refuses 359 = .ok (.if_icmp .ne 609, 3) := by decide +kernel
theorem dL_refuses_362 : decode cL_refuses 362 = .ok (.aload_n 0, 1) := by decide +kernel
theorem dL_refuses_363 : decode cL_refuses 363 = .ok (.bipush 10, 2) := by decide +kernel
theorem dL_refuses_365 : decode cL_refuses 365 = .ok (.iload 6, 2) := by decide +kernel
theorem dL_refuses_367 : decode cL_refuses 367 = .ok (.bipush 9, 2) := by decide +kernel
theorem dL_refuses_369 : decode cL_refuses 369 = .ok (.iconst 0, 1) := by decide +kernel
theorem dL_refuses_370 : decode cL_refuses 370 = .ok (.invokestatic 189, 3) := by decide +kernel
theorem dL_refuses_373 : decode cL_refuses 373 = .ok (.ldc 15, 2) := by decide +kernel
theorem dL_refuses_375 : decode cL_refuses 375 = .ok (.if_icmp .ne 593, 3) := by decide +kernel
theorem dL_refuses_378 : decode cL_refuses 378 = .ok (.aload_n 0, 1) := by decide +kernel
theorem dL_refuses_379 : decode cL_refuses 379 = .ok (.bipush 10, 2) := by decide +kernel
theorem dL_refuses_381 : decode cL_refuses 381 = .ok (.iconst 0, 1) := by decide +kernel
theorem dL_refuses_382 : decode cL_refuses 382 = .ok (.iload_n 1, 1) := by decide +kernel
theorem dL_refuses_383 : decode cL_refuses 383 = .ok (.iconst 2, 1) := by decide +kernel
theorem dL_refuses_384 : decode cL_refuses 384 = .ok (.irem, 1) := by decide +kernel
theorem dL_refuses_385 : decode cL_refuses 385 = .ok (.ifCond .ne 7, 3) := by decide +kernel
theorem dL_refuses_388 : decode cL_refuses 388 = .ok (.iconst 0, 1) := by decide +kernel
theorem dL_refuses_389 : decode cL_refuses 389 = .ok (.goto 10, 3) := by decide +kernel
theorem dL_refuses_392 : decode cL_refuses 392 = .ok (.bipush 6, 2) := by decide +kernel
theorem dL_refuses_394 : decode cL_refuses 394 = .ok (.iload_n 1, 1) := by decide +kernel
theorem dL_refuses_395 : decode cL_refuses 395 = .ok (.bipush 9, 2) := by decide +kernel
theorem dL_refuses_397 : decode cL_refuses 397 = .ok (.irem, 1) := by decide +kernel
theorem dL_refuses_398 : decode cL_refuses 398 = .ok (.iadd, 1) := by decide +kernel
theorem dL_refuses_399 : decode cL_refuses 399 = .ok (.iconst 0, 1) := by decide +kernel
theorem dL_refuses_400 : decode cL_refuses 400 = .ok (.invokestatic 189, 3) := by decide +kernel
theorem dL_refuses_403 : decode cL_refuses 403 = .ok (.ldc 18, 2) := by decide +kernel
theorem dL_refuses_405 : decode cL_refuses 405 = .ok (.if_icmp .ne 563, 3) := by decide +kernel
theorem dL_refuses_408 : decode cL_refuses 408 = .ok (.aload_n 0, 1) := by decide +kernel
theorem dL_refuses_409 : decode cL_refuses 409 = .ok (.bipush 11, 2) := by decide +kernel
theorem dL_refuses_411 : decode cL_refuses 411 = .ok (.iload 7, 2) := by decide +kernel
theorem dL_refuses_413 : decode cL_refuses 413 = .ok (.iconst 0, 1) := by decide +kernel
theorem dL_refuses_414 : decode cL_refuses 414 = .ok (.iconst 0, 1) := by decide +kernel
theorem dL_refuses_415 : decode cL_refuses 415 = .ok (.invokestatic 189, 3) := by decide +kernel
theorem dL_refuses_418 : decode cL_refuses 418 = .ok (.ldc 15, 2) := by decide +kernel
theorem dL_refuses_420 : decode cL_refuses 420 = .ok (.if_icmp .ne 548, 3) := by decide +kernel
theorem dL_refuses_423 : decode cL_refuses 423 = .ok (.aload_n 0, 1) := by decide +kernel
theorem dL_refuses_424 : decode cL_refuses 424 = .ok (.bipush 11, 2) := by decide +kernel
theorem dL_refuses_426 : decode cL_refuses 426 = .ok (.iconst 0, 1) := by decide +kernel
theorem dL_refuses_427 : decode cL_refuses 427 = .ok (.iload 6, 2) := by decide +kernel
theorem dL_refuses_429 : decode cL_refuses 429 = .ok (.iconst 0, 1) := by decide +kernel
theorem dL_refuses_430 : decode cL_refuses 430 = .ok (.invokestatic 189, 3) := by decide +kernel
theorem dL_refuses_433 : decode cL_refuses 433 = .ok (.ldc 15, 2) := by decide +kernel
theorem dL_refuses_435 : decode cL_refuses 435 = .ok (.if_icmp .ne 533, 3) := by decide +kernel
theorem dL_refuses_438 : decode cL_refuses 438 = .ok (.aload_n 0, 1) := by decide +kernel
theorem dL_refuses_439 : decode cL_refuses 439 = .ok (.iload 6, 2) := by decide +kernel
theorem dL_refuses_441 : decode cL_refuses 441 = .ok (.iconst 0, 1) := by decide +kernel
theorem dL_refuses_442 : decode cL_refuses 442 = .ok (.iconst 0, 1) := by decide +kernel
theorem dL_refuses_443 : decode cL_refuses 443 = .ok (.iconst 0, 1) := by decide +kernel
theorem dL_refuses_444 : decode cL_refuses 444 = .ok (.invokestatic 193, 3) := by decide +kernel
theorem dL_refuses_447 : decode cL_refuses 447 = .ok (.ldc 15, 2) := by decide +kernel
theorem dL_refuses_449 : decode cL_refuses 449 = .ok (.if_icmp .ne 519, 3) := by decide +kernel
theorem dL_refuses_452 : decode cL_refuses 452 = .ok (.aload_n 0, 1) := by decide +kernel
theorem dL_refuses_453 : decode cL_refuses 453 = .ok (.iconst 0, 1) := by decide +kernel
theorem dL_refuses_454 : decode cL_refuses 454 = .ok (.iload 9, 2) := by decide +kernel
theorem dL_refuses_456 : decode cL_refuses 456 = .ok (.iconst 0, 1) := by decide +kernel
theorem dL_refuses_457 : decode cL_refuses 457 = .ok (.iconst 0, 1) := by decide +kernel
theorem dL_refuses_458 : decode cL_refuses 458 = .ok (.invokestatic 193, 3) := by decide +kernel
theorem dL_refuses_461 : decode cL_refuses 461 = .ok (.ldc 15, 2) := by decide +kernel
theorem dL_refuses_463 : decode cL_refuses 463 = .ok (.if_icmp .ne 505, 3) := by decide +kernel
theorem dL_refuses_466 : decode cL_refuses 466 = .ok (.aload_n 0, 1) := by decide +kernel
theorem dL_refuses_467 : decode cL_refuses 467 = .ok (.iconst 0, 1) := by decide +kernel
theorem dL_refuses_468 : decode cL_refuses 468 = .ok (.iconst 0, 1) := by decide +kernel
theorem dL_refuses_469 : decode cL_refuses 469 = .ok (.iload_n 1, 1) := by decide +kernel
theorem dL_refuses_470 : decode cL_refuses 470 = .ok (.iconst 2, 1) := by decide +kernel
theorem dL_refuses_471 : decode cL_refuses 471 = .ok (.irem, 1) := by decide +kernel
theorem dL_refuses_472 : decode cL_refuses 472 = .ok (.ifCond .ne 7, 3) := by decide +kernel
theorem dL_refuses_475 : decode cL_refuses 475 = .ok (.iconst 0, 1) := by decide +kernel
theorem dL_refuses_476 : decode cL_refuses 476 = .ok (.goto 10, 3) := by decide +kernel
theorem dL_refuses_479 : decode cL_refuses 479 = .ok (.bipush 10, 2) := by decide +kernel
theorem dL_refuses_481 : decode cL_refuses 481 = .ok (.iload_n 1, 1) := by decide +kernel
theorem dL_refuses_482 : decode cL_refuses 482 = .ok (.bipush 9, 2) := by decide +kernel
theorem dL_refuses_484 : decode cL_refuses 484 = .ok (.irem, 1) := by decide +kernel
theorem dL_refuses_485 : decode cL_refuses 485 = .ok (.iadd, 1) := by decide +kernel
theorem dL_refuses_486 : decode cL_refuses 486 = .ok (.iconst 5, 1) := by decide +kernel
theorem dL_refuses_487 : decode cL_refuses 487 = .ok (.invokestatic 193, 3) := by decide +kernel
theorem dL_refuses_490 : decode cL_refuses 490 = .ok (.ldc 18, 2) := by decide +kernel
theorem dL_refuses_492 : decode cL_refuses 492 = .ok (.if_icmp .ne 476, 3) := by decide +kernel
theorem dL_refuses_495 : decode cL_refuses 495 = .ok (.aload_n 0, 1) := by decide +kernel
theorem dL_refuses_496 : decode cL_refuses 496 = .ok (.iconst 0, 1) := by decide +kernel
theorem dL_refuses_497 : decode cL_refuses 497 = .ok (.iconst 0, 1) := by decide +kernel
theorem dL_refuses_498 : decode cL_refuses 498 = .ok (.iconst 5, 1) := by decide +kernel
theorem dL_refuses_499 : decode cL_refuses 499 = .ok (.iload_n 1, 1) := by decide +kernel
theorem dL_refuses_500 : decode cL_refuses 500 = .ok (.iconst 2, 1) := by decide +kernel
theorem dL_refuses_501 : decode cL_refuses 501 = .ok (.irem, 1) := by decide +kernel
theorem dL_refuses_502 : decode cL_refuses 502 = .ok (.ifCond .ne 7, 3) := by decide +kernel
theorem dL_refuses_505 : decode cL_refuses 505 = .ok (.iconst (-1), 1) := by decide +kernel
theorem dL_refuses_506 : decode cL_refuses 506 = .ok (.goto 10, 3) := by decide +kernel
theorem dL_refuses_509 : decode cL_refuses 509 = .ok (.bipush 100, 2) := by decide +kernel
theorem dL_refuses_511 : decode cL_refuses 511 = .ok (.iload_n 1, 1) := by decide +kernel
theorem dL_refuses_512 : decode cL_refuses 512 = .ok (.bipush 9, 2) := by decide +kernel
theorem dL_refuses_514 : decode cL_refuses 514 = .ok (.irem, 1) := by decide +kernel
theorem dL_refuses_515 : decode cL_refuses 515 = .ok (.iadd, 1) := by decide +kernel
theorem dL_refuses_516 : decode cL_refuses 516 = .ok (.invokestatic 193, 3) := by decide +kernel
theorem dL_refuses_519 : decode cL_refuses 519 = .ok (.ldc 18, 2) := by decide +kernel
theorem dL_refuses_521 : decode cL_refuses 521 = .ok (.if_icmp .ne 447, 3) := by decide +kernel
theorem dL_refuses_524 : decode cL_refuses 524 = .ok (.aload_n 0, 1) := by decide +kernel
theorem dL_refuses_525 : decode cL_refuses 525 = .ok (.bipush 12, 2) := by decide +kernel
theorem dL_refuses_527 : decode cL_refuses 527 = .ok (.iload_n 1, 1) := by decide +kernel
theorem dL_refuses_528 : decode cL_refuses 528 = .ok (.iconst 2, 1) := by decide +kernel
theorem dL_refuses_529 : decode cL_refuses 529 = .ok (.irem, 1) := by decide +kernel
theorem dL_refuses_530 : decode cL_refuses 530 = .ok (.ifCond .ne 12, 3) := by decide +kernel
theorem dL_refuses_533 : decode cL_refuses 533 = .ok (.iconst (-1), 1) := by decide +kernel
theorem dL_refuses_534 : decode cL_refuses 534 = .ok (.iload_n 1, 1) := by decide +kernel
theorem dL_refuses_535 : decode cL_refuses 535 = .ok (.bipush 9, 2) := by decide +kernel
theorem dL_refuses_537 : decode cL_refuses 537 = .ok (.irem, 1) := by decide +kernel
theorem dL_refuses_538 : decode cL_refuses 538 = .ok (.isub, 1) := by decide +kernel
theorem dL_refuses_539 : decode cL_refuses 539 = .ok (.goto 11, 3) := by decide +kernel
theorem dL_refuses_542 : decode cL_refuses 542 = .ok (.sipush 1000, 3) := by decide +kernel
theorem dL_refuses_545 : decode cL_refuses 545 = .ok (.iload_n 1, 1) := by decide +kernel
theorem dL_refuses_546 : decode cL_refuses 546 = .ok (.bipush 9, 2) := by decide +kernel
theorem dL_refuses_548 : decode cL_refuses 548 = .ok (.irem, 1) := by decide +kernel
theorem dL_refuses_549 : decode cL_refuses 549 = .ok (.iadd, 1) := by decide +kernel
theorem dL_refuses_550 : decode cL_refuses 550 = .ok (.iconst 0, 1) := by decide +kernel
theorem dL_refuses_551 : decode cL_refuses 551 = .ok (.iconst 0, 1) := by decide +kernel
theorem dL_refuses_552 : decode cL_refuses 552 = .ok (.invokestatic 189, 3) := by decide +kernel
theorem dL_refuses_555 : decode cL_refuses 555 = .ok (.ldc 18, 2) := by decide +kernel
theorem dL_refuses_557 : decode cL_refuses 557 = .ok (.if_icmp .ne 411, 3) := by decide +kernel
theorem dL_refuses_560 : decode cL_refuses 560 = .ok (.aload_n 0, 1) := by decide +kernel
theorem dL_refuses_561 : decode cL_refuses 561 = .ok (.bipush 13, 2) := by decide +kernel
theorem dL_refuses_563 : decode cL_refuses 563 = .ok (.iload 8, 2) := by decide +kernel
theorem dL_refuses_565 : decode cL_refuses 565 = .ok (.iconst 0, 1) := by decide +kernel
theorem dL_refuses_566 : decode cL_refuses 566 = .ok (.iconst 0, 1) := by decide +kernel
theorem dL_refuses_567 : decode cL_refuses 567 = .ok (.invokestatic 189, 3) := by decide +kernel
theorem dL_refuses_570 : decode cL_refuses 570 = .ok (.ldc 15, 2) := by decide +kernel
theorem dL_refuses_572 : decode cL_refuses 572 = .ok (.if_icmp .ne 396, 3) := by decide +kernel
theorem dL_refuses_575 : decode cL_refuses 575 = .ok (.aload_n 0, 1) := by decide +kernel
theorem dL_refuses_576 : decode cL_refuses 576 = .ok (.bipush 13, 2) := by decide +kernel
theorem dL_refuses_578 : decode cL_refuses 578 = .ok (.iconst 0, 1) := by decide +kernel
theorem dL_refuses_579 : decode cL_refuses 579 = .ok (.iload 6, 2) := by decide +kernel
theorem dL_refuses_581 : decode cL_refuses 581 = .ok (.iconst 0, 1) := by decide +kernel
theorem dL_refuses_582 : decode cL_refuses 582 = .ok (.invokestatic 189, 3) := by decide +kernel
theorem dL_refuses_585 : decode cL_refuses 585 = .ok (.ldc 15, 2) := by decide +kernel
theorem dL_refuses_587 : decode cL_refuses 587 = .ok (.if_icmp .ne 381, 3) := by decide +kernel
theorem dL_refuses_590 : decode cL_refuses 590 = .ok (.aload_n 0, 1) := by decide +kernel
theorem dL_refuses_591 : decode cL_refuses 591 = .ok (.bipush 13, 2) := by decide +kernel
theorem dL_refuses_593 : decode cL_refuses 593 = .ok (.iconst 0, 1) := by decide +kernel
theorem dL_refuses_594 : decode cL_refuses 594 = .ok (.iconst 0, 1) := by decide +kernel
theorem dL_refuses_595 : decode cL_refuses 595 = .ok (.iload 9, 2) := by decide +kernel
theorem dL_refuses_597 : decode cL_refuses 597 = .ok (.invokestatic 189, 3) := by decide +kernel
theorem dL_refuses_600 : decode cL_refuses 600 = .ok (.ldc 15, 2) := by decide +kernel
theorem dL_refuses_602 : decode cL_refuses 602 = .ok (.if_icmp .ne 366, 3) := by decide +kernel
theorem dL_refuses_605 : decode cL_refuses 605 = .ok (.aload_n 0, 1) := by decide +kernel
theorem dL_refuses_606 : decode cL_refuses 606 = .ok (.bipush 14, 2) := by decide +kernel
theorem dL_refuses_608 : decode cL_refuses 608 = .ok (.iload 8, 2) := by decide +kernel
theorem dL_refuses_610 : decode cL_refuses 610 = .ok (.iconst 0, 1) := by decide +kernel
theorem dL_refuses_611 : decode cL_refuses 611 = .ok (.iconst 0, 1) := by decide +kernel
theorem dL_refuses_612 : decode cL_refuses 612 = .ok (.invokestatic 189, 3) := by decide +kernel
theorem dL_refuses_615 : decode cL_refuses 615 = .ok (.ldc 15, 2) := by decide +kernel
theorem dL_refuses_617 : decode cL_refuses 617 = .ok (.if_icmp .ne 351, 3) := by decide +kernel
theorem dL_refuses_620 : decode cL_refuses 620 = .ok (.aload_n 0, 1) := by decide +kernel
theorem dL_refuses_621 : decode cL_refuses 621 = .ok (.bipush 15, 2) := by decide +kernel
theorem dL_refuses_623 : decode cL_refuses 623 = .ok (.iload 5, 2) := by decide +kernel
theorem dL_refuses_625 : decode cL_refuses 625 = .ok (.iload_n 1, 1) := by decide +kernel
theorem dL_refuses_626 : decode cL_refuses 626 = .ok (.bipush 9, 2) := by decide +kernel
theorem dL_refuses_628 : decode cL_refuses 628 = .ok (.irem, 1) := by decide +kernel
theorem dL_refuses_629 : decode cL_refuses 629 = .ok (.iadd, 1) := by decide +kernel
theorem dL_refuses_630 : decode cL_refuses 630 = .ok (.iconst 0, 1) := by decide +kernel
theorem dL_refuses_631 : decode cL_refuses 631 = .ok (.iconst 0, 1) := by decide +kernel
theorem dL_refuses_632 : decode cL_refuses 632 = .ok (.invokestatic 189, 3) := by decide +kernel
theorem dL_refuses_635 : decode cL_refuses 635 = .ok (.ldc 15, 2) := by decide +kernel
theorem dL_refuses_637 : decode cL_refuses 637 = .ok (.if_icmp .ne 331, 3) := by decide +kernel
theorem dL_refuses_640 : decode cL_refuses 640 = .ok (.aload_n 0, 1) := by decide +kernel
theorem dL_refuses_641 : decode cL_refuses 641 = .ok (.bipush 16, 2) := by decide +kernel
theorem dL_refuses_643 : decode cL_refuses 643 = .ok (.iconst 0, 1) := by decide +kernel
theorem dL_refuses_644 : decode cL_refuses 644 = .ok (.iload_n 1, 1) := by decide +kernel
theorem dL_refuses_645 : decode cL_refuses 645 = .ok (.iconst 2, 1) := by decide +kernel
theorem dL_refuses_646 : decode cL_refuses 646 = .ok (.irem, 1) := by decide +kernel
theorem dL_refuses_647 : decode cL_refuses 647 = .ok (.ifCond .ne 7, 3) := by decide +kernel
theorem dL_refuses_650 : decode cL_refuses 650 = .ok (.iconst (-1), 1) := by decide +kernel
theorem dL_refuses_651 : decode cL_refuses 651 = .ok (.goto 10, 3) := by decide +kernel
theorem dL_refuses_654 : decode cL_refuses 654 = .ok (.bipush 13, 2) := by decide +kernel
theorem dL_refuses_656 : decode cL_refuses 656 = .ok (.iload_n 1, 1) := by decide +kernel
theorem dL_refuses_657 : decode cL_refuses 657 = .ok (.bipush 9, 2) := by decide +kernel
theorem dL_refuses_659 : decode cL_refuses 659 = .ok (.irem, 1) := by decide +kernel
theorem dL_refuses_660 : decode cL_refuses 660 = .ok (.iadd, 1) := by decide +kernel
theorem dL_refuses_661 : decode cL_refuses 661 = .ok (.iconst 0, 1) := by decide +kernel
theorem dL_refuses_662 : decode cL_refuses 662 = .ok (.invokestatic 189, 3) := by decide +kernel
theorem dL_refuses_665 : decode cL_refuses 665 = .ok (.ldc 18, 2) := by decide +kernel
theorem dL_refuses_667 : decode cL_refuses 667 = .ok (.if_icmp .ne 301, 3) := by decide +kernel
theorem dL_refuses_670 : decode cL_refuses 670 = .ok (.aload_n 0, 1) := by decide +kernel
theorem dL_refuses_671 : decode cL_refuses 671 = .ok (.bipush 16, 2) := by decide +kernel
theorem dL_refuses_673 : decode cL_refuses 673 = .ok (.iconst 1, 1) := by decide +kernel
theorem dL_refuses_674 : decode cL_refuses 674 = .ok (.iload_n 1, 1) := by decide +kernel
theorem dL_refuses_675 : decode cL_refuses 675 = .ok (.iconst 2, 1) := by decide +kernel
theorem dL_refuses_676 : decode cL_refuses 676 = .ok (.irem, 1) := by decide +kernel
theorem dL_refuses_677 : decode cL_refuses 677 = .ok (.ifCond .ne 7, 3) := by decide +kernel
theorem dL_refuses_680 : decode cL_refuses 680 = .ok (.iconst (-1), 1) := by decide +kernel
theorem dL_refuses_681 : decode cL_refuses 681 = .ok (.goto 9, 3) := by decide +kernel
theorem dL_refuses_684 : decode cL_refuses 684 = .ok (.iconst 2, 1) := by decide +kernel
theorem dL_refuses_685 : decode cL_refuses 685 = .ok (.iload_n 1, 1) := by decide +kernel
theorem dL_refuses_686 : decode cL_refuses 686 = .ok (.bipush 9, 2) := by decide +kernel
theorem dL_refuses_688 : decode cL_refuses 688 = .ok (.irem, 1) := by decide +kernel
theorem dL_refuses_689 : decode cL_refuses 689 = .ok (.iadd, 1) := by decide +kernel
theorem dL_refuses_690 : decode cL_refuses 690 = .ok (.iconst 0, 1) := by decide +kernel
theorem dL_refuses_691 : decode cL_refuses 691 = .ok (.invokestatic 189, 3) := by decide +kernel
theorem dL_refuses_694 : decode cL_refuses 694 = .ok (.ldc 18, 2) := by decide +kernel
theorem dL_refuses_696 : decode cL_refuses 696 = .ok (.if_icmp .ne 272, 3) := by decide +kernel
theorem dL_refuses_699 : decode cL_refuses 699 = .ok (.aload_n 0, 1) := by decide +kernel
theorem dL_refuses_700 : decode cL_refuses 700 = .ok (.bipush 16, 2) := by decide +kernel
theorem dL_refuses_702 : decode cL_refuses 702 = .ok (.iconst 2, 1) := by decide +kernel
theorem dL_refuses_703 : decode cL_refuses 703 = .ok (.iload_n 1, 1) := by decide +kernel
theorem dL_refuses_704 : decode cL_refuses 704 = .ok (.bipush 9, 2) := by decide +kernel
theorem dL_refuses_706 : decode cL_refuses 706 = .ok (.irem, 1) := by decide +kernel
theorem dL_refuses_707 : decode cL_refuses 707 = .ok (.iadd, 1) := by decide +kernel
theorem dL_refuses_708 : decode cL_refuses 708 = .ok (.iconst 0, 1) := by decide +kernel
theorem dL_refuses_709 : decode cL_refuses 709 = .ok (.iconst 0, 1) := by decide +kernel
theorem dL_refuses_710 : decode cL_refuses 710 = .ok (.invokestatic 189, 3) := by decide +kernel
theorem dL_refuses_713 : decode cL_refuses 713 = .ok (.ldc 18, 2) := by decide +kernel
theorem dL_refuses_715 : decode cL_refuses 715 = .ok (.if_icmp .ne 253, 3) := by decide +kernel
theorem dL_refuses_718 : decode cL_refuses 718 = .ok (.aload_n 0, 1) := by decide +kernel
theorem dL_refuses_719 : decode cL_refuses 719 = .ok (.bipush 17, 2) := by decide +kernel
theorem dL_refuses_721 : decode cL_refuses 721 = .ok (.iload_n 1, 1) := by decide +kernel
theorem dL_refuses_722 : decode cL_refuses 722 = .ok (.iconst 2, 1) := by decide +kernel
theorem dL_refuses_723 : decode cL_refuses 723 = .ok (.irem, 1) := by decide +kernel
theorem dL_refuses_724 : decode cL_refuses 724 = .ok (.ifCond .ne 7, 3) := by decide +kernel
theorem dL_refuses_727 : decode cL_refuses 727 = .ok (.iconst 0, 1) := by decide +kernel
theorem dL_refuses_728 : decode cL_refuses 728 = .ok (.goto 10, 3) := by decide +kernel
theorem dL_refuses_731 : decode cL_refuses 731 = .ok (.bipush 61, 2) := by decide +kernel
theorem dL_refuses_733 : decode cL_refuses 733 = .ok (.iload_n 1, 1) := by decide +kernel
theorem dL_refuses_734 : decode cL_refuses 734 = .ok (.bipush 9, 2) := by decide +kernel
theorem dL_refuses_736 : decode cL_refuses 736 = .ok (.irem, 1) := by decide +kernel
theorem dL_refuses_737 : decode cL_refuses 737 = .ok (.iadd, 1) := by decide +kernel
theorem dL_refuses_738 : decode cL_refuses 738 = .ok (.iconst 0, 1) := by decide +kernel
theorem dL_refuses_739 : decode cL_refuses 739 = .ok (.iconst 0, 1) := by decide +kernel
theorem dL_refuses_740 : decode cL_refuses 740 = .ok (.invokestatic 189, 3) := by decide +kernel
theorem dL_refuses_743 : decode cL_refuses 743 = .ok (.ldc 18, 2) := by decide +kernel
theorem dL_refuses_745 : decode cL_refuses 745 = .ok (.if_icmp .ne 223, 3) := by decide +kernel
theorem dL_refuses_748 : decode cL_refuses 748 = .ok (.aload_n 0, 1) := by decide +kernel
theorem dL_refuses_749 : decode cL_refuses 749 = .ok (.bipush 19, 2) := by decide +kernel
theorem dL_refuses_751 : decode cL_refuses 751 = .ok (.iload 6, 2) := by decide +kernel
theorem dL_refuses_753 : decode cL_refuses 753 = .ok (.iconst 0, 1) := by decide +kernel
theorem dL_refuses_754 : decode cL_refuses 754 = .ok (.iconst 0, 1) := by decide +kernel
theorem dL_refuses_755 : decode cL_refuses 755 = .ok (.invokestatic 189, 3) := by decide +kernel
theorem dL_refuses_758 : decode cL_refuses 758 = .ok (.ldc 15, 2) := by decide +kernel
theorem dL_refuses_760 : decode cL_refuses 760 = .ok (.if_icmp .ne 208, 3) := by decide +kernel
theorem dL_refuses_763 : decode cL_refuses 763 = .ok (.aload_n 0, 1) := by decide +kernel
theorem dL_refuses_764 : decode cL_refuses 764 = .ok (.bipush 20, 2) := by decide +kernel
theorem dL_refuses_766 : decode cL_refuses 766 = .ok (.iload 6, 2) := by decide +kernel
theorem dL_refuses_768 : decode cL_refuses 768 = .ok (.iconst 0, 1) := by decide +kernel
theorem dL_refuses_769 : decode cL_refuses 769 = .ok (.iconst 0, 1) := by decide +kernel
theorem dL_refuses_770 : decode cL_refuses 770 = .ok (.invokestatic 189, 3) := by decide +kernel
theorem dL_refuses_773 : decode cL_refuses 773 = .ok (.ldc 15, 2) := by decide +kernel
theorem dL_refuses_775 : decode cL_refuses 775 = .ok (.if_icmp .ne 193, 3) := by decide +kernel
theorem dL_refuses_778 : decode cL_refuses 778 = .ok (.aload_n 0, 1) := by decide +kernel
theorem dL_refuses_779 : decode cL_refuses 779 = .ok (.bipush 20, 2) := by decide +kernel
theorem dL_refuses_781 : decode cL_refuses 781 = .ok (.iconst 0, 1) := by decide +kernel
theorem dL_refuses_782 : decode cL_refuses 782 = .ok (.iload_n 1, 1) := by decide +kernel
theorem dL_refuses_783 : decode cL_refuses 783 = .ok (.iconst 2, 1) := by decide +kernel
theorem dL_refuses_784 : decode cL_refuses 784 = .ok (.irem, 1) := by decide +kernel
theorem dL_refuses_785 : decode cL_refuses 785 = .ok (.ifCond .ne 7, 3) := by decide +kernel
theorem dL_refuses_788 : decode cL_refuses 788 = .ok (.iconst 0, 1) := by decide +kernel
theorem dL_refuses_789 : decode cL_refuses 789 = .ok (.goto 11, 3) := by decide +kernel
theorem dL_refuses_792 : decode cL_refuses 792 = .ok (.sipush 201, 3) := by decide +kernel
theorem dL_refuses_795 : decode cL_refuses 795 = .ok (.iload_n 1, 1) := by decide +kernel
theorem dL_refuses_796 : decode cL_refuses 796 = .ok (.bipush 9, 2) := by decide +kernel
theorem dL_refuses_798 : decode cL_refuses 798 = .ok (.irem, 1) := by decide +kernel
theorem dL_refuses_799 : decode cL_refuses 799 = .ok (.iadd, 1) := by decide +kernel
theorem dL_refuses_800 : decode cL_refuses 800 = .ok (.iconst 0, 1) := by decide +kernel
theorem dL_refuses_801 : decode cL_refuses 801 = .ok (.invokestatic 189, 3) := by decide +kernel
theorem dL_refuses_804 : decode cL_refuses 804 = .ok (.ldc 18, 2) := by decide +kernel
theorem dL_refuses_806 : decode cL_refuses 806 = .ok (.if_icmp .ne 162, 3) := by decide +kernel
theorem dL_refuses_809 : decode cL_refuses 809 = .ok (.aload_n 0, 1) := by decide +kernel
theorem dL_refuses_810 : decode cL_refuses 810 = .ok (.bipush 21, 2) := by decide +kernel
theorem dL_refuses_812 : decode cL_refuses 812 = .ok (.iload 8, 2) := by decide +kernel
theorem dL_refuses_814 : decode cL_refuses 814 = .ok (.iconst 0, 1) := by decide +kernel
theorem dL_refuses_815 : decode cL_refuses 815 = .ok (.iconst 0, 1) := by decide +kernel
theorem dL_refuses_816 : decode cL_refuses 816 = .ok (.invokestatic 189, 3) := by decide +kernel
theorem dL_refuses_819 : decode cL_refuses 819 = .ok (.ldc 15, 2) := by decide +kernel
theorem dL_refuses_821 : decode cL_refuses 821 = .ok (.if_icmp .ne 147, 3) := by decide +kernel
theorem dL_refuses_824 : decode cL_refuses 824 = .ok (.aload_n 0, 1) := by decide +kernel
theorem dL_refuses_825 : decode cL_refuses 825 = .ok (.bipush 21, 2) := by decide +kernel
theorem dL_refuses_827 : decode cL_refuses 827 = .ok (.iconst 0, 1) := by decide +kernel
theorem dL_refuses_828 : decode cL_refuses 828 = .ok (.iload 6, 2) := by decide +kernel
theorem dL_refuses_830 : decode cL_refuses 830 = .ok (.iconst 0, 1) := by decide +kernel
theorem dL_refuses_831 : decode cL_refuses 831 = .ok (.invokestatic 189, 3) := by decide +kernel
theorem dL_refuses_834 : decode cL_refuses 834 = .ok (.ldc 15, 2) := by decide +kernel
theorem dL_refuses_836 : decode cL_refuses 836 = .ok (.if_icmp .ne 132, 3) := by decide +kernel
theorem dL_refuses_839 : decode cL_refuses 839 = .ok (.aload_n 0, 1) := by decide +kernel
theorem dL_refuses_840 : decode cL_refuses 840 = .ok (.iload 6, 2) := by decide +kernel
theorem dL_refuses_842 : decode cL_refuses 842 = .ok (.iconst 0, 1) := by decide +kernel
theorem dL_refuses_843 : decode cL_refuses 843 = .ok (.iconst 0, 1) := by decide +kernel
theorem dL_refuses_844 : decode cL_refuses 844 = .ok (.iconst 0, 1) := by decide +kernel
theorem dL_refuses_845 : decode cL_refuses 845 = .ok (.invokestatic 196, 3) := by decide +kernel
theorem dL_refuses_848 : decode cL_refuses 848 = .ok (.ldc 15, 2) := by decide +kernel
theorem dL_refuses_850 : decode cL_refuses 850 = .ok (.if_icmp .ne 118, 3) := by decide +kernel
theorem dL_refuses_853 : decode cL_refuses 853 = .ok (.aload_n 0, 1) := by decide +kernel
theorem dL_refuses_854 : decode cL_refuses 854 = .ok (.iconst 0, 1) := by decide +kernel
theorem dL_refuses_855 : decode cL_refuses 855 = .ok (.iload 9, 2) := by decide +kernel
theorem dL_refuses_857 : decode cL_refuses 857 = .ok (.iconst 0, 1) := by decide +kernel
theorem dL_refuses_858 : decode cL_refuses 858 = .ok (.iconst 0, 1) := by decide +kernel
theorem dL_refuses_859 : decode cL_refuses 859 = .ok (.invokestatic 196, 3) := by decide +kernel
theorem dL_refuses_862 : decode cL_refuses 862 = .ok (.ldc 15, 2) := by decide +kernel
theorem dL_refuses_864 : decode cL_refuses 864 = .ok (.if_icmp .ne 104, 3) := by decide +kernel
theorem dL_refuses_867 : decode cL_refuses 867 = .ok (.aload_n 0, 1) := by decide +kernel
theorem dL_refuses_868 : decode cL_refuses 868 = .ok (.iconst 0, 1) := by decide +kernel
theorem dL_refuses_869 : decode cL_refuses 869 = .ok (.iconst 0, 1) := by decide +kernel
theorem dL_refuses_870 : decode cL_refuses 870 = .ok (.iconst 0, 1) := by decide +kernel
theorem dL_refuses_871 : decode cL_refuses 871 = .ok (.iload 9, 2) := by decide +kernel
theorem dL_refuses_873 : decode cL_refuses 873 = .ok (.invokestatic 196, 3) := by decide +kernel
theorem dL_refuses_876 : decode cL_refuses 876 = .ok (.ldc 15, 2) := by decide +kernel
theorem dL_refuses_878 : decode cL_refuses 878 = .ok (.if_icmp .ne 90, 3) := by decide +kernel
theorem dL_refuses_881 : decode cL_refuses 881 = .ok (.aload_n 0, 1) := by decide +kernel
theorem dL_refuses_882 : decode cL_refuses 882 = .ok (.bipush 22, 2) := by decide +kernel
theorem dL_refuses_884 : decode cL_refuses 884 = .ok (.iconst 2, 1) := by decide +kernel
theorem dL_refuses_885 : decode cL_refuses 885 = .ok (.iload_n 1, 1) := by decide +kernel
theorem dL_refuses_886 : decode cL_refuses 886 = .ok (.bipush 50, 2) := by decide +kernel
theorem dL_refuses_888 : decode cL_refuses 888 = .ok (.irem, 1) := by decide +kernel
theorem dL_refuses_889 : decode cL_refuses 889 = .ok (.iadd, 1) := by decide +kernel
theorem dL_refuses_890 : decode cL_refuses 890 = .ok (.iconst 0, 1) := by decide +kernel
theorem dL_refuses_891 : decode cL_refuses 891 = .ok (.iconst 0, 1) := by decide +kernel
theorem dL_refuses_892 : decode cL_refuses 892 = .ok (.invokestatic 189, 3) := by decide +kernel
theorem dL_refuses_895 : decode cL_refuses 895 = .ok (.ldc 15, 2) := by decide +kernel
theorem dL_refuses_897 : decode cL_refuses 897 = .ok (.if_icmp .ne 71, 3) := by decide +kernel
theorem dL_refuses_900 : decode cL_refuses 900 = .ok (.aload_n 0, 1) := by decide +kernel
theorem dL_refuses_901 : decode cL_refuses 901 = .ok (.bipush 23, 2) := by decide +kernel
theorem dL_refuses_903 : decode cL_refuses 903 = .ok (.iconst (-1), 1) := by decide +kernel
theorem dL_refuses_904 : decode cL_refuses 904 = .ok (.iload_n 1, 1) := by decide +kernel
theorem dL_refuses_905 : decode cL_refuses 905 = .ok (.bipush 9, 2) := by decide +kernel
theorem dL_refuses_907 : decode cL_refuses 907 = .ok (.irem, 1) := by decide +kernel
theorem dL_refuses_908 : decode cL_refuses 908 = .ok (.isub, 1) := by decide +kernel
theorem dL_refuses_909 : decode cL_refuses 909 = .ok (.iconst 0, 1) := by decide +kernel
theorem dL_refuses_910 : decode cL_refuses 910 = .ok (.iconst 0, 1) := by decide +kernel
theorem dL_refuses_911 : decode cL_refuses 911 = .ok (.invokestatic 189, 3) := by decide +kernel
theorem dL_refuses_914 : decode cL_refuses 914 = .ok (.ldc 15, 2) := by decide +kernel
theorem dL_refuses_916 : decode cL_refuses 916 = .ok (.if_icmp .ne 52, 3) := by decide +kernel
theorem dL_refuses_919 : decode cL_refuses 919 = .ok (.aload_n 0, 1) := by decide +kernel
theorem dL_refuses_920 : decode cL_refuses 920 = .ok (.iconst 0, 1) := by decide +kernel
theorem dL_refuses_921 : decode cL_refuses 921 = .ok (.lconst 0, 1) := by decide +kernel
theorem dL_refuses_922 : decode cL_refuses 922 = .ok (.invokestatic 199, 3) := by decide +kernel
theorem dL_refuses_925 : decode cL_refuses 925 = .ok (.ldc 18, 2) := by decide +kernel
theorem dL_refuses_927 : decode cL_refuses 927 = .ok (.if_icmp .ne 41, 3) := by decide +kernel
theorem dL_refuses_930 : decode cL_refuses 930 = .ok (.aload_n 0, 1) := by decide +kernel
theorem dL_refuses_931 : decode cL_refuses 931 = .ok (.iconst 1, 1) := by decide +kernel
theorem dL_refuses_932 : decode cL_refuses 932 = .ok (.ldc2_w 203, 3) := by decide +kernel
theorem dL_refuses_935 : decode cL_refuses 935 = .ok (.iload_n 1, 1) := by decide +kernel
theorem dL_refuses_936 : decode cL_refuses 936 = .ok (.i2l, 1) := by decide +kernel
theorem dL_refuses_937 : decode cL_refuses 937 = .ok (.ladd, 1) := by decide +kernel
theorem dL_refuses_938 : decode cL_refuses 938 = .ok (.invokestatic 199, 3) := by decide +kernel
theorem dL_refuses_941 : decode cL_refuses 941 = .ok (.ldc 18, 2) := by decide +kernel
theorem dL_refuses_943 : decode cL_refuses 943 = .ok (.if_icmp .ne 25, 3) := by decide +kernel
theorem dL_refuses_946 : decode cL_refuses 946 = .ok (.aload_n 0, 1) := by decide +kernel
theorem dL_refuses_947 : decode cL_refuses 947 = .ok (.iload_n 1, 1) := by decide +kernel
theorem dL_refuses_948 : decode cL_refuses 948 = .ok (.i2l, 1) := by decide +kernel
theorem dL_refuses_949 : decode cL_refuses 949 = .ok (.bipush 61, 2) := by decide +kernel
theorem dL_refuses_951 : decode cL_refuses 951 = .ok (.iload_n 1, 1) := by decide +kernel
theorem dL_refuses_952 : decode cL_refuses 952 = .ok (.bipush 9, 2) := by decide +kernel
theorem dL_refuses_954 : decode cL_refuses 954 = .ok (.irem, 1) := by decide +kernel
theorem dL_refuses_955 : decode cL_refuses 955 = .ok (.iadd, 1) := by decide +kernel
theorem dL_refuses_956 : decode cL_refuses 956 = .ok (.invokestatic 205, 3) := by decide +kernel
theorem dL_refuses_959 : decode cL_refuses 959 = .ok (.ldc 18, 2) := by decide +kernel
theorem dL_refuses_961 : decode cL_refuses 961 = .ok (.if_icmp .ne 7, 3) := by decide +kernel
theorem dL_refuses_964 : decode cL_refuses 964 = .ok (.iconst 1, 1) := by decide +kernel
theorem dL_refuses_965 : decode cL_refuses 965 = .ok (.goto 4, 3) := by decide +kernel
theorem dL_refuses_968 : decode cL_refuses 968 = .ok (.iconst 0, 1) := by decide +kernel
theorem dL_refuses_969 : decode cL_refuses 969 = .ok (.istore 10, 2) := by decide +kernel
theorem dL_refuses_971 : decode cL_refuses 971 = .ok (.iload 4, 2) := by decide +kernel
theorem dL_refuses_973 : decode cL_refuses 973 = .ok (.ifCond .le 142, 3) := by decide +kernel
theorem dL_refuses_976 : decode cL_refuses 976 = .ok (.iload 10, 2) := by decide +kernel
theorem dL_refuses_978 : decode cL_refuses 978 = .ok (.ifCond .eq 134, 3) := by decide +kernel
theorem dL_refuses_981 : decode cL_refuses 981 = .ok (.aload_n 0, 1) := by decide +kernel
theorem dL_refuses_982 : decode cL_refuses 982 = .ok (.iconst 5, 1) := by decide +kernel
theorem dL_refuses_983 : decode cL_refuses 983 = .ok (.iconst 0, 1) := by decide +kernel
theorem dL_refuses_984 : decode cL_refuses 984 = .ok (.iconst 5, 1) := by decide +kernel
theorem dL_refuses_985 : decode cL_refuses 985 = .ok (.iload_n 1, 1) := by decide +kernel
theorem dL_refuses_986 : decode cL_refuses 986 = .ok (.bipush 9, 2) := by decide +kernel
theorem dL_refuses_988 : decode cL_refuses 988 = .ok (.irem, 1) := by decide +kernel
theorem dL_refuses_989 : decode cL_refuses 989 = .ok (.iadd, 1) := by decide +kernel
theorem dL_refuses_990 : decode cL_refuses 990 = .ok (.iconst 0, 1) := by decide +kernel
theorem dL_refuses_991 : decode cL_refuses 991 = .ok (.invokestatic 189, 3) := by decide +kernel
theorem dL_refuses_994 : decode cL_refuses 994 = .ok (.ldc 18, 2) := by decide +kernel
theorem dL_refuses_996 : decode cL_refuses 996 = .ok (.if_icmp .ne 116, 3) := by decide +kernel
theorem dL_refuses_999 : decode cL_refuses 999 = .ok (.aload_n 0, 1) := by decide +kernel
theorem dL_refuses_1000 : decode cL_refuses 1000 = .ok (.bipush 14, 2) := by decide +kernel
theorem dL_refuses_1002 : decode cL_refuses 1002 = .ok (.iconst 0, 1) := by decide +kernel
theorem dL_refuses_1003 : decode cL_refuses 1003 = .ok (.iload_n 1, 1) := by decide +kernel
theorem dL_refuses_1004 : decode cL_refuses 1004 = .ok (.iconst 2, 1) := by decide +kernel
theorem dL_refuses_1005 : decode cL_refuses 1005 = .ok (.irem, 1) := by decide +kernel
theorem dL_refuses_1006 : decode cL_refuses 1006 = .ok (.ifCond .ne 7, 3) := by decide +kernel
theorem dL_refuses_1009 : decode cL_refuses 1009 = .ok (.iconst 0, 1) := by decide +kernel
theorem dL_refuses_1010 : decode cL_refuses 1010 = .ok (.goto 10, 3) := by decide +kernel
theorem dL_refuses_1013 : decode cL_refuses 1013 = .ok (.bipush 100, 2) := by decide +kernel
theorem dL_refuses_1015 : decode cL_refuses 1015 = .ok (.iload_n 1, 1) := by decide +kernel
theorem dL_refuses_1016 : decode cL_refuses 1016 = .ok (.bipush 9, 2) := by decide +kernel
theorem dL_refuses_1018 : decode cL_refuses 1018 = .ok (.irem, 1) := by decide +kernel
theorem dL_refuses_1019 : decode cL_refuses 1019 = .ok (.iadd, 1) := by decide +kernel
theorem dL_refuses_1020 : decode cL_refuses 1020 = .ok (.iconst 0, 1) := by decide +kernel
theorem dL_refuses_1021 : decode cL_refuses 1021 = .ok (.invokestatic 189, 3) := by decide +kernel
theorem dL_refuses_1024 : decode cL_refuses 1024 = .ok (.ldc 18, 2) := by decide +kernel
theorem dL_refuses_1026 : decode cL_refuses 1026 = .ok (.if_icmp .ne 86, 3) := by decide +kernel
theorem dL_refuses_1029 : decode cL_refuses 1029 = .ok (.aload_n 0, 1) := by decide +kernel
theorem dL_refuses_1030 : decode cL_refuses 1030 = .ok (.bipush 21, 2) := by decide +kernel
theorem dL_refuses_1032 : decode cL_refuses 1032 = .ok (.iconst 0, 1) := by decide +kernel
theorem dL_refuses_1033 : decode cL_refuses 1033 = .ok (.iconst 0, 1) := by decide +kernel
theorem dL_refuses_1034 : decode cL_refuses 1034 = .ok (.iload_n 1, 1) := by decide +kernel
theorem dL_refuses_1035 : decode cL_refuses 1035 = .ok (.iconst 2, 1) := by decide +kernel
theorem dL_refuses_1036 : decode cL_refuses 1036 = .ok (.irem, 1) := by decide +kernel
theorem dL_refuses_1037 : decode cL_refuses 1037 = .ok (.ifCond .ne 7, 3) := by decide +kernel
theorem dL_refuses_1040 : decode cL_refuses 1040 = .ok (.iconst 0, 1) := by decide +kernel
theorem dL_refuses_1041 : decode cL_refuses 1041 = .ok (.goto 10, 3) := by decide +kernel
theorem dL_refuses_1044 : decode cL_refuses 1044 = .ok (.bipush 101, 2) := by decide +kernel
theorem dL_refuses_1046 : decode cL_refuses 1046 = .ok (.iload_n 1, 1) := by decide +kernel
theorem dL_refuses_1047 : decode cL_refuses 1047 = .ok (.bipush 9, 2) := by decide +kernel
theorem dL_refuses_1049 : decode cL_refuses 1049 = .ok (.irem, 1) := by decide +kernel
theorem dL_refuses_1050 : decode cL_refuses 1050 = .ok (.iadd, 1) := by decide +kernel
theorem dL_refuses_1051 : decode cL_refuses 1051 = .ok (.invokestatic 189, 3) := by decide +kernel
theorem dL_refuses_1054 : decode cL_refuses 1054 = .ok (.ldc 18, 2) := by decide +kernel
theorem dL_refuses_1056 : decode cL_refuses 1056 = .ok (.if_icmp .ne 56, 3) := by decide +kernel
theorem dL_refuses_1059 : decode cL_refuses 1059 = .ok (.iload 5, 2) := by decide +kernel
theorem dL_refuses_1061 : decode cL_refuses 1061 = .ok (.bipush 6, 2) := by decide +kernel
theorem dL_refuses_1063 : decode cL_refuses 1063 = .ok (.if_icmp .lt 45, 3) := by decide +kernel
theorem dL_refuses_1066 : decode cL_refuses 1066 = .ok (.aload_n 0, 1) := by decide +kernel
theorem dL_refuses_1067 : decode cL_refuses 1067 = .ok (.bipush 13, 2) := by decide +kernel
theorem dL_refuses_1069 : decode cL_refuses 1069 = .ok (.iconst 0, 1) := by decide +kernel
theorem dL_refuses_1070 : decode cL_refuses 1070 = .ok (.iconst 0, 1) := by decide +kernel
theorem dL_refuses_1071 : decode cL_refuses 1071 = .ok (.iconst 0, 1) := by decide +kernel
theorem dL_refuses_1072 : decode cL_refuses 1072 = .ok (.invokestatic 189, 3) := by decide +kernel
theorem dL_refuses_1075 : decode cL_refuses 1075 = .ok (.ldc 21, 2) := by decide +kernel
theorem dL_refuses_1077 : decode cL_refuses 1077 = .ok (.if_icmp .ne 35, 3) := by decide +kernel
theorem dL_refuses_1080 : decode cL_refuses 1080 = .ok (.aload_n 0, 1) := by decide +kernel
theorem dL_refuses_1081 : decode cL_refuses 1081 = .ok (.bipush 14, 2) := by decide +kernel
theorem dL_refuses_1083 : decode cL_refuses 1083 = .ok (.iconst 0, 1) := by decide +kernel
theorem dL_refuses_1084 : decode cL_refuses 1084 = .ok (.iconst 5, 1) := by decide +kernel
theorem dL_refuses_1085 : decode cL_refuses 1085 = .ok (.iconst 0, 1) := by decide +kernel
theorem dL_refuses_1086 : decode cL_refuses 1086 = .ok (.invokestatic 189, 3) := by decide +kernel
theorem dL_refuses_1089 : decode cL_refuses 1089 = .ok (.ldc 21, 2) := by decide +kernel
theorem dL_refuses_1091 : decode cL_refuses 1091 = .ok (.if_icmp .ne 21, 3) := by decide +kernel
theorem dL_refuses_1094 : decode cL_refuses 1094 = .ok (.aload_n 0, 1) := by decide +kernel
theorem dL_refuses_1095 : decode cL_refuses 1095 = .ok (.bipush 21, 2) := by decide +kernel
theorem dL_refuses_1097 : decode cL_refuses 1097 = .ok (.iconst 0, 1) := by decide +kernel
theorem dL_refuses_1098 : decode cL_refuses 1098 = .ok (.iconst 0, 1) := by decide +kernel
theorem dL_refuses_1099 : decode cL_refuses 1099 = .ok (.iconst 5, 1) := by decide +kernel
theorem dL_refuses_1100 : decode cL_refuses 1100 = .ok (.invokestatic 189, 3) := by decide +kernel
theorem dL_refuses_1103 : decode cL_refuses 1103 = .ok (.ldc 21, 2) := by decide +kernel
theorem dL_refuses_1105 : decode cL_refuses 1105 = .ok (.if_icmp .ne 7, 3) := by decide +kernel
theorem dL_refuses_1108 : decode cL_refuses 1108 = .ok (.iconst 1, 1) := by decide +kernel
theorem dL_refuses_1109 : decode cL_refuses 1109 = .ok (.goto 4, 3) := by decide +kernel
theorem dL_refuses_1112 : decode cL_refuses 1112 = .ok (.iconst 0, 1) := by decide +kernel
theorem dL_refuses_1113 : decode cL_refuses 1113 = .ok (.istore 10, 2) := by decide +kernel
theorem dL_refuses_1115 : decode cL_refuses 1115 = .ok (.iload 10, 2) := by decide +kernel
theorem dL_refuses_1117 : decode cL_refuses 1117 = .ok (.ifCond .eq 72, 3) := by decide +kernel
theorem dL_refuses_1120 : decode cL_refuses 1120 = .ok (.iload_n 2, 1) := by decide +kernel
theorem dL_refuses_1121 : decode cL_refuses 1121 = .ok (.iconst 3, 1) := by decide +kernel
theorem dL_refuses_1122 : decode cL_refuses 1122 = .ok (.if_icmp .lt 17, 3) := by decide +kernel
theorem dL_refuses_1125 : decode cL_refuses 1125 = .ok (.aload_n 0, 1) := by decide +kernel
theorem dL_refuses_1126 : decode cL_refuses 1126 = .ok (.bipush 9, 2) := by decide +kernel
theorem dL_refuses_1128 : decode cL_refuses 1128 = .ok (.iconst 5, 1) := by decide +kernel
theorem dL_refuses_1129 : decode cL_refuses 1129 = .ok (.iconst 0, 1) := by decide +kernel
theorem dL_refuses_1130 : decode cL_refuses 1130 = .ok (.iconst 0, 1) := by decide +kernel
theorem dL_refuses_1131 : decode cL_refuses 1131 = .ok (.invokestatic 189, 3) := by decide +kernel
theorem dL_refuses_1134 : decode cL_refuses 1134 = .ok (.ldc 21, 2) := by decide +kernel
theorem dL_refuses_1136 : decode cL_refuses 1136 = .ok (.if_icmp .ne 53, 3) := by decide +kernel
theorem dL_refuses_1139 : decode cL_refuses 1139 = .ok (.iload_n 3, 1) := by decide +kernel
theorem dL_refuses_1140 : decode cL_refuses 1140 = .ok (.ifCond .eq 21, 3) := by decide +kernel
theorem dL_refuses_1143 : decode cL_refuses 1143 = .ok (.aload_n 0, 1) := by decide +kernel
theorem dL_refuses_1144 : decode cL_refuses 1144 = .ok (.iconst 4, 1) := by decide +kernel
theorem dL_refuses_1145 : decode cL_refuses 1145 = .ok (.iconst 0, 1) := by decide +kernel
theorem dL_refuses_1146 : decode cL_refuses 1146 = .ok (.iconst 4, 1) := by decide +kernel
theorem dL_refuses_1147 : decode cL_refuses 1147 = .ok (.iload_n 1, 1) := by decide +kernel
theorem dL_refuses_1148 : decode cL_refuses 1148 = .ok (.bipush 9, 2) := by decide +kernel
theorem dL_refuses_1150 : decode cL_refuses 1150 = .ok (.irem, 1) := by decide +kernel
theorem dL_refuses_1151 : decode cL_refuses 1151 = .ok (.iadd, 1) := by decide +kernel
theorem dL_refuses_1152 : decode cL_refuses 1152 = .ok (.iconst 0, 1) := by decide +kernel
theorem dL_refuses_1153 : decode cL_refuses 1153 = .ok (.invokestatic 189, 3) := by decide +kernel
theorem dL_refuses_1156 : decode cL_refuses 1156 = .ok (.ldc 18, 2) := by decide +kernel
theorem dL_refuses_1158 : decode cL_refuses 1158 = .ok (.if_icmp .ne 31, 3) := by decide +kernel
theorem dL_refuses_1161 : decode cL_refuses 1161 = .ok (.iload 5, 2) := by decide +kernel
theorem dL_refuses_1163 : decode cL_refuses 1163 = .ok (.ifCond .eq 22, 3) := by decide +kernel
theorem dL_refuses_1166 : decode cL_refuses 1166 = .ok (.aload_n 0, 1) := by decide +kernel
theorem dL_refuses_1167 : decode cL_refuses 1167 = .ok (.bipush 7, 2) := by decide +kernel
theorem dL_refuses_1169 : decode cL_refuses 1169 = .ok (.iconst 0, 1) := by decide +kernel
theorem dL_refuses_1170 : decode cL_refuses 1170 = .ok (.iconst 4, 1) := by decide +kernel
theorem dL_refuses_1171 : decode cL_refuses 1171 = .ok (.iload_n 1, 1) := by decide +kernel
theorem dL_refuses_1172 : decode cL_refuses 1172 = .ok (.bipush 9, 2) := by decide +kernel
theorem dL_refuses_1174 : decode cL_refuses 1174 = .ok (.irem, 1) := by decide +kernel
theorem dL_refuses_1175 : decode cL_refuses 1175 = .ok (.iadd, 1) := by decide +kernel
theorem dL_refuses_1176 : decode cL_refuses 1176 = .ok (.iconst 0, 1) := by decide +kernel
theorem dL_refuses_1177 : decode cL_refuses 1177 = .ok (.invokestatic 189, 3) := by decide +kernel
theorem dL_refuses_1180 : decode cL_refuses 1180 = .ok (.ldc 18, 2) := by decide +kernel
theorem dL_refuses_1182 : decode cL_refuses 1182 = .ok (.if_icmp .ne 7, 3) := by decide +kernel
theorem dL_refuses_1185 : decode cL_refuses 1185 = .ok (.iconst 1, 1) := by decide +kernel
theorem dL_refuses_1186 : decode cL_refuses 1186 = .ok (.goto 4, 3) := by decide +kernel
theorem dL_refuses_1189 : decode cL_refuses 1189 = .ok (.iconst 0, 1) := by decide +kernel
theorem dL_refuses_1190 : decode cL_refuses 1190 = .ok (.ireturn, 1) := by decide +kernel
theorem dL_holds_0 : decode cL_holds 0 = .ok (.aload_n 0, 1) := by decide +kernel
theorem dL_holds_1 : decode cL_holds 1 = .ok (.iconst 2, 1) := by decide +kernel
theorem dL_holds_2 : decode cL_holds 2 = .ok (.iconst 0, 1) := by decide +kernel
theorem dL_holds_3 : decode cL_holds 3 = .ok (.iconst 0, 1) := by decide +kernel
theorem dL_holds_4 : decode cL_holds 4 = .ok (.iconst 0, 1) := by decide +kernel
theorem dL_holds_5 : decode cL_holds 5 = .ok (.invokestatic 189, 3) := by decide +kernel
theorem dL_holds_8 : decode cL_holds 8 = .ok (.istore_n 1, 1) := by decide +kernel
theorem dL_holds_9 : decode cL_holds 9 = .ok (.aload_n 0, 1) := by decide +kernel
theorem dL_holds_10 : decode cL_holds 10 = .ok (.iconst 2, 1) := by decide +kernel
theorem dL_holds_11 : decode cL_holds 11 = .ok (.iconst 1, 1) := by decide +kernel
theorem dL_holds_12 : decode cL_holds 12 = .ok (.iconst 0, 1) := by decide +kernel
theorem dL_holds_13 : decode cL_holds 13 = .ok (.iconst 0, 1) := by decide +kernel
theorem dL_holds_14 : decode cL_holds 14 = .ok (.invokestatic 189, 3) := by decide +kernel
theorem dL_holds_17 : decode cL_holds 17 = .ok (.istore_n 2, 1) := by decide +kernel
theorem dL_holds_18 : decode cL_holds 18 = .ok (.aload_n 0, 1) := by decide +kernel
theorem dL_holds_19 : decode cL_holds 19 = .ok (.iconst 2, 1) := by decide +kernel
theorem dL_holds_20 : decode cL_holds 20 = .ok (.iconst 2, 1) := by decide +kernel
theorem dL_holds_21 : decode cL_holds 21 = .ok (.iconst 0, 1) := by decide +kernel
theorem dL_holds_22 : decode cL_holds 22 = .ok (.iconst 0, 1) := by decide +kernel
theorem dL_holds_23 : decode cL_holds 23 = .ok (.invokestatic 189, 3) := by decide +kernel
theorem dL_holds_26 : decode cL_holds 26 = .ok (.istore_n 3, 1) := by decide +kernel
theorem dL_holds_27 : decode cL_holds 27 = .ok (.aload_n 0, 1) := by decide +kernel
theorem dL_holds_28 : decode cL_holds 28 = .ok (.iconst 2, 1) := by decide +kernel
theorem dL_holds_29 : decode cL_holds 29 = .ok (.bipush 10, 2) := by decide +kernel
theorem dL_holds_31 : decode cL_holds 31 = .ok (.iconst 0, 1) := by decide +kernel
theorem dL_holds_32 : decode cL_holds 32 = .ok (.iconst 0, 1) := by decide +kernel
theorem dL_holds_33 : decode cL_holds 33 = .ok (.invokestatic 189, 3) := by decide +kernel
theorem dL_holds_36 : decode cL_holds 36 = .ok (.istore 4, 2) := by decide +kernel
theorem dL_holds_38 : decode cL_holds 38 = .ok (.aload_n 0, 1) := by decide +kernel
theorem dL_holds_39 : decode cL_holds 39 = .ok (.bipush 6, 2) := by decide +kernel
theorem dL_holds_41 : decode cL_holds 41 = .ok (.iconst 2, 1) := by decide +kernel
theorem dL_holds_42 : decode cL_holds 42 = .ok (.iconst 0, 1) := by decide +kernel
theorem dL_holds_43 : decode cL_holds 43 = .ok (.iconst 0, 1) := by decide +kernel
theorem dL_holds_44 : decode cL_holds 44 = .ok (.invokestatic 189, 3) := by decide +kernel
theorem dL_holds_47 : decode cL_holds 47 = .ok (.istore 5, 2) := by decide +kernel
theorem dL_holds_49 : decode cL_holds 49 = .ok (.iconst 0, 1) := by decide +kernel
theorem dL_holds_50 : decode cL_holds 50 = .ok (.istore 6, 2) := by decide +kernel
theorem dL_holds_52 : decode cL_holds 52 = .ok (.iconst 0, 1) := by decide +kernel
theorem dL_holds_53 : decode cL_holds 53 = .ok (.istore 7, 2) := by decide +kernel
theorem dL_holds_55 : decode cL_holds 55 = .ok (.iconst 0, 1) := by decide +kernel
theorem dL_holds_56 : decode cL_holds 56 = .ok (.istore 8, 2) := by decide +kernel
theorem dL_holds_58 : decode cL_holds 58 = .ok (.iconst 0, 1) := by decide +kernel
theorem dL_holds_59 : decode cL_holds 59 = .ok (.istore 9, 2) := by decide +kernel
theorem dL_holds_61 : decode cL_holds 61 = .ok (.iload_n 1, 1) := by decide +kernel
theorem dL_holds_62 : decode cL_holds 62 = .ok (.iconst 3, 1) := by decide +kernel
theorem dL_holds_63 : decode cL_holds 63 = .ok (.if_icmp .gt 32, 3) := by decide +kernel
theorem dL_holds_66 : decode cL_holds 66 = .ok (.iload_n 2, 1) := by decide +kernel
theorem dL_holds_67 : decode cL_holds 67 = .ok (.bipush 6, 2) := by decide +kernel
theorem dL_holds_69 : decode cL_holds 69 = .ok (.if_icmp .gt 26, 3) := by decide +kernel
theorem dL_holds_72 : decode cL_holds 72 = .ok (.iload_n 3, 1) := by decide +kernel
theorem dL_holds_73 : decode cL_holds 73 = .ok (.bipush 8, 2) := by decide +kernel
theorem dL_holds_75 : decode cL_holds 75 = .ok (.if_icmp .gt 20, 3) := by decide +kernel
theorem dL_holds_78 : decode cL_holds 78 = .ok (.iload 4, 2) := by decide +kernel
theorem dL_holds_80 : decode cL_holds 80 = .ok (.bipush 6, 2) := by decide +kernel
theorem dL_holds_82 : decode cL_holds 82 = .ok (.if_icmp .gt 13, 3) := by decide +kernel
theorem dL_holds_85 : decode cL_holds 85 = .ok (.iload 5, 2) := by decide +kernel
theorem dL_holds_87 : decode cL_holds 87 = .ok (.iload_n 3, 1) := by decide +kernel
theorem dL_holds_88 : decode cL_holds 88 = .ok (.if_icmp .ge 7, 3) := by decide +kernel
theorem dL_holds_91 : decode cL_holds 91 = .ok (.iconst 1, 1) := by decide +kernel
theorem dL_holds_92 : decode cL_holds 92 = .ok (.goto 4, 3) := by decide +kernel
theorem dL_holds_95 : decode cL_holds 95 = .ok (.iconst 0, 1) := by decide +kernel
theorem dL_holds_96 : decode cL_holds 96 = .ok (.istore 10, 2) := by decide +kernel
theorem dL_holds_98 : decode cL_holds 98 = .ok (.iconst 0, 1) := by decide +kernel
theorem dL_holds_99 : decode cL_holds 99 = .ok (.istore 11, 2) := by decide +kernel
theorem dL_holds_101 : decode cL_holds 101 = .ok (.iload 11, 2) := by decide +kernel
theorem dL_holds_103 : decode cL_holds 103 = .ok (.iload_n 3, 1) := by decide +kernel
theorem dL_holds_104 : decode cL_holds 104 = .ok (.if_icmp .ge 177, 3) := by decide +kernel
theorem dL_holds_107 : decode cL_holds 107 = .ok (.iload 10, 2) := by decide +kernel
theorem dL_holds_109 : decode cL_holds 109 = .ok (.ifCond .eq 172, 3) := by decide +kernel
theorem dL_holds_112 : decode cL_holds 112 = .ok (.aload_n 0, 1) := by decide +kernel
theorem dL_holds_113 : decode cL_holds 113 = .ok (.iconst 5, 1) := by decide +kernel
theorem dL_holds_114 : decode cL_holds 114 = .ok (.iload 11, 2) := by decide +kernel
theorem dL_holds_116 : decode cL_holds 116 = .ok (.iconst 1, 1) := by decide +kernel
theorem dL_holds_117 : decode cL_holds 117 = .ok (.iconst 0, 1) := by decide +kernel
theorem dL_holds_118 : decode cL_holds 118 = .ok (.invokestatic 189, 3) := by decide +kernel
theorem dL_holds_121 : decode cL_holds 121 = .ok (.istore 12, 2) := by decide +kernel
theorem dL_holds_123 : decode cL_holds 123 = .ok (.aload_n 0, 1) := by decide +kernel
theorem dL_holds_124 : decode cL_holds 124 = .ok (.iconst 5, 1) := by decide +kernel
theorem dL_holds_125 : decode cL_holds 125 = .ok (.iload 11, 2) := by decide +kernel
theorem dL_holds_127 : decode cL_holds 127 = .ok (.iconst 2, 1) := by decide +kernel
theorem dL_holds_128 : decode cL_holds 128 = .ok (.iconst 0, 1) := by decide +kernel
theorem dL_holds_129 : decode cL_holds 129 = .ok (.invokestatic 189, 3) := by decide +kernel
theorem dL_holds_132 : decode cL_holds 132 = .ok (.istore 13, 2) := by decide +kernel
theorem dL_holds_134 : decode cL_holds 134 = .ok (.aload_n 0, 1) := by decide +kernel
theorem dL_holds_135 : decode cL_holds 135 = .ok (.iconst 5, 1) := by decide +kernel
theorem dL_holds_136 : decode cL_holds 136 = .ok (.iload 11, 2) := by decide +kernel
theorem dL_holds_138 : decode cL_holds 138 = .ok (.iconst 3, 1) := by decide +kernel
theorem dL_holds_139 : decode cL_holds 139 = .ok (.iconst 0, 1) := by decide +kernel
theorem dL_holds_140 : decode cL_holds 140 = .ok (.invokestatic 189, 3) := by decide +kernel
theorem dL_holds_143 : decode cL_holds 143 = .ok (.istore 14, 2) := by decide +kernel
theorem dL_holds_145 : decode cL_holds 145 = .ok (.iload 6, 2) := by decide +kernel
theorem dL_holds_147 : decode cL_holds 147 = .ok (.iload 12, 2) := by decide +kernel
theorem dL_holds_149 : decode cL_holds 149 = .ok (.iadd, 1) := by decide +kernel
theorem dL_holds_150 : decode cL_holds 150 = .ok (.istore 6, 2) := by decide +kernel
theorem dL_holds_152 : decode cL_holds 152 = .ok (.iload 12, 2) := by decide +kernel
theorem dL_holds_154 : decode cL_holds 154 = .ok (.ifCond .lt 118, 3) := by decide +kernel
theorem dL_holds_157 : decode cL_holds 157 = .ok (.iload 12, 2) := by decide +kernel
theorem dL_holds_159 : decode cL_holds 159 = .ok (.bipush 99, 2) := by decide +kernel
theorem dL_holds_161 : decode cL_holds 161 = .ok (.if_icmp .gt 111, 3) := by decide +kernel
theorem dL_holds_164 : decode cL_holds 164 = .ok (.aload_n 0, 1) := by decide +kernel
theorem dL_holds_165 : decode cL_holds 165 = .ok (.iconst 5, 1) := by decide +kernel
theorem dL_holds_166 : decode cL_holds 166 = .ok (.iload 11, 2) := by decide +kernel
theorem dL_holds_168 : decode cL_holds 168 = .ok (.iconst 4, 1) := by decide +kernel
theorem dL_holds_169 : decode cL_holds 169 = .ok (.iconst 0, 1) := by decide +kernel
theorem dL_holds_170 : decode cL_holds 170 = .ok (.invokestatic 189, 3) := by decide +kernel
theorem dL_holds_173 : decode cL_holds 173 = .ok (.iconst 1, 1) := by decide +kernel
theorem dL_holds_174 : decode cL_holds 174 = .ok (.if_icmp .ne 7, 3) := by decide +kernel
theorem dL_holds_177 : decode cL_holds 177 = .ok (.iconst 1, 1) := by decide +kernel
theorem dL_holds_178 : decode cL_holds 178 = .ok (.goto 4, 3) := by decide +kernel
theorem dL_holds_181 : decode cL_holds 181 = .ok (.iconst 0, 1) := by decide +kernel
theorem dL_holds_182 : decode cL_holds 182 = .ok (.iload 12, 2) := by decide +kernel
theorem dL_holds_184 : decode cL_holds 184 = .ok (.ifCond .le 7, 3) := by decide +kernel
theorem dL_holds_187 : decode cL_holds 187 = .ok (.iconst 1, 1) := by decide +kernel
theorem dL_holds_188 : decode cL_holds 188 = .ok (.goto 4, 3) := by decide +kernel
theorem dL_holds_191 : decode cL_holds 191 = .ok (.iconst 0, 1) := by decide +kernel
theorem dL_holds_192 : decode cL_holds 192 = .ok (.if_icmp .ne 80, 3) := by decide +kernel
theorem dL_holds_195 : decode cL_holds 195 = .ok (.iload 13, 2) := by decide +kernel
theorem dL_holds_197 : decode cL_holds 197 = .ok (.iconst (-1), 1) := by decide +kernel
theorem dL_holds_198 : decode cL_holds 198 = .ok (.if_icmp .ne 7, 3) := by decide +kernel
theorem dL_holds_201 : decode cL_holds 201 = .ok (.iconst 1, 1) := by decide +kernel
theorem dL_holds_202 : decode cL_holds 202 = .ok (.goto 4, 3) := by decide +kernel
theorem dL_holds_205 : decode cL_holds 205 = .ok (.iconst 0, 1) := by decide +kernel
theorem dL_holds_206 : decode cL_holds 206 = .ok (.iload 11, 2) := by decide +kernel
theorem dL_holds_208 : decode cL_holds 208 = .ok (.iload 5, 2) := by decide +kernel
theorem dL_holds_210 : decode cL_holds 210 = .ok (.if_icmp .ne 7, 3) := by decide +kernel
theorem dL_holds_213 : decode cL_holds 213 = .ok (.iconst 1, 1) := by decide +kernel
theorem dL_holds_214 : decode cL_holds 214 = .ok (.goto 4, 3) := by decide +kernel
theorem dL_holds_217 : decode cL_holds 217 = .ok (.iconst 0, 1) := by decide +kernel
theorem dL_holds_218 : decode cL_holds 218 = .ok (.if_icmp .ne 54, 3) := by decide +kernel
theorem dL_holds_221 : decode cL_holds 221 = .ok (.iload 14, 2) := by decide +kernel
theorem dL_holds_223 : decode cL_holds 223 = .ok (.iconst (-1), 1) := by decide +kernel
theorem dL_holds_224 : decode cL_holds 224 = .ok (.if_icmp .ne 7, 3) := by decide +kernel
theorem dL_holds_227 : decode cL_holds 227 = .ok (.iconst 1, 1) := by decide +kernel
theorem dL_holds_228 : decode cL_holds 228 = .ok (.goto 4, 3) := by decide +kernel
theorem dL_holds_231 : decode cL_holds 231 = .ok (.iconst 0, 1) := by decide +kernel
theorem dL_holds_232 : decode cL_holds 232 = .ok (.iload 11, 2) := by decide +kernel
theorem dL_holds_234 : decode cL_holds 234 = .ok (.iload 5, 2) := by decide +kernel
theorem dL_holds_236 : decode cL_holds 236 = .ok (.if_icmp .ne 7, 3) := by decide +kernel
theorem dL_holds_239 : decode cL_holds 239 = .ok (.iconst 1, 1) := by decide +kernel
theorem dL_holds_240 : decode cL_holds 240 = .ok (.goto 4, 3) := by decide +kernel
theorem dL_holds_243 : decode cL_holds 243 = .ok (.iconst 0, 1) := by decide +kernel
theorem dL_holds_244 : decode cL_holds 244 = .ok (.if_icmp .ne 28, 3) := by decide +kernel
theorem dL_holds_247 : decode cL_holds 247 = .ok (.iload 11, 2) := by decide +kernel
theorem dL_holds_249 : decode cL_holds 249 = .ok (.iload 5, 2) := by decide +kernel
theorem dL_holds_251 : decode cL_holds 251 = .ok (.if_icmp .eq 17, 3) := by decide +kernel
theorem dL_holds_254 : decode cL_holds 254 = .ok (.iload 14, 2) := by decide +kernel
theorem dL_holds_256 : decode cL_holds 256 = .ok (.aload_n 0, 1) := by decide +kernel
theorem dL_holds_257 : decode cL_holds 257 = .ok (.iconst 3, 1) := by decide +kernel
theorem dL_holds_258 : decode cL_holds 258 = .ok (.iload 13, 2) := by decide +kernel
theorem dL_holds_260 : decode cL_holds 260 = .ok (.iconst 0, 1) := by decide +kernel
theorem dL_holds_261 : decode cL_holds 261 = .ok (.iconst 0, 1) := by decide +kernel
theorem dL_holds_262 : decode cL_holds 262 = .ok (.invokestatic 189, 3) := by decide +kernel
theorem dL_holds_265 : decode cL_holds 265 = .ok (.if_icmp .ge 7, 3) := by decide +kernel
theorem dL_holds_268 : decode cL_holds 268 = .ok (.iconst 1, 1) := by decide +kernel
theorem dL_holds_269 : decode cL_holds 269 = .ok (.goto 4, 3) := by decide +kernel
theorem dL_holds_272 : decode cL_holds 272 = .ok (.iconst 0, 1) := by decide +kernel
theorem dL_holds_273 : decode cL_holds 273 = .ok (.istore 10, 2) := by decide +kernel
theorem dL_holds_275 : decode cL_holds 275 = .ok (.iinc 11 1, 3) := by decide +kernel
theorem dL_holds_278 : decode cL_holds 278 = .ok (.goto (-177), 3) := by decide +kernel
theorem dL_holds_281 : decode cL_holds 281 = .ok (.iconst 0, 1) := by decide +kernel
theorem dL_holds_282 : decode cL_holds 282 = .ok (.istore 11, 2) := by decide +kernel
theorem dL_holds_284 : decode cL_holds 284 = .ok (.iload 11, 2) := by decide +kernel
theorem dL_holds_286 : decode cL_holds 286 = .ok (.iload_n 1, 1) := by decide +kernel
theorem dL_holds_287 : decode cL_holds 287 = .ok (.if_icmp .ge 336, 3) := by decide +kernel
theorem dL_holds_290 : decode cL_holds 290 = .ok (.iload 10, 2) := by decide +kernel
theorem dL_holds_292 : decode cL_holds 292 = .ok (.ifCond .eq 331, 3) := by decide +kernel
theorem dL_holds_295 : decode cL_holds 295 = .ok (.aload_n 0, 1) := by decide +kernel
theorem dL_holds_296 : decode cL_holds 296 = .ok (.iconst 3, 1) := by decide +kernel
theorem dL_holds_297 : decode cL_holds 297 = .ok (.iload 11, 2) := by decide +kernel
theorem dL_holds_299 : decode cL_holds 299 = .ok (.iconst 0, 1) := by decide +kernel
theorem dL_holds_300 : decode cL_holds 300 = .ok (.iconst 0, 1) := by decide +kernel
theorem dL_holds_301 : decode cL_holds 301 = .ok (.invokestatic 189, 3) := by decide +kernel
theorem dL_holds_304 : decode cL_holds 304 = .ok (.istore 12, 2) := by decide +kernel
theorem dL_holds_306 : decode cL_holds 306 = .ok (.aload_n 0, 1) := by decide +kernel
theorem dL_holds_307 : decode cL_holds 307 = .ok (.iconst 3, 1) := by decide +kernel
theorem dL_holds_308 : decode cL_holds 308 = .ok (.iload 11, 2) := by decide +kernel
theorem dL_holds_310 : decode cL_holds 310 = .ok (.iconst 1, 1) := by decide +kernel
theorem dL_holds_311 : decode cL_holds 311 = .ok (.iconst 0, 1) := by decide +kernel
theorem dL_holds_312 : decode cL_holds 312 = .ok (.invokestatic 189, 3) := by decide +kernel
theorem dL_holds_315 : decode cL_holds 315 = .ok (.istore 13, 2) := by decide +kernel
theorem dL_holds_317 : decode cL_holds 317 = .ok (.iconst 0, 1) := by decide +kernel
theorem dL_holds_318 : decode cL_holds 318 = .ok (.istore 14, 2) := by decide +kernel
theorem dL_holds_320 : decode cL_holds 320 = .ok (.iconst 0, 1) := by decide +kernel
theorem dL_holds_321 : decode cL_holds 321 = .ok (.istore 15, 2) := by decide +kernel
theorem dL_holds_323 : decode cL_holds 323 = .ok (.iload 8, 2) := by decide +kernel
theorem dL_holds_325 : decode cL_holds 325 = .ok (.aload_n 0, 1) := by decide +kernel
theorem dL_holds_326 : decode cL_holds 326 = .ok (.iconst 3, 1) := by decide +kernel
theorem dL_holds_327 : decode cL_holds 327 = .ok (.iload 11, 2) := by decide +kernel
theorem dL_holds_329 : decode cL_holds 329 = .ok (.iconst 4, 1) := by decide +kernel
theorem dL_holds_330 : decode cL_holds 330 = .ok (.iconst 0, 1) := by decide +kernel
theorem dL_holds_331 : decode cL_holds 331 = .ok (.invokestatic 189, 3) := by decide +kernel
theorem dL_holds_334 : decode cL_holds 334 = .ok (.iadd, 1) := by decide +kernel
theorem dL_holds_335 : decode cL_holds 335 = .ok (.istore 8, 2) := by decide +kernel
theorem dL_holds_337 : decode cL_holds 337 = .ok (.iload 9, 2) := by decide +kernel
theorem dL_holds_339 : decode cL_holds 339 = .ok (.aload_n 0, 1) := by decide +kernel
theorem dL_holds_340 : decode cL_holds 340 = .ok (.iconst 3, 1) := by decide +kernel
theorem dL_holds_341 : decode cL_holds 341 = .ok (.iload 11, 2) := by decide +kernel
theorem dL_holds_343 : decode cL_holds 343 = .ok (.iconst 5, 1) := by decide +kernel
theorem dL_holds_344 : decode cL_holds 344 = .ok (.iconst 0, 1) := by decide +kernel
theorem dL_holds_345 : decode cL_holds 345 = .ok (.invokestatic 189, 3) := by decide +kernel
theorem dL_holds_348 : decode cL_holds 348 = .ok (.iadd, 1) := by decide +kernel
theorem dL_holds_349 : decode cL_holds 349 = .ok (.istore 9, 2) := by decide +kernel
theorem dL_holds_351 : decode cL_holds 351 = .ok (.iconst 0, 1) := by decide +kernel
theorem dL_holds_352 : decode cL_holds 352 = .ok (.istore 16, 2) := by decide +kernel
theorem dL_holds_354 : decode cL_holds 354 = .ok (.iconst 0, 1) := by decide +kernel
theorem dL_holds_355 : decode cL_holds 355 = .ok (.istore 17, 2) := by decide +kernel
theorem dL_holds_357 : decode cL_holds 357 = .ok (.iload 17, 2) := by decide +kernel
theorem dL_holds_359 : decode cL_holds 359 = .ok (.iload 12, 2) := by decide +kernel
theorem dL_holds_361 : decode cL_holds 361 = .ok (.if_icmp .gt 136, 3) := by decide +kernel
theorem dL_holds_364 : decode cL_holds 364 = .ok (.iload 10, 2) := by decide +kernel
theorem dL_holds_366 : decode cL_holds 366 = .ok (.ifCond .eq 131, 3) := by decide +kernel
theorem dL_holds_369 : decode cL_holds 369 = .ok (.iconst 0, 1) := by decide +kernel
theorem dL_holds_370 : decode cL_holds 370 = .ok (.istore 18, 2) := by decide +kernel
theorem dL_holds_372 : decode cL_holds 372 = .ok (.iconst 0, 1) := by decide +kernel
theorem dL_holds_373 : decode cL_holds 373 = .ok (.istore 19, 2) := by decide +kernel
theorem dL_holds_375 : decode cL_holds 375 = .ok (.iload 19, 2) := by decide +kernel
theorem dL_holds_377 : decode cL_holds 377 = .ok (.iload_n 3, 1) := by decide +kernel
theorem dL_holds_378 : decode cL_holds 378 = .ok (.if_icmp .ge 87, 3) := by decide +kernel
theorem dL_holds_381 : decode cL_holds 381 = .ok (.aload_n 0, 1) := by decide +kernel
theorem dL_holds_382 : decode cL_holds 382 = .ok (.iconst 5, 1) := by decide +kernel
theorem dL_holds_383 : decode cL_holds 383 = .ok (.iload 19, 2) := by decide +kernel
theorem dL_holds_385 : decode cL_holds 385 = .ok (.iconst 3, 1) := by decide +kernel
theorem dL_holds_386 : decode cL_holds 386 = .ok (.iconst 0, 1) := by decide +kernel
theorem dL_holds_387 : decode cL_holds 387 = .ok (.invokestatic 189, 3) := by decide +kernel
theorem dL_holds_390 : decode cL_holds 390 = .ok (.iload 17, 2) := by decide +kernel
theorem dL_holds_392 : decode cL_holds 392 = .ok (.isub, 1) := by decide +kernel
theorem dL_holds_393 : decode cL_holds 393 = .ok (.istore 20, 2) := by decide +kernel
theorem dL_holds_395 : decode cL_holds 395 = .ok (.aload_n 0, 1) := by decide +kernel
theorem dL_holds_396 : decode cL_holds 396 = .ok (.iconst 5, 1) := by decide +kernel
theorem dL_holds_397 : decode cL_holds 397 = .ok (.iload 19, 2) := by decide +kernel
theorem dL_holds_399 : decode cL_holds 399 = .ok (.iconst 0, 1) := by decide +kernel
theorem dL_holds_400 : decode cL_holds 400 = .ok (.iconst 0, 1) := by decide +kernel
theorem dL_holds_401 : decode cL_holds 401 = .ok (.invokestatic 189, 3) := by decide +kernel
theorem dL_holds_404 : decode cL_holds 404 = .ok (.istore 21, 2) := by decide +kernel
theorem dL_holds_406 : decode cL_holds 406 = .ok (.iload 18, 2) := by decide +kernel
theorem dL_holds_408 : decode cL_holds 408 = .ok (.ifCond .ne 44, 3) := by decide +kernel
theorem dL_holds_411 : decode cL_holds 411 = .ok (.aload_n 0, 1) := by decide +kernel
theorem dL_holds_412 : decode cL_holds 412 = .ok (.iconst 5, 1) := by decide +kernel
theorem dL_holds_413 : decode cL_holds 413 = .ok (.iload 19, 2) := by decide +kernel
theorem dL_holds_415 : decode cL_holds 415 = .ok (.iconst 2, 1) := by decide +kernel
theorem dL_holds_416 : decode cL_holds 416 = .ok (.iconst 0, 1) := by decide +kernel
theorem dL_holds_417 : decode cL_holds 417 = .ok (.invokestatic 189, 3) := by decide +kernel
theorem dL_holds_420 : decode cL_holds 420 = .ok (.iload 11, 2) := by decide +kernel
theorem dL_holds_422 : decode cL_holds 422 = .ok (.if_icmp .ne 34, 3) := by decide +kernel
theorem dL_holds_425 : decode cL_holds 425 = .ok (.aload_n 0, 1) := by decide +kernel
theorem dL_holds_426 : decode cL_holds 426 = .ok (.iconst 5, 1) := by decide +kernel
theorem dL_holds_427 : decode cL_holds 427 = .ok (.iload 19, 2) := by decide +kernel
theorem dL_holds_429 : decode cL_holds 429 = .ok (.iconst 1, 1) := by decide +kernel
theorem dL_holds_430 : decode cL_holds 430 = .ok (.iconst 0, 1) := by decide +kernel
theorem dL_holds_431 : decode cL_holds 431 = .ok (.invokestatic 189, 3) := by decide +kernel
theorem dL_holds_434 : decode cL_holds 434 = .ok (.ifCond .le 22, 3) := by decide +kernel
theorem dL_holds_437 : decode cL_holds 437 = .ok (.iload 20, 2) := by decide +kernel
theorem dL_holds_439 : decode cL_holds 439 = .ok (.iload 21, 2) := by decide +kernel
theorem dL_holds_441 : decode cL_holds 441 = .ok (.if_icmp .gt 15, 3) := by decide +kernel
theorem dL_holds_444 : decode cL_holds 444 = .ok (.iload 20, 2) := by decide +kernel
theorem dL_holds_446 : decode cL_holds 446 = .ok (.ineg, 1) := by decide +kernel
theorem dL_holds_447 : decode cL_holds 447 = .ok (.iload 21, 2) := by decide +kernel
theorem dL_holds_449 : decode cL_holds 449 = .ok (.if_icmp .gt 7, 3) := by decide +kernel
theorem dL_holds_452 : decode cL_holds 452 = .ok (.iconst 1, 1) := by decide +kernel
theorem dL_holds_453 : decode cL_holds 453 = .ok (.goto 4, 3) := by decide +kernel
theorem dL_holds_456 : decode cL_holds 456 = .ok (.iconst 0, 1) := by decide +kernel
theorem dL_holds_457 : decode cL_holds 457 = .ok (.istore 18, 2) := by decide +kernel
theorem dL_holds_459 : decode cL_holds 459 = .ok (.iinc 19 1, 3) := by decide +kernel
theorem dL_holds_462 : decode cL_holds 462 = .ok (.goto (-87), 3) := by decide +kernel
theorem dL_holds_465 : decode cL_holds 465 = .ok (.iload 16, 2) := by decide +kernel
theorem dL_holds_467 : decode cL_holds 467 = .ok (.iload 18, 2) := by decide +kernel
theorem dL_holds_469 : decode cL_holds 469 = .ok (.ifCond .eq 14, 3) := by decide +kernel
theorem dL_holds_472 : decode cL_holds 472 = .ok (.iload 17, 2) := by decide +kernel
theorem dL_holds_474 : decode cL_holds 474 = .ok (.iload 12, 2) := by decide +kernel
theorem dL_holds_476 : decode cL_holds 476 = .ok (.if_icmp .ge 7, 3) := by decide +kernel
theorem dL_holds_479 : decode cL_holds 479 = .ok (.iconst 1, 1) := by decide +kernel
theorem dL_holds_480 : decode cL_holds 480 = .ok (.goto 4, 3) := by decide +kernel
theorem dL_holds_483 : decode cL_holds 483 = .ok (.iconst 0, 1) := by decide +kernel
theorem dL_holds_484 : decode cL_holds 484 = .ok (.iadd, 1) := by decide +kernel
theorem dL_holds_485 : decode cL_holds 485 = .ok (.istore 16, 2) := by decide +kernel
theorem dL_holds_487 : decode cL_holds 487 = .ok (.iload 18, 2) := by decide +kernel
theorem dL_holds_489 : decode cL_holds 489 = .ok (.istore 15, 2) := by decide +kernel
theorem dL_holds_491 : decode cL_holds 491 = .ok (.iinc 17 1, 3) := by decide +kernel
theorem dL_holds_494 : decode cL_holds 494 = .ok (.goto (-137), 3) := by decide +kernel
theorem dL_holds_497 : decode cL_holds 497 = .ok (.aload_n 0, 1) := by decide +kernel
theorem dL_holds_498 : decode cL_holds 498 = .ok (.iconst 3, 1) := by decide +kernel
theorem dL_holds_499 : decode cL_holds 499 = .ok (.iload 11, 2) := by decide +kernel
theorem dL_holds_501 : decode cL_holds 501 = .ok (.iconst 2, 1) := by decide +kernel
theorem dL_holds_502 : decode cL_holds 502 = .ok (.iconst 0, 1) := by decide +kernel
theorem dL_holds_503 : decode cL_holds 503 = .ok (.invokestatic 189, 3) := by decide +kernel
theorem dL_holds_506 : decode cL_holds 506 = .ok (.istore 14, 2) := by decide +kernel
theorem dL_holds_508 : decode cL_holds 508 = .ok (.iload 10, 2) := by decide +kernel
theorem dL_holds_510 : decode cL_holds 510 = .ok (.ifCond .eq 104, 3) := by decide +kernel
theorem dL_holds_513 : decode cL_holds 513 = .ok (.iload 12, 2) := by decide +kernel
theorem dL_holds_515 : decode cL_holds 515 = .ok (.ifCond .le 99, 3) := by decide +kernel
theorem dL_holds_518 : decode cL_holds 518 = .ok (.iload 12, 2) := by decide +kernel
theorem dL_holds_520 : decode cL_holds 520 = .ok (.bipush 60, 2) := by decide +kernel
theorem dL_holds_522 : decode cL_holds 522 = .ok (.if_icmp .gt 92, 3) := by decide +kernel
theorem dL_holds_525 : decode cL_holds 525 = .ok (.iload 13, 2) := by decide +kernel
theorem dL_holds_527 : decode cL_holds 527 = .ok (.ifCond .lt 87, 3) := by decide +kernel
theorem dL_holds_530 : decode cL_holds 530 = .ok (.iload 12, 2) := by decide +kernel
theorem dL_holds_532 : decode cL_holds 532 = .ok (.bipush 60, 2) := by decide +kernel
theorem dL_holds_534 : decode cL_holds 534 = .ok (.if_icmp .eq 10, 3) := by decide +kernel
theorem dL_holds_537 : decode cL_holds 537 = .ok (.iload 13, 2) := by decide +kernel
theorem dL_holds_539 : decode cL_holds 539 = .ok (.iload 14, 2) := by decide +kernel
theorem dL_holds_541 : decode cL_holds 541 = .ok (.if_icmp .ge 73, 3) := by decide +kernel
theorem dL_holds_544 : decode cL_holds 544 = .ok (.iload 14, 2) := by decide +kernel
theorem dL_holds_546 : decode cL_holds 546 = .ok (.iconst 3, 1) := by decide +kernel
theorem dL_holds_547 : decode cL_holds 547 = .ok (.if_icmp .lt 67, 3) := by decide +kernel
theorem dL_holds_550 : decode cL_holds 550 = .ok (.iload 14, 2) := by decide +kernel
theorem dL_holds_552 : decode cL_holds 552 = .ok (.bipush 8, 2) := by decide +kernel
theorem dL_holds_554 : decode cL_holds 554 = .ok (.if_icmp .gt 60, 3) := by decide +kernel
theorem dL_holds_557 : decode cL_holds 557 = .ok (.aload_n 0, 1) := by decide +kernel
theorem dL_holds_558 : decode cL_holds 558 = .ok (.iconst 3, 1) := by decide +kernel
theorem dL_holds_559 : decode cL_holds 559 = .ok (.iload 11, 2) := by decide +kernel
theorem dL_holds_561 : decode cL_holds 561 = .ok (.iconst 3, 1) := by decide +kernel
theorem dL_holds_562 : decode cL_holds 562 = .ok (.iconst 0, 1) := by decide +kernel
theorem dL_holds_563 : decode cL_holds 563 = .ok (.invokestatic 189, 3) := by decide +kernel
theorem dL_holds_566 : decode cL_holds 566 = .ok (.iconst 1, 1) := by decide +kernel
theorem dL_holds_567 : decode cL_holds 567 = .ok (.if_icmp .ne 7, 3) := by decide +kernel
theorem dL_holds_570 : decode cL_holds 570 = .ok (.iconst 1, 1) := by decide +kernel
theorem dL_holds_571 : decode cL_holds 571 = .ok (.goto 4, 3) := by decide +kernel
theorem dL_holds_574 : decode cL_holds 574 = .ok (.iconst 0, 1) := by decide +kernel
theorem dL_holds_575 : decode cL_holds 575 = .ok (.iload 15, 2) := by decide +kernel
theorem dL_holds_577 : decode cL_holds 577 = .ok (.if_icmp .ne 37, 3) := by decide +kernel
theorem dL_holds_580 : decode cL_holds 580 = .ok (.aload_n 0, 1) := by decide +kernel
theorem dL_holds_581 : decode cL_holds 581 = .ok (.bipush 8, 2) := by decide +kernel
theorem dL_holds_583 : decode cL_holds 583 = .ok (.iload 11, 2) := by decide +kernel
theorem dL_holds_585 : decode cL_holds 585 = .ok (.iconst 0, 1) := by decide +kernel
theorem dL_holds_586 : decode cL_holds 586 = .ok (.iconst 0, 1) := by decide +kernel
theorem dL_holds_587 : decode cL_holds 587 = .ok (.invokestatic 189, 3) := by decide +kernel
theorem dL_holds_590 : decode cL_holds 590 = .ok (.iload 16, 2) := by decide +kernel
theorem dL_holds_592 : decode cL_holds 592 = .ok (.if_icmp .ne 22, 3) := by decide +kernel
theorem dL_holds_595 : decode cL_holds 595 = .ok (.aload_n 0, 1) := by decide +kernel
theorem dL_holds_596 : decode cL_holds 596 = .ok (.bipush 8, 2) := by decide +kernel
theorem dL_holds_598 : decode cL_holds 598 = .ok (.iload 11, 2) := by decide +kernel
theorem dL_holds_600 : decode cL_holds 600 = .ok (.iconst 1, 1) := by decide +kernel
theorem dL_holds_601 : decode cL_holds 601 = .ok (.iconst 0, 1) := by decide +kernel
theorem dL_holds_602 : decode cL_holds 602 = .ok (.invokestatic 189, 3) := by decide +kernel
theorem dL_holds_605 : decode cL_holds 605 = .ok (.iload 16, 2) := by decide +kernel
theorem dL_holds_607 : decode cL_holds 607 = .ok (.if_icmp .ne 7, 3) := by decide +kernel
theorem dL_holds_610 : decode cL_holds 610 = .ok (.iconst 1, 1) := by decide +kernel
theorem dL_holds_611 : decode cL_holds 611 = .ok (.goto 4, 3) := by decide +kernel
theorem dL_holds_614 : decode cL_holds 614 = .ok (.iconst 0, 1) := by decide +kernel
theorem dL_holds_615 : decode cL_holds 615 = .ok (.istore 10, 2) := by decide +kernel
theorem dL_holds_617 : decode cL_holds 617 = .ok (.iinc 11 1, 3) := by decide +kernel
theorem dL_holds_620 : decode cL_holds 620 = .ok (.goto (-336), 3) := by decide +kernel
theorem dL_holds_623 : decode cL_holds 623 = .ok (.iconst 0, 1) := by decide +kernel
theorem dL_holds_624 : decode cL_holds 624 = .ok (.istore 11, 2) := by decide +kernel
theorem dL_holds_626 : decode cL_holds 626 = .ok (.iload 11, 2) := by decide +kernel
theorem dL_holds_628 : decode cL_holds 628 = .ok (.iload_n 2, 1) := by decide +kernel
theorem dL_holds_629 : decode cL_holds 629 = .ok (.if_icmp .ge 90, 3) := by decide +kernel
theorem dL_holds_632 : decode cL_holds 632 = .ok (.iload 10, 2) := by decide +kernel
theorem dL_holds_634 : decode cL_holds 634 = .ok (.ifCond .eq 85, 3) := by decide +kernel
theorem dL_holds_637 : decode cL_holds 637 = .ok (.iload 7, 2) := by decide +kernel
theorem dL_holds_639 : decode cL_holds 639 = .ok (.aload_n 0, 1) := by decide +kernel
theorem dL_holds_640 : decode cL_holds 640 = .ok (.iconst 4, 1) := by decide +kernel
theorem dL_holds_641 : decode cL_holds 641 = .ok (.iload 11, 2) := by decide +kernel
theorem dL_holds_643 : decode cL_holds 643 = .ok (.iconst 3, 1) := by decide +kernel
theorem dL_holds_644 : decode cL_holds 644 = .ok (.iconst 0, 1) := by decide +kernel
theorem dL_holds_645 : decode cL_holds 645 = .ok (.invokestatic 189, 3) := by decide +kernel
theorem dL_holds_648 : decode cL_holds 648 = .ok (.iadd, 1) := by decide +kernel
theorem dL_holds_649 : decode cL_holds 649 = .ok (.istore 7, 2) := by decide +kernel
theorem dL_holds_651 : decode cL_holds 651 = .ok (.aload_n 0, 1) := by decide +kernel
theorem dL_holds_652 : decode cL_holds 652 = .ok (.iconst 4, 1) := by decide +kernel
theorem dL_holds_653 : decode cL_holds 653 = .ok (.iload 11, 2) := by decide +kernel
theorem dL_holds_655 : decode cL_holds 655 = .ok (.iconst 0, 1) := by decide +kernel
theorem dL_holds_656 : decode cL_holds 656 = .ok (.iconst 0, 1) := by decide +kernel
theorem dL_holds_657 : decode cL_holds 657 = .ok (.invokestatic 189, 3) := by decide +kernel
theorem dL_holds_660 : decode cL_holds 660 = .ok (.iload_n 1, 1) := by decide +kernel
theorem dL_holds_661 : decode cL_holds 661 = .ok (.if_icmp .ge 49, 3) := by decide +kernel
theorem dL_holds_664 : decode cL_holds 664 = .ok (.aload_n 0, 1) := by decide +kernel
theorem dL_holds_665 : decode cL_holds 665 = .ok (.iconst 4, 1) := by decide +kernel
theorem dL_holds_666 : decode cL_holds 666 = .ok (.iload 11, 2) := by decide +kernel
theorem dL_holds_668 : decode cL_holds 668 = .ok (.iconst 2, 1) := by decide +kernel
theorem dL_holds_669 : decode cL_holds 669 = .ok (.iconst 0, 1) := by decide +kernel
theorem dL_holds_670 : decode cL_holds 670 = .ok (.invokestatic 189, 3) := by decide +kernel
theorem dL_holds_673 : decode cL_holds 673 = .ok (.aload_n 0, 1) := by decide +kernel
theorem dL_holds_674 : decode cL_holds 674 = .ok (.iconst 4, 1) := by decide +kernel
theorem dL_holds_675 : decode cL_holds 675 = .ok (.iload 11, 2) := by decide +kernel
theorem dL_holds_677 : decode cL_holds 677 = .ok (.iconst 1, 1) := by decide +kernel
theorem dL_holds_678 : decode cL_holds 678 = .ok (.iconst 0, 1) := by decide +kernel
theorem dL_holds_679 : decode cL_holds 679 = .ok (.invokestatic 189, 3) := by decide +kernel
theorem dL_holds_682 : decode cL_holds 682 = .ok (.irem, 1) := by decide +kernel
theorem dL_holds_683 : decode cL_holds 683 = .ok (.ifCond .ne 27, 3) := by decide +kernel
theorem dL_holds_686 : decode cL_holds 686 = .ok (.aload_n 0, 1) := by decide +kernel
theorem dL_holds_687 : decode cL_holds 687 = .ok (.iconst 4, 1) := by decide +kernel
theorem dL_holds_688 : decode cL_holds 688 = .ok (.iload 11, 2) := by decide +kernel
theorem dL_holds_690 : decode cL_holds 690 = .ok (.iconst 3, 1) := by decide +kernel
theorem dL_holds_691 : decode cL_holds 691 = .ok (.iconst 0, 1) := by decide +kernel
theorem dL_holds_692 : decode cL_holds 692 = .ok (.invokestatic 189, 3) := by decide +kernel
theorem dL_holds_695 : decode cL_holds 695 = .ok (.aload_n 0, 1) := by decide +kernel
theorem dL_holds_696 : decode cL_holds 696 = .ok (.iconst 2, 1) := by decide +kernel
theorem dL_holds_697 : decode cL_holds 697 = .ok (.iconst 3, 1) := by decide +kernel
theorem dL_holds_698 : decode cL_holds 698 = .ok (.iconst 0, 1) := by decide +kernel
theorem dL_holds_699 : decode cL_holds 699 = .ok (.iconst 0, 1) := by decide +kernel
theorem dL_holds_700 : decode cL_holds 700 = .ok (.invokestatic 189, 3) := by decide +kernel
theorem dL_holds_703 : decode cL_holds 703 = .ok (.if_icmp .gt 7, 3) := by decide +kernel
theorem dL_holds_706 : decode cL_holds 706 = .ok (.iconst 1, 1) := by decide +kernel
theorem dL_holds_707 : decode cL_holds 707 = .ok (.goto 4, 3) := by decide +kernel
theorem dL_holds_710 : decode cL_holds 710 = .ok (.iconst 0, 1) := by decide +kernel
theorem dL_holds_711 : decode cL_holds 711 = .ok (.istore 10, 2) := by decide +kernel
theorem dL_holds_713 : decode cL_holds 713 = .ok (.iinc 11 1, 3) := by decide +kernel
theorem dL_holds_716 : decode cL_holds 716 = .ok (.goto (-90), 3) := by decide +kernel
theorem dL_holds_719 : decode cL_holds 719 = .ok (.iconst 0, 1) := by decide +kernel
theorem dL_holds_720 : decode cL_holds 720 = .ok (.istore 11, 2) := by decide +kernel
theorem dL_holds_722 : decode cL_holds 722 = .ok (.iload 11, 2) := by decide +kernel
theorem dL_holds_724 : decode cL_holds 724 = .ok (.iload 4, 2) := by decide +kernel
theorem dL_holds_726 : decode cL_holds 726 = .ok (.if_icmp .ge 123, 3) := by decide +kernel
theorem dL_holds_729 : decode cL_holds 729 = .ok (.iload 10, 2) := by decide +kernel
theorem dL_holds_731 : decode cL_holds 731 = .ok (.ifCond .eq 118, 3) := by decide +kernel
theorem dL_holds_734 : decode cL_holds 734 = .ok (.aload_n 0, 1) := by decide +kernel
theorem dL_holds_735 : decode cL_holds 735 = .ok (.bipush 7, 2) := by decide +kernel
theorem dL_holds_737 : decode cL_holds 737 = .ok (.iload 11, 2) := by decide +kernel
theorem dL_holds_739 : decode cL_holds 739 = .ok (.iconst 0, 1) := by decide +kernel
theorem dL_holds_740 : decode cL_holds 740 = .ok (.iconst 0, 1) := by decide +kernel
theorem dL_holds_741 : decode cL_holds 741 = .ok (.invokestatic 189, 3) := by decide +kernel
theorem dL_holds_744 : decode cL_holds 744 = .ok (.istore 12, 2) := by decide +kernel
theorem dL_holds_746 : decode cL_holds 746 = .ok (.iload 12, 2) := by decide +kernel
theorem dL_holds_748 : decode cL_holds 748 = .ok (.ifCond .lt 92, 3) := by decide +kernel
theorem dL_holds_751 : decode cL_holds 751 = .ok (.iload 12, 2) := by decide +kernel
theorem dL_holds_753 : decode cL_holds 753 = .ok (.iconst 2, 1) := by decide +kernel
theorem dL_holds_754 : decode cL_holds 754 = .ok (.if_icmp .ge 86, 3) := by decide +kernel
theorem dL_holds_757 : decode cL_holds 757 = .ok (.aload_n 0, 1) := by decide +kernel
theorem dL_holds_758 : decode cL_holds 758 = .ok (.bipush 7, 2) := by decide +kernel
theorem dL_holds_760 : decode cL_holds 760 = .ok (.iload 11, 2) := by decide +kernel
theorem dL_holds_762 : decode cL_holds 762 = .ok (.iconst 1, 1) := by decide +kernel
theorem dL_holds_763 : decode cL_holds 763 = .ok (.iconst 0, 1) := by decide +kernel
theorem dL_holds_764 : decode cL_holds 764 = .ok (.invokestatic 189, 3) := by decide +kernel
theorem dL_holds_767 : decode cL_holds 767 = .ok (.iload_n 3, 1) := by decide +kernel
theorem dL_holds_768 : decode cL_holds 768 = .ok (.if_icmp .ge 72, 3) := by decide +kernel
theorem dL_holds_771 : decode cL_holds 771 = .ok (.iload 12, 2) := by decide +kernel
theorem dL_holds_773 : decode cL_holds 773 = .ok (.ifCond .ne 36, 3) := by decide +kernel
theorem dL_holds_776 : decode cL_holds 776 = .ok (.aload_n 0, 1) := by decide +kernel
theorem dL_holds_777 : decode cL_holds 777 = .ok (.bipush 7, 2) := by decide +kernel
theorem dL_holds_779 : decode cL_holds 779 = .ok (.iload 11, 2) := by decide +kernel
theorem dL_holds_781 : decode cL_holds 781 = .ok (.iconst 3, 1) := by decide +kernel
theorem dL_holds_782 : decode cL_holds 782 = .ok (.iconst 0, 1) := by decide +kernel
theorem dL_holds_783 : decode cL_holds 783 = .ok (.invokestatic 189, 3) := by decide +kernel
theorem dL_holds_786 : decode cL_holds 786 = .ok (.aload_n 0, 1) := by decide +kernel
theorem dL_holds_787 : decode cL_holds 787 = .ok (.iconst 3, 1) := by decide +kernel
theorem dL_holds_788 : decode cL_holds 788 = .ok (.aload_n 0, 1) := by decide +kernel
theorem dL_holds_789 : decode cL_holds 789 = .ok (.bipush 7, 2) := by decide +kernel
theorem dL_holds_791 : decode cL_holds 791 = .ok (.iload 11, 2) := by decide +kernel
theorem dL_holds_793 : decode cL_holds 793 = .ok (.iconst 2, 1) := by decide +kernel
theorem dL_holds_794 : decode cL_holds 794 = .ok (.iconst 0, 1) := by decide +kernel
theorem dL_holds_795 : decode cL_holds 795 = .ok (.invokestatic 189, 3) := by decide +kernel
theorem dL_holds_798 : decode cL_holds 798 = .ok (.iconst 0, 1) := by decide +kernel
theorem dL_holds_799 : decode cL_holds 799 = .ok (.iconst 0, 1) := by decide +kernel
theorem dL_holds_800 : decode cL_holds 800 = .ok (.invokestatic 189, 3) := by decide +kernel
theorem dL_holds_803 : decode cL_holds 803 = .ok (.if_icmp .ge 37, 3) := by decide +kernel
theorem dL_holds_806 : decode cL_holds 806 = .ok (.goto 30, 3) := by decide +kernel
theorem dL_holds_809 : decode cL_holds 809 = .ok (.aload_n 0, 1) := by decide +kernel
theorem dL_holds_810 : decode cL_holds 810 = .ok (.bipush 7, 2) := by decide +kernel
theorem dL_holds_812 : decode cL_holds 812 = .ok (.iload 11, 2) := by decide +kernel
theorem dL_holds_814 : decode cL_holds 814 = .ok (.iconst 2, 1) := by decide +kernel
theorem dL_holds_815 : decode cL_holds 815 = .ok (.iconst 0, 1) := by decide +kernel
theorem dL_holds_816 : decode cL_holds 816 = .ok (.invokestatic 189, 3) := by decide +kernel
theorem dL_holds_819 : decode cL_holds 819 = .ok (.ifCond .le 21, 3) := by decide +kernel
theorem dL_holds_822 : decode cL_holds 822 = .ok (.aload_n 0, 1) := by decide +kernel
theorem dL_holds_823 : decode cL_holds 823 = .ok (.bipush 7, 2) := by decide +kernel
theorem dL_holds_825 : decode cL_holds 825 = .ok (.iload 11, 2) := by decide +kernel
theorem dL_holds_827 : decode cL_holds 827 = .ok (.iconst 3, 1) := by decide +kernel
theorem dL_holds_828 : decode cL_holds 828 = .ok (.iconst 0, 1) := by decide +kernel
theorem dL_holds_829 : decode cL_holds 829 = .ok (.invokestatic 189, 3) := by decide +kernel
theorem dL_holds_832 : decode cL_holds 832 = .ok (.iconst (-1), 1) := by decide +kernel
theorem dL_holds_833 : decode cL_holds 833 = .ok (.if_icmp .ne 7, 3) := by decide +kernel
theorem dL_holds_836 : decode cL_holds 836 = .ok (.iconst 1, 1) := by decide +kernel
theorem dL_holds_837 : decode cL_holds 837 = .ok (.goto 4, 3) := by decide +kernel
theorem dL_holds_840 : decode cL_holds 840 = .ok (.iconst 0, 1) := by decide +kernel
theorem dL_holds_841 : decode cL_holds 841 = .ok (.istore 10, 2) := by decide +kernel
theorem dL_holds_843 : decode cL_holds 843 = .ok (.iinc 11 1, 3) := by decide +kernel
theorem dL_holds_846 : decode cL_holds 846 = .ok (.goto (-124), 3) := by decide +kernel
theorem dL_holds_849 : decode cL_holds 849 = .ok (.aload_n 0, 1) := by decide +kernel
theorem dL_holds_850 : decode cL_holds 850 = .ok (.iconst 2, 1) := by decide +kernel
theorem dL_holds_851 : decode cL_holds 851 = .ok (.bipush 6, 2) := by decide +kernel
theorem dL_holds_853 : decode cL_holds 853 = .ok (.iconst 0, 1) := by decide +kernel
theorem dL_holds_854 : decode cL_holds 854 = .ok (.iconst 0, 1) := by decide +kernel
theorem dL_holds_855 : decode cL_holds 855 = .ok (.invokestatic 189, 3) := by decide +kernel
theorem dL_holds_858 : decode cL_holds 858 = .ok (.istore 11, 2) := by decide +kernel
theorem dL_holds_860 : decode cL_holds 860 = .ok (.iload 10, 2) := by decide +kernel
theorem dL_holds_862 : decode cL_holds 862 = .ok (.ifCond .eq 278, 3) := by decide +kernel
theorem dL_holds_865 : decode cL_holds 865 = .ok (.iload 8, 2) := by decide +kernel
theorem dL_holds_867 : decode cL_holds 867 = .ok (.iload_n 2, 1) := by decide +kernel
theorem dL_holds_868 : decode cL_holds 868 = .ok (.if_icmp .ne 272, 3) := by decide +kernel
theorem dL_holds_871 : decode cL_holds 871 = .ok (.iload 9, 2) := by decide +kernel
theorem dL_holds_873 : decode cL_holds 873 = .ok (.iload_n 3, 1) := by decide +kernel
theorem dL_holds_874 : decode cL_holds 874 = .ok (.iload 5, 2) := by decide +kernel
theorem dL_holds_876 : decode cL_holds 876 = .ok (.iconst (-1), 1) := by decide +kernel
theorem dL_holds_877 : decode cL_holds 877 = .ok (.if_icmp .ne 7, 3) := by decide +kernel
theorem dL_holds_880 : decode cL_holds 880 = .ok (.iconst 0, 1) := by decide +kernel
theorem dL_holds_881 : decode cL_holds 881 = .ok (.goto 4, 3) := by decide +kernel
theorem dL_holds_884 : decode cL_holds 884 = .ok (.iconst 1, 1) := by decide +kernel
theorem dL_holds_885 : decode cL_holds 885 = .ok (.isub, 1) := by decide +kernel
theorem dL_holds_886 : decode cL_holds 886 = .ok (.if_icmp .ne 254, 3) := by decide +kernel
theorem dL_holds_889 : decode cL_holds 889 = .ok (.iload 7, 2) := by decide +kernel
theorem dL_holds_891 : decode cL_holds 891 = .ok (.aload_n 0, 1) := by decide +kernel
theorem dL_holds_892 : decode cL_holds 892 = .ok (.iconst 2, 1) := by decide +kernel
theorem dL_holds_893 : decode cL_holds 893 = .ok (.bipush 11, 2) := by decide +kernel
theorem dL_holds_895 : decode cL_holds 895 = .ok (.iconst 0, 1) := by decide +kernel
theorem dL_holds_896 : decode cL_holds 896 = .ok (.iconst 0, 1) := by decide +kernel
theorem dL_holds_897 : decode cL_holds 897 = .ok (.invokestatic 189, 3) := by decide +kernel
theorem dL_holds_900 : decode cL_holds 900 = .ok (.if_icmp .ne 240, 3) := by decide +kernel
theorem dL_holds_903 : decode cL_holds 903 = .ok (.iload 6, 2) := by decide +kernel
theorem dL_holds_905 : decode cL_holds 905 = .ok (.aload_n 0, 1) := by decide +kernel
theorem dL_holds_906 : decode cL_holds 906 = .ok (.iconst 2, 1) := by decide +kernel
theorem dL_holds_907 : decode cL_holds 907 = .ok (.iconst 5, 1) := by decide +kernel
theorem dL_holds_908 : decode cL_holds 908 = .ok (.iconst 0, 1) := by decide +kernel
theorem dL_holds_909 : decode cL_holds 909 = .ok (.iconst 0, 1) := by decide +kernel
theorem dL_holds_910 : decode cL_holds 910 = .ok (.invokestatic 189, 3) := by decide +kernel
theorem dL_holds_913 : decode cL_holds 913 = .ok (.if_icmp .ne 227, 3) := by decide +kernel
theorem dL_holds_916 : decode cL_holds 916 = .ok (.aload_n 0, 1) := by decide +kernel
theorem dL_holds_917 : decode cL_holds 917 = .ok (.iconst 2, 1) := by decide +kernel
theorem dL_holds_918 : decode cL_holds 918 = .ok (.iconst 4, 1) := by decide +kernel
theorem dL_holds_919 : decode cL_holds 919 = .ok (.iconst 0, 1) := by decide +kernel
theorem dL_holds_920 : decode cL_holds 920 = .ok (.iconst 0, 1) := by decide +kernel
theorem dL_holds_921 : decode cL_holds 921 = .ok (.invokestatic 189, 3) := by decide +kernel
theorem dL_holds_924 : decode cL_holds 924 = .ok (.iload 6, 2) := by decide +kernel
theorem dL_holds_926 : decode cL_holds 926 = .ok (.iadd, 1) := by decide +kernel
theorem dL_holds_927 : decode cL_holds 927 = .ok (.iload 11, 2) := by decide +kernel
theorem dL_holds_929 : decode cL_holds 929 = .ok (.iadd, 1) := by decide +kernel
theorem dL_holds_930 : decode cL_holds 930 = .ok (.aload_n 0, 1) := by decide +kernel
theorem dL_holds_931 : decode cL_holds 931 = .ok (.iconst 2, 1) := by decide +kernel
theorem dL_holds_932 : decode cL_holds 932 = .ok (.bipush 7, 2) := by decide +kernel
theorem dL_holds_934 : decode cL_holds 934 = .ok (.iconst 0, 1) := by decide +kernel
theorem dL_holds_935 : decode cL_holds 935 = .ok (.iconst 0, 1) := by decide +kernel
theorem dL_holds_936 : decode cL_holds 936 = .ok (.invokestatic 189, 3) := by decide +kernel
theorem dL_holds_939 : decode cL_holds 939 = .ok (.iadd, 1) := by decide +kernel
theorem dL_holds_940 : decode cL_holds 940 = .ok (.aload_n 0, 1) := by decide +kernel
theorem dL_holds_941 : decode cL_holds 941 = .ok (.iconst 2, 1) := by decide +kernel
theorem dL_holds_942 : decode cL_holds 942 = .ok (.bipush 8, 2) := by decide +kernel
theorem dL_holds_944 : decode cL_holds 944 = .ok (.iconst 0, 1) := by decide +kernel
theorem dL_holds_945 : decode cL_holds 945 = .ok (.iconst 0, 1) := by decide +kernel
theorem dL_holds_946 : decode cL_holds 946 = .ok (.invokestatic 189, 3) := by decide +kernel
theorem dL_holds_949 : decode cL_holds 949 = .ok (.iadd, 1) := by decide +kernel
theorem dL_holds_950 : decode cL_holds 950 = .ok (.aload_n 0, 1) := by decide +kernel
theorem dL_holds_951 : decode cL_holds 951 = .ok (.iconst 2, 1) := by decide +kernel
theorem dL_holds_952 : decode cL_holds 952 = .ok (.bipush 9, 2) := by decide +kernel
theorem dL_holds_954 : decode cL_holds 954 = .ok (.iconst 0, 1) := by decide +kernel
theorem dL_holds_955 : decode cL_holds 955 = .ok (.iconst 0, 1) := by decide +kernel
theorem dL_holds_956 : decode cL_holds 956 = .ok (.invokestatic 189, 3) := by decide +kernel
theorem dL_holds_959 : decode cL_holds 959 = .ok (.if_icmp .ne 181, 3) := by decide +kernel
theorem dL_holds_962 : decode cL_holds 962 = .ok (.iload 5, 2) := by decide +kernel
theorem dL_holds_964 : decode cL_holds 964 = .ok (.iconst (-1), 1) := by decide +kernel
theorem dL_holds_965 : decode cL_holds 965 = .ok (.if_icmp .eq 39, 3) := by decide +kernel
theorem dL_holds_968 : decode cL_holds 968 = .ok (.iload 4, 2) := by decide +kernel
theorem dL_holds_970 : decode cL_holds 970 = .ok (.ifCond .le 170, 3) := by decide +kernel
theorem dL_holds_973 : decode cL_holds 973 = .ok (.aload_n 0, 1) := by decide +kernel
theorem dL_holds_974 : decode cL_holds 974 = .ok (.bipush 7, 2) := by decide +kernel
theorem dL_holds_976 : decode cL_holds 976 = .ok (.iconst 0, 1) := by decide +kernel
theorem dL_holds_977 : decode cL_holds 977 = .ok (.iconst 0, 1) := by decide +kernel
theorem dL_holds_978 : decode cL_holds 978 = .ok (.iconst 0, 1) := by decide +kernel
theorem dL_holds_979 : decode cL_holds 979 = .ok (.invokestatic 189, 3) := by decide +kernel
theorem dL_holds_982 : decode cL_holds 982 = .ok (.ifCond .ne 158, 3) := by decide +kernel
theorem dL_holds_985 : decode cL_holds 985 = .ok (.aload_n 0, 1) := by decide +kernel
theorem dL_holds_986 : decode cL_holds 986 = .ok (.bipush 7, 2) := by decide +kernel
theorem dL_holds_988 : decode cL_holds 988 = .ok (.iconst 0, 1) := by decide +kernel
theorem dL_holds_989 : decode cL_holds 989 = .ok (.iconst 1, 1) := by decide +kernel
theorem dL_holds_990 : decode cL_holds 990 = .ok (.iconst 0, 1) := by decide +kernel
theorem dL_holds_991 : decode cL_holds 991 = .ok (.invokestatic 189, 3) := by decide +kernel
theorem dL_holds_994 : decode cL_holds 994 = .ok (.iload 5, 2) := by decide +kernel
theorem dL_holds_996 : decode cL_holds 996 = .ok (.if_icmp .ne 144, 3) := by decide +kernel
theorem dL_holds_999 : decode cL_holds 999 = .ok (.iload 11, 2) := by decide +kernel
theorem dL_holds_1001 : decode cL_holds 1001 = .ok (.ifCond .ne 139, 3) := by decide +kernel
theorem dL_holds_1004 : decode cL_holds 1004 = .ok (.iload 11, 2) := by decide +kernel
theorem dL_holds_1006 : decode cL_holds 1006 = .ok (.ifCond .eq 35, 3) := by decide +kernel
theorem dL_holds_1009 : decode cL_holds 1009 = .ok (.iload 4, 2) := by decide +kernel
theorem dL_holds_1011 : decode cL_holds 1011 = .ok (.ifCond .le 129, 3) := by decide +kernel
theorem dL_holds_1014 : decode cL_holds 1014 = .ok (.aload_n 0, 1) := by decide +kernel
theorem dL_holds_1015 : decode cL_holds 1015 = .ok (.bipush 7, 2) := by decide +kernel
theorem dL_holds_1017 : decode cL_holds 1017 = .ok (.iconst 0, 1) := by decide +kernel
theorem dL_holds_1018 : decode cL_holds 1018 = .ok (.iconst 0, 1) := by decide +kernel
theorem dL_holds_1019 : decode cL_holds 1019 = .ok (.iconst 0, 1) := by decide +kernel
theorem dL_holds_1020 : decode cL_holds 1020 = .ok (.invokestatic 189, 3) := by decide +kernel
theorem dL_holds_1023 : decode cL_holds 1023 = .ok (.iconst 1, 1) := by decide +kernel
theorem dL_holds_1024 : decode cL_holds 1024 = .ok (.if_icmp .ne 116, 3) := by decide +kernel
theorem dL_holds_1027 : decode cL_holds 1027 = .ok (.iload 11, 2) := by decide +kernel
theorem dL_holds_1029 : decode cL_holds 1029 = .ok (.aload_n 0, 1) := by decide +kernel
theorem dL_holds_1030 : decode cL_holds 1030 = .ok (.bipush 7, 2) := by decide +kernel
theorem dL_holds_1032 : decode cL_holds 1032 = .ok (.iconst 0, 1) := by decide +kernel
theorem dL_holds_1033 : decode cL_holds 1033 = .ok (.iconst 2, 1) := by decide +kernel
theorem dL_holds_1034 : decode cL_holds 1034 = .ok (.iconst 0, 1) := by decide +kernel
theorem dL_holds_1035 : decode cL_holds 1035 = .ok (.invokestatic 189, 3) := by decide +kernel
theorem dL_holds_1038 : decode cL_holds 1038 = .ok (.if_icmp .gt 102, 3) := by decide +kernel
theorem dL_holds_1041 : decode cL_holds 1041 = .ok (.aload_n 0, 1) := by decide +kernel
theorem dL_holds_1042 : decode cL_holds 1042 = .ok (.bipush 6, 2) := by decide +kernel
theorem dL_holds_1044 : decode cL_holds 1044 = .ok (.iconst 0, 1) := by decide +kernel
theorem dL_holds_1045 : decode cL_holds 1045 = .ok (.iconst 0, 1) := by decide +kernel
theorem dL_holds_1046 : decode cL_holds 1046 = .ok (.iconst 0, 1) := by decide +kernel
theorem dL_holds_1047 : decode cL_holds 1047 = .ok (.invokestatic 189, 3) := by decide +kernel
theorem dL_holds_1050 : decode cL_holds 1050 = .ok (.iload_n 1, 1) := by decide +kernel
theorem dL_holds_1051 : decode cL_holds 1051 = .ok (.if_icmp .ge 89, 3) := by decide +kernel
theorem dL_holds_1054 : decode cL_holds 1054 = .ok (.aload_n 0, 1) := by decide +kernel
theorem dL_holds_1055 : decode cL_holds 1055 = .ok (.bipush 6, 2) := by decide +kernel
theorem dL_holds_1057 : decode cL_holds 1057 = .ok (.iconst 1, 1) := by decide +kernel
theorem dL_holds_1058 : decode cL_holds 1058 = .ok (.iconst 0, 1) := by decide +kernel
theorem dL_holds_1059 : decode cL_holds 1059 = .ok (.iconst 0, 1) := by decide +kernel
theorem dL_holds_1060 : decode cL_holds 1060 = .ok (.invokestatic 189, 3) := by decide +kernel
theorem dL_holds_1063 : decode cL_holds 1063 = .ok (.ifCond .lt 77, 3) := by decide +kernel
theorem dL_holds_1066 : decode cL_holds 1066 = .ok (.aload_n 0, 1) := by decide +kernel
theorem dL_holds_1067 : decode cL_holds 1067 = .ok (.bipush 6, 2) := by decide +kernel
theorem dL_holds_1069 : decode cL_holds 1069 = .ok (.iconst 1, 1) := by decide +kernel
theorem dL_holds_1070 : decode cL_holds 1070 = .ok (.iconst 0, 1) := by decide +kernel
theorem dL_holds_1071 : decode cL_holds 1071 = .ok (.iconst 0, 1) := by decide +kernel
theorem dL_holds_1072 : decode cL_holds 1072 = .ok (.invokestatic 189, 3) := by decide +kernel
theorem dL_holds_1075 : decode cL_holds 1075 = .ok (.aload_n 0, 1) := by decide +kernel
theorem dL_holds_1076 : decode cL_holds 1076 = .ok (.iconst 3, 1) := by decide +kernel
theorem dL_holds_1077 : decode cL_holds 1077 = .ok (.aload_n 0, 1) := by decide +kernel
theorem dL_holds_1078 : decode cL_holds 1078 = .ok (.bipush 6, 2) := by decide +kernel
theorem dL_holds_1080 : decode cL_holds 1080 = .ok (.iconst 0, 1) := by decide +kernel
theorem dL_holds_1081 : decode cL_holds 1081 = .ok (.iconst 0, 1) := by decide +kernel
theorem dL_holds_1082 : decode cL_holds 1082 = .ok (.iconst 0, 1) := by decide +kernel
theorem dL_holds_1083 : decode cL_holds 1083 = .ok (.invokestatic 189, 3) := by decide +kernel
theorem dL_holds_1086 : decode cL_holds 1086 = .ok (.iconst 0, 1) := by decide +kernel
theorem dL_holds_1087 : decode cL_holds 1087 = .ok (.iconst 0, 1) := by decide +kernel
theorem dL_holds_1088 : decode cL_holds 1088 = .ok (.invokestatic 189, 3) := by decide +kernel
theorem dL_holds_1091 : decode cL_holds 1091 = .ok (.if_icmp .ge 49, 3) := by decide +kernel
theorem dL_holds_1094 : decode cL_holds 1094 = .ok (.iload 4, 2) := by decide +kernel
theorem dL_holds_1096 : decode cL_holds 1096 = .ok (.ifCond .gt 15, 3) := by decide +kernel
theorem dL_holds_1099 : decode cL_holds 1099 = .ok (.aload_n 0, 1) := by decide +kernel
theorem dL_holds_1100 : decode cL_holds 1100 = .ok (.bipush 6, 2) := by decide +kernel
theorem dL_holds_1102 : decode cL_holds 1102 = .ok (.iconst 3, 1) := by decide +kernel
theorem dL_holds_1103 : decode cL_holds 1103 = .ok (.iconst 0, 1) := by decide +kernel
theorem dL_holds_1104 : decode cL_holds 1104 = .ok (.iconst 0, 1) := by decide +kernel
theorem dL_holds_1105 : decode cL_holds 1105 = .ok (.invokestatic 189, 3) := by decide +kernel
theorem dL_holds_1108 : decode cL_holds 1108 = .ok (.ifCond .ne 32, 3) := by decide +kernel
theorem dL_holds_1111 : decode cL_holds 1111 = .ok (.aload_n 0, 1) := by decide +kernel
theorem dL_holds_1112 : decode cL_holds 1112 = .ok (.invokevirtual 209, 3) := by decide +kernel
theorem dL_holds_1115 : decode cL_holds 1115 = .ok (.ifCond .ne 7, 3) := by decide +kernel
theorem dL_holds_1118 : decode cL_holds 1118 = .ok (.iconst 1, 1) := by decide +kernel
theorem dL_holds_1119 : decode cL_holds 1119 = .ok (.goto 4, 3) := by decide +kernel
theorem dL_holds_1122 : decode cL_holds 1122 = .ok (.iconst 0, 1) := by decide +kernel
theorem dL_holds_1123 : decode cL_holds 1123 = .ok (.iload 4, 2) := by decide +kernel
theorem dL_holds_1125 : decode cL_holds 1125 = .ok (.ifCond .ne 7, 3) := by decide +kernel
theorem dL_holds_1128 : decode cL_holds 1128 = .ok (.iconst 1, 1) := by decide +kernel
theorem dL_holds_1129 : decode cL_holds 1129 = .ok (.goto 4, 3) := by decide +kernel
theorem dL_holds_1132 : decode cL_holds 1132 = .ok (.iconst 0, 1) := by decide +kernel
theorem dL_holds_1133 : decode cL_holds 1133 = .ok (.if_icmp .ne 7, 3) := by decide +kernel
theorem dL_holds_1136 : decode cL_holds 1136 = .ok (.iconst 1, 1) := by decide +kernel
theorem dL_holds_1137 : decode cL_holds 1137 = .ok (.goto 4, 3) := by decide +kernel
theorem dL_holds_1140 : decode cL_holds 1140 = .ok (.iconst 0, 1) := by decide +kernel
theorem dL_holds_1141 : decode cL_holds 1141 = .ok (.ireturn, 1) := by decide +kernel
theorem dL_act_0 : decode cL_act 0 = .ok (.iload_n 1, 1) := by decide +kernel
theorem dL_act_1 : decode cL_act 1 = .ok (.bipush 16, 2) := by decide +kernel
theorem dL_act_3 : decode cL_act 3 = .ok (.idiv, 1) := by decide +kernel
theorem dL_act_4 : decode cL_act 4 = .ok (.istore_n 2, 1) := by decide +kernel
theorem dL_act_5 : decode cL_act 5 = .ok (.aload_n 0, 1) := by decide +kernel
theorem dL_act_6 : decode cL_act 6 = .ok (.iconst 2, 1) := by decide +kernel
theorem dL_act_7 : decode cL_act 7 = .ok (.iconst 0, 1) := by decide +kernel
theorem dL_act_8 : decode cL_act 8 = .ok (.iconst 0, 1) := by decide +kernel
theorem dL_act_9 : decode cL_act 9 = .ok (.iconst 0, 1) := by decide +kernel
theorem dL_act_10 : decode cL_act 10 = .ok (.invokestatic 189, 3) := by decide +kernel
theorem dL_act_13 : decode cL_act 13 = .ok (.istore_n 3, 1) := by decide +kernel
theorem dL_act_14 : decode cL_act 14 = .ok (.aload_n 0, 1) := by decide +kernel
theorem dL_act_15 : decode cL_act 15 = .ok (.iconst 2, 1) := by decide +kernel
theorem dL_act_16 : decode cL_act 16 = .ok (.iconst 1, 1) := by decide +kernel
theorem dL_act_17 : decode cL_act 17 = .ok (.iconst 0, 1) := by decide +kernel
theorem dL_act_18 : decode cL_act 18 = .ok (.iconst 0, 1) := by decide +kernel
theorem dL_act_19 : decode cL_act 19 = .ok (.invokestatic 189, 3) := by decide +kernel
theorem dL_act_22 : decode cL_act 22 = .ok (.istore 4, 2) := by decide +kernel
theorem dL_act_24 : decode cL_act 24 = .ok (.aload_n 0, 1) := by decide +kernel
theorem dL_act_25 : decode cL_act 25 = .ok (.iconst 2, 1) := by decide +kernel
theorem dL_act_26 : decode cL_act 26 = .ok (.iconst 2, 1) := by decide +kernel
theorem dL_act_27 : decode cL_act 27 = .ok (.iconst 0, 1) := by decide +kernel
theorem dL_act_28 : decode cL_act 28 = .ok (.iconst 0, 1) := by decide +kernel
theorem dL_act_29 : decode cL_act 29 = .ok (.invokestatic 189, 3) := by decide +kernel
theorem dL_act_32 : decode cL_act 32 = .ok (.istore 5, 2) := by decide +kernel
theorem dL_act_34 : decode cL_act 34 = .ok (.iload_n 2, 1) := by decide +kernel
theorem dL_act_35 : decode cL_act 35 = .ok (.iload_n 3, 1) := by decide +kernel
theorem dL_act_36 : decode cL_act 36 = .ok (.irem, 1) := by decide +kernel
theorem dL_act_37 : decode cL_act 37 = .ok (.istore 6, 2) := by decide +kernel
theorem dL_act_39 : decode cL_act 39 = .ok (.iload 5, 2) := by decide +kernel
theorem dL_act_41 : decode cL_act 41 = .ok (.ifCond .ne 7, 3) := by decide +kernel
theorem dL_act_44 : decode cL_act 44 = .ok (.iconst 0, 1) := by decide +kernel
theorem dL_act_45 : decode cL_act 45 = .ok (.goto 9, 3) := by decide +kernel
theorem dL_act_48 : decode cL_act 48 = .ok (.iload_n 2, 1) := by decide +kernel
theorem dL_act_49 : decode cL_act 49 = .ok (.iconst 3, 1) := by decide +kernel
theorem dL_act_50 : decode cL_act 50 = .ok (.idiv, 1) := by decide +kernel
theorem dL_act_51 : decode cL_act 51 = .ok (.iload 5, 2) := by decide +kernel
theorem dL_act_53 : decode cL_act 53 = .ok (.irem, 1) := by decide +kernel
theorem dL_act_54 : decode cL_act 54 = .ok (.istore 7, 2) := by decide +kernel
theorem dL_act_56 : decode cL_act 56 = .ok (.iload_n 1, 1) := by decide +kernel
theorem dL_act_57 : decode cL_act 57 = .ok (.bipush 16, 2) := by decide +kernel
theorem dL_act_59 : decode cL_act 59 = .ok (.irem, 1) := by decide +kernel
theorem dL_act_60 : decode cL_act 60 = .ok (.tableswitch 338 0 11 #[64, 103, 120, 120, 158, 158, 183, 202, 214, 251, 276, 302], 64) := by decide +kernel
theorem dL_act_124 : decode cL_act 124 = .ok (.iload_n 2, 1) := by decide +kernel
theorem dL_act_125 : decode cL_act 125 = .ok (.iconst 3, 1) := by decide +kernel
theorem dL_act_126 : decode cL_act 126 = .ok (.irem, 1) := by decide +kernel
theorem dL_act_127 : decode cL_act 127 = .ok (.ifCond .ne 22, 3) := by decide +kernel
theorem dL_act_130 : decode cL_act 130 = .ok (.aload_n 0, 1) := by decide +kernel
theorem dL_act_131 : decode cL_act 131 = .ok (.bipush 9, 2) := by decide +kernel
theorem dL_act_133 : decode cL_act 133 = .ok (.iconst 1, 1) := by decide +kernel
theorem dL_act_134 : decode cL_act 134 = .ok (.iload_n 2, 1) := by decide +kernel
theorem dL_act_135 : decode cL_act 135 = .ok (.iconst 3, 1) := by decide +kernel
theorem dL_act_136 : decode cL_act 136 = .ok (.idiv, 1) := by decide +kernel
theorem dL_act_137 : decode cL_act 137 = .ok (.bipush 30, 2) := by decide +kernel
theorem dL_act_139 : decode cL_act 139 = .ok (.irem, 1) := by decide +kernel
theorem dL_act_140 : decode cL_act 140 = .ok (.iadd, 1) := by decide +kernel
theorem dL_act_141 : decode cL_act 141 = .ok (.iconst 0, 1) := by decide +kernel
theorem dL_act_142 : decode cL_act 142 = .ok (.iconst 0, 1) := by decide +kernel
theorem dL_act_143 : decode cL_act 143 = .ok (.invokestatic 189, 3) := by decide +kernel
theorem dL_act_146 : decode cL_act 146 = .ok (.goto 16, 3) := by decide +kernel
theorem dL_act_149 : decode cL_act 149 = .ok (.aload_n 0, 1) := by decide +kernel
theorem dL_act_150 : decode cL_act 150 = .ok (.bipush 12, 2) := by decide +kernel
theorem dL_act_152 : decode cL_act 152 = .ok (.iload_n 2, 1) := by decide +kernel
theorem dL_act_153 : decode cL_act 153 = .ok (.sipush 200, 3) := by decide +kernel
theorem dL_act_156 : decode cL_act 156 = .ok (.irem, 1) := by decide +kernel
theorem dL_act_157 : decode cL_act 157 = .ok (.iconst 0, 1) := by decide +kernel
theorem dL_act_158 : decode cL_act 158 = .ok (.iconst 0, 1) := by decide +kernel
theorem dL_act_159 : decode cL_act 159 = .ok (.invokestatic 189, 3) := by decide +kernel
theorem dL_act_162 : decode cL_act 162 = .ok (.ireturn, 1) := by decide +kernel
theorem dL_act_163 : decode cL_act 163 = .ok (.aload_n 0, 1) := by decide +kernel
theorem dL_act_164 : decode cL_act 164 = .ok (.bipush 10, 2) := by decide +kernel
theorem dL_act_166 : decode cL_act 166 = .ok (.iload 6, 2) := by decide +kernel
theorem dL_act_168 : decode cL_act 168 = .ok (.iconst 1, 1) := by decide +kernel
theorem dL_act_169 : decode cL_act 169 = .ok (.iload_n 2, 1) := by decide +kernel
theorem dL_act_170 : decode cL_act 170 = .ok (.iconst 3, 1) := by decide +kernel
theorem dL_act_171 : decode cL_act 171 = .ok (.idiv, 1) := by decide +kernel
theorem dL_act_172 : decode cL_act 172 = .ok (.iconst 5, 1) := by decide +kernel
theorem dL_act_173 : decode cL_act 173 = .ok (.irem, 1) := by decide +kernel
theorem dL_act_174 : decode cL_act 174 = .ok (.iadd, 1) := by decide +kernel
theorem dL_act_175 : decode cL_act 175 = .ok (.iconst 0, 1) := by decide +kernel
theorem dL_act_176 : decode cL_act 176 = .ok (.invokestatic 189, 3) := by decide +kernel
theorem dL_act_179 : decode cL_act 179 = .ok (.ireturn, 1) := by decide +kernel
theorem dL_act_180 : decode cL_act 180 = .ok (.aload_n 0, 1) := by decide +kernel
theorem dL_act_181 : decode cL_act 181 = .ok (.iload 6, 2) := by decide +kernel
theorem dL_act_183 : decode cL_act 183 = .ok (.iload_n 2, 1) := by decide +kernel
theorem dL_act_184 : decode cL_act 184 = .ok (.iconst 3, 1) := by decide +kernel
theorem dL_act_185 : decode cL_act 185 = .ok (.idiv, 1) := by decide +kernel
theorem dL_act_186 : decode cL_act 186 = .ok (.aload_n 0, 1) := by decide +kernel
theorem dL_act_187 : decode cL_act 187 = .ok (.iconst 3, 1) := by decide +kernel
theorem dL_act_188 : decode cL_act 188 = .ok (.iload 6, 2) := by decide +kernel
theorem dL_act_190 : decode cL_act 190 = .ok (.iconst 0, 1) := by decide +kernel
theorem dL_act_191 : decode cL_act 191 = .ok (.iconst 0, 1) := by decide +kernel
theorem dL_act_192 : decode cL_act 192 = .ok (.invokestatic 189, 3) := by decide +kernel
theorem dL_act_195 : decode cL_act 195 = .ok (.irem, 1) := by decide +kernel
theorem dL_act_196 : decode cL_act 196 = .ok (.iconst 1, 1) := by decide +kernel
theorem dL_act_197 : decode cL_act 197 = .ok (.iload_n 2, 1) := by decide +kernel
theorem dL_act_198 : decode cL_act 198 = .ok (.sipush 180, 3) := by decide +kernel
theorem dL_act_201 : decode cL_act 201 = .ok (.idiv, 1) := by decide +kernel
theorem dL_act_202 : decode cL_act 202 = .ok (.bipush 9, 2) := by decide +kernel
theorem dL_act_204 : decode cL_act 204 = .ok (.irem, 1) := by decide +kernel
theorem dL_act_205 : decode cL_act 205 = .ok (.iadd, 1) := by decide +kernel
theorem dL_act_206 : decode cL_act 206 = .ok (.iload_n 2, 1) := by decide +kernel
theorem dL_act_207 : decode cL_act 207 = .ok (.sipush 1620, 3) := by decide +kernel
theorem dL_act_210 : decode cL_act 210 = .ok (.idiv, 1) := by decide +kernel
theorem dL_act_211 : decode cL_act 211 = .ok (.bipush 100, 2) := by decide +kernel
theorem dL_act_213 : decode cL_act 213 = .ok (.irem, 1) := by decide +kernel
theorem dL_act_214 : decode cL_act 214 = .ok (.invokestatic 193, 3) := by decide +kernel
theorem dL_act_217 : decode cL_act 217 = .ok (.ireturn, 1) := by decide +kernel
theorem dL_act_218 : decode cL_act 218 = .ok (.aload_n 0, 1) := by decide +kernel
theorem dL_act_219 : decode cL_act 219 = .ok (.bipush 13, 2) := by decide +kernel
theorem dL_act_221 : decode cL_act 221 = .ok (.iload 7, 2) := by decide +kernel
theorem dL_act_223 : decode cL_act 223 = .ok (.iload 6, 2) := by decide +kernel
theorem dL_act_225 : decode cL_act 225 = .ok (.iload_n 2, 1) := by decide +kernel
theorem dL_act_226 : decode cL_act 226 = .ok (.bipush 24, 2) := by decide +kernel
theorem dL_act_228 : decode cL_act 228 = .ok (.idiv, 1) := by decide +kernel
theorem dL_act_229 : decode cL_act 229 = .ok (.aload_n 0, 1) := by decide +kernel
theorem dL_act_230 : decode cL_act 230 = .ok (.iconst 3, 1) := by decide +kernel
theorem dL_act_231 : decode cL_act 231 = .ok (.iload 6, 2) := by decide +kernel
theorem dL_act_233 : decode cL_act 233 = .ok (.iconst 0, 1) := by decide +kernel
theorem dL_act_234 : decode cL_act 234 = .ok (.iconst 0, 1) := by decide +kernel
theorem dL_act_235 : decode cL_act 235 = .ok (.invokestatic 189, 3) := by decide +kernel
theorem dL_act_238 : decode cL_act 238 = .ok (.irem, 1) := by decide +kernel
theorem dL_act_239 : decode cL_act 239 = .ok (.invokestatic 189, 3) := by decide +kernel
theorem dL_act_242 : decode cL_act 242 = .ok (.ireturn, 1) := by decide +kernel
theorem dL_act_243 : decode cL_act 243 = .ok (.aload_n 0, 1) := by decide +kernel
theorem dL_act_244 : decode cL_act 244 = .ok (.bipush 14, 2) := by decide +kernel
theorem dL_act_246 : decode cL_act 246 = .ok (.iload 7, 2) := by decide +kernel
theorem dL_act_248 : decode cL_act 248 = .ok (.iconst 1, 1) := by decide +kernel
theorem dL_act_249 : decode cL_act 249 = .ok (.iload_n 2, 1) := by decide +kernel
theorem dL_act_250 : decode cL_act 250 = .ok (.bipush 24, 2) := by decide +kernel
theorem dL_act_252 : decode cL_act 252 = .ok (.idiv, 1) := by decide +kernel
theorem dL_act_253 : decode cL_act 253 = .ok (.bipush 99, 2) := by decide +kernel
theorem dL_act_255 : decode cL_act 255 = .ok (.irem, 1) := by decide +kernel
theorem dL_act_256 : decode cL_act 256 = .ok (.iadd, 1) := by decide +kernel
theorem dL_act_257 : decode cL_act 257 = .ok (.iconst 0, 1) := by decide +kernel
theorem dL_act_258 : decode cL_act 258 = .ok (.invokestatic 189, 3) := by decide +kernel
theorem dL_act_261 : decode cL_act 261 = .ok (.ireturn, 1) := by decide +kernel
theorem dL_act_262 : decode cL_act 262 = .ok (.aload_n 0, 1) := by decide +kernel
theorem dL_act_263 : decode cL_act 263 = .ok (.bipush 15, 2) := by decide +kernel
theorem dL_act_265 : decode cL_act 265 = .ok (.iload_n 2, 1) := by decide +kernel
theorem dL_act_266 : decode cL_act 266 = .ok (.iconst 4, 1) := by decide +kernel
theorem dL_act_267 : decode cL_act 267 = .ok (.irem, 1) := by decide +kernel
theorem dL_act_268 : decode cL_act 268 = .ok (.iconst 0, 1) := by decide +kernel
theorem dL_act_269 : decode cL_act 269 = .ok (.iconst 0, 1) := by decide +kernel
theorem dL_act_270 : decode cL_act 270 = .ok (.invokestatic 189, 3) := by decide +kernel
theorem dL_act_273 : decode cL_act 273 = .ok (.ireturn, 1) := by decide +kernel
theorem dL_act_274 : decode cL_act 274 = .ok (.iload_n 2, 1) := by decide +kernel
theorem dL_act_275 : decode cL_act 275 = .ok (.iconst 2, 1) := by decide +kernel
theorem dL_act_276 : decode cL_act 276 = .ok (.irem, 1) := by decide +kernel
theorem dL_act_277 : decode cL_act 277 = .ok (.ifCond .ne 20, 3) := by decide +kernel
theorem dL_act_280 : decode cL_act 280 = .ok (.aload_n 0, 1) := by decide +kernel
theorem dL_act_281 : decode cL_act 281 = .ok (.bipush 16, 2) := by decide +kernel
theorem dL_act_283 : decode cL_act 283 = .ok (.iconst 0, 1) := by decide +kernel
theorem dL_act_284 : decode cL_act 284 = .ok (.iload_n 2, 1) := by decide +kernel
theorem dL_act_285 : decode cL_act 285 = .ok (.iconst 2, 1) := by decide +kernel
theorem dL_act_286 : decode cL_act 286 = .ok (.idiv, 1) := by decide +kernel
theorem dL_act_287 : decode cL_act 287 = .ok (.bipush 13, 2) := by decide +kernel
theorem dL_act_289 : decode cL_act 289 = .ok (.irem, 1) := by decide +kernel
theorem dL_act_290 : decode cL_act 290 = .ok (.iconst 0, 1) := by decide +kernel
theorem dL_act_291 : decode cL_act 291 = .ok (.invokestatic 189, 3) := by decide +kernel
theorem dL_act_294 : decode cL_act 294 = .ok (.goto 16, 3) := by decide +kernel
theorem dL_act_297 : decode cL_act 297 = .ok (.aload_n 0, 1) := by decide +kernel
theorem dL_act_298 : decode cL_act 298 = .ok (.bipush 16, 2) := by decide +kernel
theorem dL_act_300 : decode cL_act 300 = .ok (.iconst 1, 1) := by decide +kernel
theorem dL_act_301 : decode cL_act 301 = .ok (.iload_n 2, 1) := by decide +kernel
theorem dL_act_302 : decode cL_act 302 = .ok (.iconst 2, 1) := by decide +kernel
theorem dL_act_303 : decode cL_act 303 = .ok (.idiv, 1) := by decide +kernel
theorem dL_act_304 : decode cL_act 304 = .ok (.iconst 2, 1) := by decide +kernel
theorem dL_act_305 : decode cL_act 305 = .ok (.irem, 1) := by decide +kernel
theorem dL_act_306 : decode cL_act 306 = .ok (.iconst 0, 1) := by decide +kernel
theorem dL_act_307 : decode cL_act 307 = .ok (.invokestatic 189, 3) := by decide +kernel
theorem dL_act_310 : decode cL_act 310 = .ok (.ireturn, 1) := by decide +kernel
theorem dL_act_311 : decode cL_act 311 = .ok (.iload 4, 2) := by decide +kernel
theorem dL_act_313 : decode cL_act 313 = .ok (.ifCond .ne 7, 3) := by decide +kernel
theorem dL_act_316 : decode cL_act 316 = .ok (.iconst (-1), 1) := by decide +kernel
theorem dL_act_317 : decode cL_act 317 = .ok (.goto 18, 3) := by decide +kernel
theorem dL_act_320 : decode cL_act 320 = .ok (.aload_n 0, 1) := by decide +kernel
theorem dL_act_321 : decode cL_act 321 = .ok (.bipush 11, 2) := by decide +kernel
theorem dL_act_323 : decode cL_act 323 = .ok (.iload_n 2, 1) := by decide +kernel
theorem dL_act_324 : decode cL_act 324 = .ok (.iconst 3, 1) := by decide +kernel
theorem dL_act_325 : decode cL_act 325 = .ok (.idiv, 1) := by decide +kernel
theorem dL_act_326 : decode cL_act 326 = .ok (.iload 4, 2) := by decide +kernel
theorem dL_act_328 : decode cL_act 328 = .ok (.irem, 1) := by decide +kernel
theorem dL_act_329 : decode cL_act 329 = .ok (.iload 6, 2) := by decide +kernel
theorem dL_act_331 : decode cL_act 331 = .ok (.iconst 0, 1) := by decide +kernel
theorem dL_act_332 : decode cL_act 332 = .ok (.invokestatic 189, 3) := by decide +kernel
theorem dL_act_335 : decode cL_act 335 = .ok (.ireturn, 1) := by decide +kernel
theorem dL_act_336 : decode cL_act 336 = .ok (.aload_n 0, 1) := by decide +kernel
theorem dL_act_337 : decode cL_act 337 = .ok (.iconst 2, 1) := by decide +kernel
theorem dL_act_338 : decode cL_act 338 = .ok (.iconst 3, 1) := by decide +kernel
theorem dL_act_339 : decode cL_act 339 = .ok (.iconst 0, 1) := by decide +kernel
theorem dL_act_340 : decode cL_act 340 = .ok (.iconst 0, 1) := by decide +kernel
theorem dL_act_341 : decode cL_act 341 = .ok (.invokestatic 189, 3) := by decide +kernel
theorem dL_act_344 : decode cL_act 344 = .ok (.iconst 2, 1) := by decide +kernel
theorem dL_act_345 : decode cL_act 345 = .ok (.if_icmp .ge 7, 3) := by decide +kernel
theorem dL_act_348 : decode cL_act 348 = .ok (.iconst (-1), 1) := by decide +kernel
theorem dL_act_349 : decode cL_act 349 = .ok (.goto 12, 3) := by decide +kernel
theorem dL_act_352 : decode cL_act 352 = .ok (.aload_n 0, 1) := by decide +kernel
theorem dL_act_353 : decode cL_act 353 = .ok (.bipush 18, 2) := by decide +kernel
theorem dL_act_355 : decode cL_act 355 = .ok (.iconst 0, 1) := by decide +kernel
theorem dL_act_356 : decode cL_act 356 = .ok (.iconst 0, 1) := by decide +kernel
theorem dL_act_357 : decode cL_act 357 = .ok (.iconst 0, 1) := by decide +kernel
theorem dL_act_358 : decode cL_act 358 = .ok (.invokestatic 189, 3) := by decide +kernel
theorem dL_act_361 : decode cL_act 361 = .ok (.ireturn, 1) := by decide +kernel
theorem dL_act_362 : decode cL_act 362 = .ok (.iload_n 2, 1) := by decide +kernel
theorem dL_act_363 : decode cL_act 363 = .ok (.iconst 2, 1) := by decide +kernel
theorem dL_act_364 : decode cL_act 364 = .ok (.irem, 1) := by decide +kernel
theorem dL_act_365 : decode cL_act 365 = .ok (.ifCond .ne 19, 3) := by decide +kernel
theorem dL_act_368 : decode cL_act 368 = .ok (.aload_n 0, 1) := by decide +kernel
theorem dL_act_369 : decode cL_act 369 = .ok (.bipush 22, 2) := by decide +kernel
theorem dL_act_371 : decode cL_act 371 = .ok (.iload_n 2, 1) := by decide +kernel
theorem dL_act_372 : decode cL_act 372 = .ok (.iconst 2, 1) := by decide +kernel
theorem dL_act_373 : decode cL_act 373 = .ok (.idiv, 1) := by decide +kernel
theorem dL_act_374 : decode cL_act 374 = .ok (.iconst 2, 1) := by decide +kernel
theorem dL_act_375 : decode cL_act 375 = .ok (.irem, 1) := by decide +kernel
theorem dL_act_376 : decode cL_act 376 = .ok (.iconst 0, 1) := by decide +kernel
theorem dL_act_377 : decode cL_act 377 = .ok (.iconst 0, 1) := by decide +kernel
theorem dL_act_378 : decode cL_act 378 = .ok (.invokestatic 189, 3) := by decide +kernel
theorem dL_act_381 : decode cL_act 381 = .ok (.goto 16, 3) := by decide +kernel
theorem dL_act_384 : decode cL_act 384 = .ok (.aload_n 0, 1) := by decide +kernel
theorem dL_act_385 : decode cL_act 385 = .ok (.bipush 23, 2) := by decide +kernel
theorem dL_act_387 : decode cL_act 387 = .ok (.iload_n 2, 1) := by decide +kernel
theorem dL_act_388 : decode cL_act 388 = .ok (.iconst 2, 1) := by decide +kernel
theorem dL_act_389 : decode cL_act 389 = .ok (.idiv, 1) := by decide +kernel
theorem dL_act_390 : decode cL_act 390 = .ok (.iconst 2, 1) := by decide +kernel
theorem dL_act_391 : decode cL_act 391 = .ok (.irem, 1) := by decide +kernel
theorem dL_act_392 : decode cL_act 392 = .ok (.iconst 0, 1) := by decide +kernel
theorem dL_act_393 : decode cL_act 393 = .ok (.iconst 0, 1) := by decide +kernel
theorem dL_act_394 : decode cL_act 394 = .ok (.invokestatic 189, 3) := by decide +kernel
theorem dL_act_397 : decode cL_act 397 = .ok (.ireturn, 1) := by decide +kernel
theorem dL_act_398 : decode cL_act 398 = .ok (.aload_n 0, 1) := by decide +kernel
theorem dL_act_399 : decode cL_act 399 = .ok (.bipush 17, 2) := by decide +kernel
theorem dL_act_401 : decode cL_act 401 = .ok (.iconst 1, 1) := by decide +kernel
theorem dL_act_402 : decode cL_act 402 = .ok (.iload_n 2, 1) := by decide +kernel
theorem dL_act_403 : decode cL_act 403 = .ok (.bipush 9, 2) := by decide +kernel
theorem dL_act_405 : decode cL_act 405 = .ok (.irem, 1) := by decide +kernel
theorem dL_act_406 : decode cL_act 406 = .ok (.iadd, 1) := by decide +kernel
theorem dL_act_407 : decode cL_act 407 = .ok (.iconst 0, 1) := by decide +kernel
theorem dL_act_408 : decode cL_act 408 = .ok (.iconst 0, 1) := by decide +kernel
theorem dL_act_409 : decode cL_act 409 = .ok (.invokestatic 189, 3) := by decide +kernel
theorem dL_act_412 : decode cL_act 412 = .ok (.ireturn, 1) := by decide +kernel
theorem dL_alike_0 : decode cL_alike 0 = .ok (.aload_n 0, 1) := by decide +kernel
theorem dL_alike_1 : decode cL_alike 1 = .ok (.iload_n 2, 1) := by decide +kernel
theorem dL_alike_2 : decode cL_alike 2 = .ok (.i2l, 1) := by decide +kernel
theorem dL_alike_3 : decode cL_alike 3 = .ok (.iconst 1, 1) := by decide +kernel
theorem dL_alike_4 : decode cL_alike 4 = .ok (.iload_n 2, 1) := by decide +kernel
theorem dL_alike_5 : decode cL_alike 5 = .ok (.bipush 20, 2) := by decide +kernel
theorem dL_alike_7 : decode cL_alike 7 = .ok (.irem, 1) := by decide +kernel
theorem dL_alike_8 : decode cL_alike 8 = .ok (.iadd, 1) := by decide +kernel
theorem dL_alike_9 : decode cL_alike 9 = .ok (.invokestatic 205, 3) := by decide +kernel
theorem dL_alike_12 : decode cL_alike 12 = .ok (.aload_n 1, 1) := by decide +kernel
theorem dL_alike_13 : decode cL_alike 13 = .ok (.iload_n 2, 1) := by decide +kernel
theorem dL_alike_14 : decode cL_alike 14 = .ok (.i2l, 1) := by decide +kernel
theorem dL_alike_15 : decode cL_alike 15 = .ok (.iconst 1, 1) := by decide +kernel
theorem dL_alike_16 : decode cL_alike 16 = .ok (.iload_n 2, 1) := by decide +kernel
theorem dL_alike_17 : decode cL_alike 17 = .ok (.bipush 20, 2) := by decide +kernel
theorem dL_alike_19 : decode cL_alike 19 = .ok (.irem, 1) := by decide +kernel
theorem dL_alike_20 : decode cL_alike 20 = .ok (.iadd, 1) := by decide +kernel
theorem dL_alike_21 : decode cL_alike 21 = .ok (.invokestatic 205, 3) := by decide +kernel
theorem dL_alike_24 : decode cL_alike 24 = .ok (.if_icmp .ne 18, 3) := by decide +kernel
theorem dL_alike_27 : decode cL_alike 27 = .ok (.aload_n 0, 1) := by decide +kernel
theorem dL_alike_28 : decode cL_alike 28 = .ok (.invokevirtual 209, 3) := by decide +kernel
theorem dL_alike_31 : decode cL_alike 31 = .ok (.aload_n 1, 1) := by decide +kernel
theorem dL_alike_32 : decode cL_alike 32 = .ok (.invokevirtual 209, 3) := by decide +kernel
theorem dL_alike_35 : decode cL_alike 35 = .ok (.if_icmp .ne 7, 3) := by decide +kernel
theorem dL_alike_38 : decode cL_alike 38 = .ok (.iconst 1, 1) := by decide +kernel
theorem dL_alike_39 : decode cL_alike 39 = .ok (.goto 4, 3) := by decide +kernel
theorem dL_alike_42 : decode cL_alike 42 = .ok (.iconst 0, 1) := by decide +kernel
theorem dL_alike_43 : decode cL_alike 43 = .ok (.istore_n 3, 1) := by decide +kernel
theorem dL_alike_44 : decode cL_alike 44 = .ok (.iconst 0, 1) := by decide +kernel
theorem dL_alike_45 : decode cL_alike 45 = .ok (.istore 4, 2) := by decide +kernel
theorem dL_alike_47 : decode cL_alike 47 = .ok (.iload 4, 2) := by decide +kernel
theorem dL_alike_49 : decode cL_alike 49 = .ok (.bipush 13, 2) := by decide +kernel
theorem dL_alike_51 : decode cL_alike 51 = .ok (.if_icmp .ge 165, 3) := by decide +kernel
theorem dL_alike_54 : decode cL_alike 54 = .ok (.iload_n 3, 1) := by decide +kernel
theorem dL_alike_55 : decode cL_alike 55 = .ok (.ifCond .eq 161, 3) := by decide +kernel
theorem dL_alike_58 : decode cL_alike 58 = .ok (.aload_n 0, 1) := by decide +kernel
theorem dL_alike_59 : decode cL_alike 59 = .ok (.iconst 2, 1) := by decide +kernel
theorem dL_alike_60 : decode cL_alike 60 = .ok (.iload 4, 2) := by decide +kernel
theorem dL_alike_62 : decode cL_alike 62 = .ok (.iconst 0, 1) := by decide +kernel
theorem dL_alike_63 : decode cL_alike 63 = .ok (.iconst 0, 1) := by decide +kernel
theorem dL_alike_64 : decode cL_alike 64 = .ok (.invokestatic 189, 3) := by decide +kernel
theorem dL_alike_67 : decode cL_alike 67 = .ok (.aload_n 1, 1) := by decide +kernel
theorem dL_alike_68 : decode cL_alike 68 = .ok (.iconst 2, 1) := by decide +kernel
theorem dL_alike_69 : decode cL_alike 69 = .ok (.iload 4, 2) := by decide +kernel
theorem dL_alike_71 : decode cL_alike 71 = .ok (.iconst 0, 1) := by decide +kernel
theorem dL_alike_72 : decode cL_alike 72 = .ok (.iconst 0, 1) := by decide +kernel
theorem dL_alike_73 : decode cL_alike 73 = .ok (.invokestatic 189, 3) := by decide +kernel
theorem dL_alike_76 : decode cL_alike 76 = .ok (.if_icmp .ne 132, 3) := by decide +kernel
theorem dL_alike_79 : decode cL_alike 79 = .ok (.aload_n 0, 1) := by decide +kernel
theorem dL_alike_80 : decode cL_alike 80 = .ok (.iconst 3, 1) := by decide +kernel
theorem dL_alike_81 : decode cL_alike 81 = .ok (.iload_n 2, 1) := by decide +kernel
theorem dL_alike_82 : decode cL_alike 82 = .ok (.iconst 3, 1) := by decide +kernel
theorem dL_alike_83 : decode cL_alike 83 = .ok (.irem, 1) := by decide +kernel
theorem dL_alike_84 : decode cL_alike 84 = .ok (.iload 4, 2) := by decide +kernel
theorem dL_alike_86 : decode cL_alike 86 = .ok (.iconst 0, 1) := by decide +kernel
theorem dL_alike_87 : decode cL_alike 87 = .ok (.invokestatic 189, 3) := by decide +kernel
theorem dL_alike_90 : decode cL_alike 90 = .ok (.aload_n 1, 1) := by decide +kernel
theorem dL_alike_91 : decode cL_alike 91 = .ok (.iconst 3, 1) := by decide +kernel
theorem dL_alike_92 : decode cL_alike 92 = .ok (.iload_n 2, 1) := by decide +kernel
theorem dL_alike_93 : decode cL_alike 93 = .ok (.iconst 3, 1) := by decide +kernel
theorem dL_alike_94 : decode cL_alike 94 = .ok (.irem, 1) := by decide +kernel
theorem dL_alike_95 : decode cL_alike 95 = .ok (.iload 4, 2) := by decide +kernel
theorem dL_alike_97 : decode cL_alike 97 = .ok (.iconst 0, 1) := by decide +kernel
theorem dL_alike_98 : decode cL_alike 98 = .ok (.invokestatic 189, 3) := by decide +kernel
theorem dL_alike_101 : decode cL_alike 101 = .ok (.if_icmp .ne 107, 3) := by decide +kernel
theorem dL_alike_104 : decode cL_alike 104 = .ok (.aload_n 0, 1) := by decide +kernel
theorem dL_alike_105 : decode cL_alike 105 = .ok (.iconst 5, 1) := by decide +kernel
theorem dL_alike_106 : decode cL_alike 106 = .ok (.iload 4, 2) := by decide +kernel
theorem dL_alike_108 : decode cL_alike 108 = .ok (.iload_n 2, 1) := by decide +kernel
theorem dL_alike_109 : decode cL_alike 109 = .ok (.iconst 5, 1) := by decide +kernel
theorem dL_alike_110 : decode cL_alike 110 = .ok (.irem, 1) := by decide +kernel
theorem dL_alike_111 : decode cL_alike 111 = .ok (.iconst 0, 1) := by decide +kernel
theorem dL_alike_112 : decode cL_alike 112 = .ok (.invokestatic 189, 3) := by decide +kernel
theorem dL_alike_115 : decode cL_alike 115 = .ok (.aload_n 1, 1) := by decide +kernel
theorem dL_alike_116 : decode cL_alike 116 = .ok (.iconst 5, 1) := by decide +kernel
theorem dL_alike_117 : decode cL_alike 117 = .ok (.iload 4, 2) := by decide +kernel
theorem dL_alike_119 : decode cL_alike 119 = .ok (.iload_n 2, 1) := by decide +kernel
theorem dL_alike_120 : decode cL_alike 120 = .ok (.iconst 5, 1) := by decide +kernel
theorem dL_alike_121 : decode cL_alike 121 = .ok (.irem, 1) := by decide +kernel
theorem dL_alike_122 : decode cL_alike 122 = .ok (.iconst 0, 1) := by decide +kernel
theorem dL_alike_123 : decode cL_alike 123 = .ok (.invokestatic 189, 3) := by decide +kernel
theorem dL_alike_126 : decode cL_alike 126 = .ok (.if_icmp .ne 82, 3) := by decide +kernel
theorem dL_alike_129 : decode cL_alike 129 = .ok (.aload_n 0, 1) := by decide +kernel
theorem dL_alike_130 : decode cL_alike 130 = .ok (.bipush 7, 2) := by decide +kernel
theorem dL_alike_132 : decode cL_alike 132 = .ok (.iload 4, 2) := by decide +kernel
theorem dL_alike_134 : decode cL_alike 134 = .ok (.iload_n 2, 1) := by decide +kernel
theorem dL_alike_135 : decode cL_alike 135 = .ok (.iconst 4, 1) := by decide +kernel
theorem dL_alike_136 : decode cL_alike 136 = .ok (.irem, 1) := by decide +kernel
theorem dL_alike_137 : decode cL_alike 137 = .ok (.iconst 0, 1) := by decide +kernel
theorem dL_alike_138 : decode cL_alike 138 = .ok (.invokestatic 189, 3) := by decide +kernel
theorem dL_alike_141 : decode cL_alike 141 = .ok (.aload_n 1, 1) := by decide +kernel
theorem dL_alike_142 : decode cL_alike 142 = .ok (.bipush 7, 2) := by decide +kernel
theorem dL_alike_144 : decode cL_alike 144 = .ok (.iload 4, 2) := by decide +kernel
theorem dL_alike_146 : decode cL_alike 146 = .ok (.iload_n 2, 1) := by decide +kernel
theorem dL_alike_147 : decode cL_alike 147 = .ok (.iconst 4, 1) := by decide +kernel
theorem dL_alike_148 : decode cL_alike 148 = .ok (.irem, 1) := by decide +kernel
theorem dL_alike_149 : decode cL_alike 149 = .ok (.iconst 0, 1) := by decide +kernel
theorem dL_alike_150 : decode cL_alike 150 = .ok (.invokestatic 189, 3) := by decide +kernel
theorem dL_alike_153 : decode cL_alike 153 = .ok (.if_icmp .ne 55, 3) := by decide +kernel
theorem dL_alike_156 : decode cL_alike 156 = .ok (.aload_n 0, 1) := by decide +kernel
theorem dL_alike_157 : decode cL_alike 157 = .ok (.bipush 6, 2) := by decide +kernel
theorem dL_alike_159 : decode cL_alike 159 = .ok (.iload 4, 2) := by decide +kernel
theorem dL_alike_161 : decode cL_alike 161 = .ok (.iconst 0, 1) := by decide +kernel
theorem dL_alike_162 : decode cL_alike 162 = .ok (.iconst 0, 1) := by decide +kernel
theorem dL_alike_163 : decode cL_alike 163 = .ok (.invokestatic 189, 3) := by decide +kernel
theorem dL_alike_166 : decode cL_alike 166 = .ok (.aload_n 1, 1) := by decide +kernel
theorem dL_alike_167 : decode cL_alike 167 = .ok (.bipush 6, 2) := by decide +kernel
theorem dL_alike_169 : decode cL_alike 169 = .ok (.iload 4, 2) := by decide +kernel
theorem dL_alike_171 : decode cL_alike 171 = .ok (.iconst 0, 1) := by decide +kernel
theorem dL_alike_172 : decode cL_alike 172 = .ok (.iconst 0, 1) := by decide +kernel
theorem dL_alike_173 : decode cL_alike 173 = .ok (.invokestatic 189, 3) := by decide +kernel
theorem dL_alike_176 : decode cL_alike 176 = .ok (.if_icmp .ne 32, 3) := by decide +kernel
theorem dL_alike_179 : decode cL_alike 179 = .ok (.aload_n 0, 1) := by decide +kernel
theorem dL_alike_180 : decode cL_alike 180 = .ok (.iconst 4, 1) := by decide +kernel
theorem dL_alike_181 : decode cL_alike 181 = .ok (.iload 4, 2) := by decide +kernel
theorem dL_alike_183 : decode cL_alike 183 = .ok (.iload_n 2, 1) := by decide +kernel
theorem dL_alike_184 : decode cL_alike 184 = .ok (.iconst 4, 1) := by decide +kernel
theorem dL_alike_185 : decode cL_alike 185 = .ok (.irem, 1) := by decide +kernel
theorem dL_alike_186 : decode cL_alike 186 = .ok (.iconst 0, 1) := by decide +kernel
theorem dL_alike_187 : decode cL_alike 187 = .ok (.invokestatic 189, 3) := by decide +kernel
theorem dL_alike_190 : decode cL_alike 190 = .ok (.aload_n 1, 1) := by decide +kernel
theorem dL_alike_191 : decode cL_alike 191 = .ok (.iconst 4, 1) := by decide +kernel
theorem dL_alike_192 : decode cL_alike 192 = .ok (.iload 4, 2) := by decide +kernel
theorem dL_alike_194 : decode cL_alike 194 = .ok (.iload_n 2, 1) := by decide +kernel
theorem dL_alike_195 : decode cL_alike 195 = .ok (.iconst 4, 1) := by decide +kernel
theorem dL_alike_196 : decode cL_alike 196 = .ok (.irem, 1) := by decide +kernel
theorem dL_alike_197 : decode cL_alike 197 = .ok (.iconst 0, 1) := by decide +kernel
theorem dL_alike_198 : decode cL_alike 198 = .ok (.invokestatic 189, 3) := by decide +kernel
theorem dL_alike_201 : decode cL_alike 201 = .ok (.if_icmp .ne 7, 3) := by decide +kernel
theorem dL_alike_204 : decode cL_alike 204 = .ok (.iconst 1, 1) := by decide +kernel
theorem dL_alike_205 : decode cL_alike 205 = .ok (.goto 4, 3) := by decide +kernel
theorem dL_alike_208 : decode cL_alike 208 = .ok (.iconst 0, 1) := by decide +kernel
theorem dL_alike_209 : decode cL_alike 209 = .ok (.istore_n 3, 1) := by decide +kernel
theorem dL_alike_210 : decode cL_alike 210 = .ok (.iinc 4 1, 3) := by decide +kernel
theorem dL_alike_213 : decode cL_alike 213 = .ok (.goto (-166), 3) := by decide +kernel
theorem dL_alike_216 : decode cL_alike 216 = .ok (.iload_n 3, 1) := by decide +kernel
theorem dL_alike_217 : decode cL_alike 217 = .ok (.ireturn, 1) := by decide +kernel
theorem dL_waits_0 : decode cL_waits 0 = .ok (.iconst 1, 1) := by decide +kernel
theorem dL_waits_1 : decode cL_waits 1 = .ok (.istore_n 3, 1) := by decide +kernel
theorem dL_waits_2 : decode cL_waits 2 = .ok (.iload_n 2, 1) := by decide +kernel
theorem dL_waits_3 : decode cL_waits 3 = .ok (.istore 4, 2) := by decide +kernel
theorem dL_waits_5 : decode cL_waits 5 = .ok (.iload 4, 2) := by decide +kernel
theorem dL_waits_7 : decode cL_waits 7 = .ok (.ifCond .le 67, 3) := by decide +kernel
theorem dL_waits_10 : decode cL_waits 10 = .ok (.iload_n 3, 1) := by decide +kernel
theorem dL_waits_11 : decode cL_waits 11 = .ok (.ifCond .eq 63, 3) := by decide +kernel
theorem dL_waits_14 : decode cL_waits 14 = .ok (.iload 4, 2) := by decide +kernel
theorem dL_waits_16 : decode cL_waits 16 = .ok (.bipush 60, 2) := by decide +kernel
theorem dL_waits_18 : decode cL_waits 18 = .ok (.if_icmp .le 8, 3) := by decide +kernel
theorem dL_waits_21 : decode cL_waits 21 = .ok (.bipush 60, 2) := by decide +kernel
theorem dL_waits_23 : decode cL_waits 23 = .ok (.goto 5, 3) := by decide +kernel
theorem dL_waits_26 : decode cL_waits 26 = .ok (.iload 4, 2) := by decide +kernel
theorem dL_waits_28 : decode cL_waits 28 = .ok (.istore 5, 2) := by decide +kernel
theorem dL_waits_30 : decode cL_waits 30 = .ok (.aload_n 0, 1) := by decide +kernel
theorem dL_waits_31 : decode cL_waits 31 = .ok (.bipush 17, 2) := by decide +kernel
theorem dL_waits_33 : decode cL_waits 33 = .ok (.iload 5, 2) := by decide +kernel
theorem dL_waits_35 : decode cL_waits 35 = .ok (.iconst 0, 1) := by decide +kernel
theorem dL_waits_36 : decode cL_waits 36 = .ok (.iconst 0, 1) := by decide +kernel
theorem dL_waits_37 : decode cL_waits 37 = .ok (.invokestatic 189, 3) := by decide +kernel
theorem dL_waits_40 : decode cL_waits 40 = .ok (.istore 6, 2) := by decide +kernel
theorem dL_waits_42 : decode cL_waits 42 = .ok (.iload 6, 2) := by decide +kernel
theorem dL_waits_44 : decode cL_waits 44 = .ok (.ifCond .lt 22, 3) := by decide +kernel
theorem dL_waits_47 : decode cL_waits 47 = .ok (.aload_n 1, 1) := by decide +kernel
theorem dL_waits_48 : decode cL_waits 48 = .ok (.bipush 17, 2) := by decide +kernel
theorem dL_waits_50 : decode cL_waits 50 = .ok (.iload 5, 2) := by decide +kernel
theorem dL_waits_52 : decode cL_waits 52 = .ok (.iconst 0, 1) := by decide +kernel
theorem dL_waits_53 : decode cL_waits 53 = .ok (.iconst 0, 1) := by decide +kernel
theorem dL_waits_54 : decode cL_waits 54 = .ok (.invokestatic 189, 3) := by decide +kernel
theorem dL_waits_57 : decode cL_waits 57 = .ok (.iload 6, 2) := by decide +kernel
theorem dL_waits_59 : decode cL_waits 59 = .ok (.if_icmp .ne 7, 3) := by decide +kernel
theorem dL_waits_62 : decode cL_waits 62 = .ok (.iconst 1, 1) := by decide +kernel
theorem dL_waits_63 : decode cL_waits 63 = .ok (.goto 4, 3) := by decide +kernel
theorem dL_waits_66 : decode cL_waits 66 = .ok (.iconst 0, 1) := by decide +kernel
theorem dL_waits_67 : decode cL_waits 67 = .ok (.istore_n 3, 1) := by decide +kernel
theorem dL_waits_68 : decode cL_waits 68 = .ok (.iinc 4 (-60), 3) := by decide +kernel
theorem dL_waits_71 : decode cL_waits 71 = .ok (.goto (-66), 3) := by decide +kernel
theorem dL_waits_74 : decode cL_waits 74 = .ok (.iload_n 3, 1) := by decide +kernel
theorem dL_waits_75 : decode cL_waits 75 = .ok (.ireturn, 1) := by decide +kernel
theorem dL_undoes_0 : decode cL_undoes 0 = .ok (.iconst 1, 1) := by decide +kernel
theorem dL_undoes_1 : decode cL_undoes 1 = .ok (.istore_n 3, 1) := by decide +kernel
theorem dL_undoes_2 : decode cL_undoes 2 = .ok (.iload_n 2, 1) := by decide +kernel
theorem dL_undoes_3 : decode cL_undoes 3 = .ok (.istore 4, 2) := by decide +kernel
theorem dL_undoes_5 : decode cL_undoes 5 = .ok (.iload 4, 2) := by decide +kernel
theorem dL_undoes_7 : decode cL_undoes 7 = .ok (.ifCond .le 49, 3) := by decide +kernel
theorem dL_undoes_10 : decode cL_undoes 10 = .ok (.iload_n 3, 1) := by decide +kernel
theorem dL_undoes_11 : decode cL_undoes 11 = .ok (.ifCond .eq 45, 3) := by decide +kernel
theorem dL_undoes_14 : decode cL_undoes 14 = .ok (.aload_n 0, 1) := by decide +kernel
theorem dL_undoes_15 : decode cL_undoes 15 = .ok (.bipush 18, 2) := by decide +kernel
theorem dL_undoes_17 : decode cL_undoes 17 = .ok (.iconst 0, 1) := by decide +kernel
theorem dL_undoes_18 : decode cL_undoes 18 = .ok (.iconst 0, 1) := by decide +kernel
theorem dL_undoes_19 : decode cL_undoes 19 = .ok (.iconst 0, 1) := by decide +kernel
theorem dL_undoes_20 : decode cL_undoes 20 = .ok (.invokestatic 189, 3) := by decide +kernel
theorem dL_undoes_23 : decode cL_undoes 23 = .ok (.invokestatic 243, 3) := by decide +kernel
theorem dL_undoes_26 : decode cL_undoes 26 = .ok (.ifCond .ne 22, 3) := by decide +kernel
theorem dL_undoes_29 : decode cL_undoes 29 = .ok (.aload_n 1, 1) := by decide +kernel
theorem dL_undoes_30 : decode cL_undoes 30 = .ok (.bipush 18, 2) := by decide +kernel
theorem dL_undoes_32 : decode cL_undoes 32 = .ok (.iconst 0, 1) := by decide +kernel
theorem dL_undoes_33 : decode cL_undoes 33 = .ok (.iconst 0, 1) := by decide +kernel
theorem dL_undoes_34 : decode cL_undoes 34 = .ok (.iconst 0, 1) := by decide +kernel
theorem dL_undoes_35 : decode cL_undoes 35 = .ok (.invokestatic 189, 3) := by decide +kernel
theorem dL_undoes_38 : decode cL_undoes 38 = .ok (.invokestatic 243, 3) := by decide +kernel
theorem dL_undoes_41 : decode cL_undoes 41 = .ok (.ifCond .ne 7, 3) := by decide +kernel
theorem dL_undoes_44 : decode cL_undoes 44 = .ok (.iconst 1, 1) := by decide +kernel
theorem dL_undoes_45 : decode cL_undoes 45 = .ok (.goto 4, 3) := by decide +kernel
theorem dL_undoes_48 : decode cL_undoes 48 = .ok (.iconst 0, 1) := by decide +kernel
theorem dL_undoes_49 : decode cL_undoes 49 = .ok (.istore_n 3, 1) := by decide +kernel
theorem dL_undoes_50 : decode cL_undoes 50 = .ok (.iinc 4 (-60), 3) := by decide +kernel
theorem dL_undoes_53 : decode cL_undoes 53 = .ok (.goto (-48), 3) := by decide +kernel
theorem dL_undoes_56 : decode cL_undoes 56 = .ok (.iload_n 3, 1) := by decide +kernel
theorem dL_undoes_57 : decode cL_undoes 57 = .ok (.ireturn, 1) := by decide +kernel
theorem dL_dark_0 : decode cL_dark 0 = .ok (.iload_n 2, 1) := by decide +kernel
theorem dL_dark_1 : decode cL_dark 1 = .ok (.aload_n 0, 1) := by decide +kernel
theorem dL_dark_2 : decode cL_dark 2 = .ok (.iconst 2, 1) := by decide +kernel
theorem dL_dark_3 : decode cL_dark 3 = .ok (.iconst 0, 1) := by decide +kernel
theorem dL_dark_4 : decode cL_dark 4 = .ok (.iconst 0, 1) := by decide +kernel
theorem dL_dark_5 : decode cL_dark 5 = .ok (.iconst 0, 1) := by decide +kernel
theorem dL_dark_6 : decode cL_dark 6 = .ok (.invokestatic 189, 3) := by decide +kernel
theorem dL_dark_9 : decode cL_dark 9 = .ok (.irem, 1) := by decide +kernel
theorem dL_dark_10 : decode cL_dark 10 = .ok (.istore_n 3, 1) := by decide +kernel
theorem dL_dark_11 : decode cL_dark 11 = .ok (.aload_n 0, 1) := by decide +kernel
theorem dL_dark_12 : decode cL_dark 12 = .ok (.bipush 19, 2) := by decide +kernel
theorem dL_dark_14 : decode cL_dark 14 = .ok (.iload_n 3, 1) := by decide +kernel
theorem dL_dark_15 : decode cL_dark 15 = .ok (.iconst 0, 1) := by decide +kernel
theorem dL_dark_16 : decode cL_dark 16 = .ok (.iconst 0, 1) := by decide +kernel
theorem dL_dark_17 : decode cL_dark 17 = .ok (.invokestatic 189, 3) := by decide +kernel
theorem dL_dark_20 : decode cL_dark 20 = .ok (.istore 4, 2) := by decide +kernel
theorem dL_dark_22 : decode cL_dark 22 = .ok (.aload_n 0, 1) := by decide +kernel
theorem dL_dark_23 : decode cL_dark 23 = .ok (.iconst 2, 1) := by decide +kernel
theorem dL_dark_24 : decode cL_dark 24 = .ok (.iconst 3, 1) := by decide +kernel
theorem dL_dark_25 : decode cL_dark 25 = .ok (.iconst 0, 1) := by decide +kernel
theorem dL_dark_26 : decode cL_dark 26 = .ok (.iconst 0, 1) := by decide +kernel
theorem dL_dark_27 : decode cL_dark 27 = .ok (.invokestatic 189, 3) := by decide +kernel
theorem dL_dark_30 : decode cL_dark 30 = .ok (.istore 5, 2) := by decide +kernel
theorem dL_dark_32 : decode cL_dark 32 = .ok (.iconst 1, 1) := by decide +kernel
theorem dL_dark_33 : decode cL_dark 33 = .ok (.iload_n 2, 1) := by decide +kernel
theorem dL_dark_34 : decode cL_dark 34 = .ok (.iconst 3, 1) := by decide +kernel
theorem dL_dark_35 : decode cL_dark 35 = .ok (.idiv, 1) := by decide +kernel
theorem dL_dark_36 : decode cL_dark 36 = .ok (.bipush 60, 2) := by decide +kernel
theorem dL_dark_38 : decode cL_dark 38 = .ok (.irem, 1) := by decide +kernel
theorem dL_dark_39 : decode cL_dark 39 = .ok (.iadd, 1) := by decide +kernel
theorem dL_dark_40 : decode cL_dark 40 = .ok (.istore 6, 2) := by decide +kernel
theorem dL_dark_42 : decode cL_dark 42 = .ok (.aload_n 0, 1) := by decide +kernel
theorem dL_dark_43 : decode cL_dark 43 = .ok (.bipush 20, 2) := by decide +kernel
theorem dL_dark_45 : decode cL_dark 45 = .ok (.iload_n 3, 1) := by decide +kernel
theorem dL_dark_46 : decode cL_dark 46 = .ok (.iload 6, 2) := by decide +kernel
theorem dL_dark_48 : decode cL_dark 48 = .ok (.iconst 0, 1) := by decide +kernel
theorem dL_dark_49 : decode cL_dark 49 = .ok (.invokestatic 189, 3) := by decide +kernel
theorem dL_dark_52 : decode cL_dark 52 = .ok (.istore 7, 2) := by decide +kernel
theorem dL_dark_54 : decode cL_dark 54 = .ok (.aload_n 0, 1) := by decide +kernel
theorem dL_dark_55 : decode cL_dark 55 = .ok (.iconst 3, 1) := by decide +kernel
theorem dL_dark_56 : decode cL_dark 56 = .ok (.iload_n 3, 1) := by decide +kernel
theorem dL_dark_57 : decode cL_dark 57 = .ok (.iconst 0, 1) := by decide +kernel
theorem dL_dark_58 : decode cL_dark 58 = .ok (.iconst 0, 1) := by decide +kernel
theorem dL_dark_59 : decode cL_dark 59 = .ok (.invokestatic 189, 3) := by decide +kernel
theorem dL_dark_62 : decode cL_dark 62 = .ok (.istore 8, 2) := by decide +kernel
theorem dL_dark_64 : decode cL_dark 64 = .ok (.iload 4, 2) := by decide +kernel
theorem dL_dark_66 : decode cL_dark 66 = .ok (.iconst (-1), 1) := by decide +kernel
theorem dL_dark_67 : decode cL_dark 67 = .ok (.if_icmp .lt 91, 3) := by decide +kernel
theorem dL_dark_70 : decode cL_dark 70 = .ok (.iload 4, 2) := by decide +kernel
theorem dL_dark_72 : decode cL_dark 72 = .ok (.sipush 200, 3) := by decide +kernel
theorem dL_dark_75 : decode cL_dark 75 = .ok (.if_icmp .gt 83, 3) := by decide +kernel
theorem dL_dark_78 : decode cL_dark 78 = .ok (.iload 4, 2) := by decide +kernel
theorem dL_dark_80 : decode cL_dark 80 = .ok (.ifCond .ne 7, 3) := by decide +kernel
theorem dL_dark_83 : decode cL_dark 83 = .ok (.iconst 1, 1) := by decide +kernel
theorem dL_dark_84 : decode cL_dark 84 = .ok (.goto 4, 3) := by decide +kernel
theorem dL_dark_87 : decode cL_dark 87 = .ok (.iconst 0, 1) := by decide +kernel
theorem dL_dark_88 : decode cL_dark 88 = .ok (.aload_n 0, 1) := by decide +kernel
theorem dL_dark_89 : decode cL_dark 89 = .ok (.iconst 3, 1) := by decide +kernel
theorem dL_dark_90 : decode cL_dark 90 = .ok (.iload_n 3, 1) := by decide +kernel
theorem dL_dark_91 : decode cL_dark 91 = .ok (.iconst 3, 1) := by decide +kernel
theorem dL_dark_92 : decode cL_dark 92 = .ok (.iconst 0, 1) := by decide +kernel
theorem dL_dark_93 : decode cL_dark 93 = .ok (.invokestatic 189, 3) := by decide +kernel
theorem dL_dark_96 : decode cL_dark 96 = .ok (.ifCond .ne 7, 3) := by decide +kernel
theorem dL_dark_99 : decode cL_dark 99 = .ok (.iconst 1, 1) := by decide +kernel
theorem dL_dark_100 : decode cL_dark 100 = .ok (.goto 4, 3) := by decide +kernel
theorem dL_dark_103 : decode cL_dark 103 = .ok (.iconst 0, 1) := by decide +kernel
theorem dL_dark_104 : decode cL_dark 104 = .ok (.if_icmp .ne 54, 3) := by decide +kernel
theorem dL_dark_107 : decode cL_dark 107 = .ok (.iload 7, 2) := by decide +kernel
theorem dL_dark_109 : decode cL_dark 109 = .ok (.iload 8, 2) := by decide +kernel
theorem dL_dark_111 : decode cL_dark 111 = .ok (.if_icmp .lt 47, 3) := by decide +kernel
theorem dL_dark_114 : decode cL_dark 114 = .ok (.iload 7, 2) := by decide +kernel
theorem dL_dark_116 : decode cL_dark 116 = .ok (.bipush 60, 2) := by decide +kernel
theorem dL_dark_118 : decode cL_dark 118 = .ok (.if_icmp .gt 40, 3) := by decide +kernel
theorem dL_dark_121 : decode cL_dark 121 = .ok (.aload_n 0, 1) := by decide +kernel
theorem dL_dark_122 : decode cL_dark 122 = .ok (.aload_n 1, 1) := by decide +kernel
theorem dL_dark_123 : decode cL_dark 123 = .ok (.iload 6, 2) := by decide +kernel
theorem dL_dark_125 : decode cL_dark 125 = .ok (.invokestatic 247, 3) := by decide +kernel
theorem dL_dark_128 : decode cL_dark 128 = .ok (.ifCond .eq 30, 3) := by decide +kernel
theorem dL_dark_131 : decode cL_dark 131 = .ok (.aload_n 0, 1) := by decide +kernel
theorem dL_dark_132 : decode cL_dark 132 = .ok (.iconst 3, 1) := by decide +kernel
theorem dL_dark_133 : decode cL_dark 133 = .ok (.iload_n 3, 1) := by decide +kernel
theorem dL_dark_134 : decode cL_dark 134 = .ok (.iconst 0, 1) := by decide +kernel
theorem dL_dark_135 : decode cL_dark 135 = .ok (.iconst 0, 1) := by decide +kernel
theorem dL_dark_136 : decode cL_dark 136 = .ok (.invokestatic 189, 3) := by decide +kernel
theorem dL_dark_139 : decode cL_dark 139 = .ok (.iload 7, 2) := by decide +kernel
theorem dL_dark_141 : decode cL_dark 141 = .ok (.if_icmp .ne 17, 3) := by decide +kernel
theorem dL_dark_144 : decode cL_dark 144 = .ok (.aload_n 0, 1) := by decide +kernel
theorem dL_dark_145 : decode cL_dark 145 = .ok (.aload_n 1, 1) := by decide +kernel
theorem dL_dark_146 : decode cL_dark 146 = .ok (.iload 6, 2) := by decide +kernel
theorem dL_dark_148 : decode cL_dark 148 = .ok (.invokestatic 250, 3) := by decide +kernel
theorem dL_dark_151 : decode cL_dark 151 = .ok (.ifCond .eq 7, 3) := by decide +kernel
theorem dL_dark_154 : decode cL_dark 154 = .ok (.iconst 1, 1) := by decide +kernel
theorem dL_dark_155 : decode cL_dark 155 = .ok (.goto 4, 3) := by decide +kernel
theorem dL_dark_158 : decode cL_dark 158 = .ok (.iconst 0, 1) := by decide +kernel
theorem dL_dark_159 : decode cL_dark 159 = .ok (.istore 9, 2) := by decide +kernel
theorem dL_dark_161 : decode cL_dark 161 = .ok (.iload 4, 2) := by decide +kernel
theorem dL_dark_163 : decode cL_dark 163 = .ok (.iconst (-1), 1) := by decide +kernel
theorem dL_dark_164 : decode cL_dark 164 = .ok (.if_icmp .ne 8, 3) := by decide +kernel
theorem dL_dark_167 : decode cL_dark 167 = .ok (.bipush 120, 2) := by decide +kernel
theorem dL_dark_169 : decode cL_dark 169 = .ok (.goto 5, 3) := by decide +kernel
theorem dL_dark_172 : decode cL_dark 172 = .ok (.iload 4, 2) := by decide +kernel
theorem dL_dark_174 : decode cL_dark 174 = .ok (.istore 10, 2) := by decide +kernel
theorem dL_dark_176 : decode cL_dark 176 = .ok (.iload 10, 2) := by decide +kernel
theorem dL_dark_178 : decode cL_dark 178 = .ok (.iconst 1, 1) := by decide +kernel
theorem dL_dark_179 : decode cL_dark 179 = .ok (.if_icmp .le 51, 3) := by decide +kernel
theorem dL_dark_182 : decode cL_dark 182 = .ok (.iload 9, 2) := by decide +kernel
theorem dL_dark_184 : decode cL_dark 184 = .ok (.ifCond .eq 43, 3) := by decide +kernel
theorem dL_dark_187 : decode cL_dark 187 = .ok (.aload_n 0, 1) := by decide +kernel
theorem dL_dark_188 : decode cL_dark 188 = .ok (.aload_n 1, 1) := by decide +kernel
theorem dL_dark_189 : decode cL_dark 189 = .ok (.iload 10, 2) := by decide +kernel
theorem dL_dark_191 : decode cL_dark 191 = .ok (.iconst 1, 1) := by decide +kernel
theorem dL_dark_192 : decode cL_dark 192 = .ok (.isub, 1) := by decide +kernel
theorem dL_dark_193 : decode cL_dark 193 = .ok (.invokestatic 247, 3) := by decide +kernel
theorem dL_dark_196 : decode cL_dark 196 = .ok (.ifCond .eq 31, 3) := by decide +kernel
theorem dL_dark_199 : decode cL_dark 199 = .ok (.aload_n 0, 1) := by decide +kernel
theorem dL_dark_200 : decode cL_dark 200 = .ok (.iconst 3, 1) := by decide +kernel
theorem dL_dark_201 : decode cL_dark 201 = .ok (.iload_n 3, 1) := by decide +kernel
theorem dL_dark_202 : decode cL_dark 202 = .ok (.iconst 3, 1) := by decide +kernel
theorem dL_dark_203 : decode cL_dark 203 = .ok (.iconst 0, 1) := by decide +kernel
theorem dL_dark_204 : decode cL_dark 204 = .ok (.invokestatic 189, 3) := by decide +kernel
theorem dL_dark_207 : decode cL_dark 207 = .ok (.iconst 1, 1) := by decide +kernel
theorem dL_dark_208 : decode cL_dark 208 = .ok (.if_icmp .ne 19, 3) := by decide +kernel
theorem dL_dark_211 : decode cL_dark 211 = .ok (.aload_n 0, 1) := by decide +kernel
theorem dL_dark_212 : decode cL_dark 212 = .ok (.aload_n 1, 1) := by decide +kernel
theorem dL_dark_213 : decode cL_dark 213 = .ok (.iload 10, 2) := by decide +kernel
theorem dL_dark_215 : decode cL_dark 215 = .ok (.iconst 1, 1) := by decide +kernel
theorem dL_dark_216 : decode cL_dark 216 = .ok (.isub, 1) := by decide +kernel
theorem dL_dark_217 : decode cL_dark 217 = .ok (.invokestatic 250, 3) := by decide +kernel
theorem dL_dark_220 : decode cL_dark 220 = .ok (.ifCond .eq 7, 3) := by decide +kernel
theorem dL_dark_223 : decode cL_dark 223 = .ok (.iconst 1, 1) := by decide +kernel
theorem dL_dark_224 : decode cL_dark 224 = .ok (.goto 4, 3) := by decide +kernel
theorem dL_dark_227 : decode cL_dark 227 = .ok (.iconst 0, 1) := by decide +kernel
theorem dL_dark_228 : decode cL_dark 228 = .ok (.istore 9, 2) := by decide +kernel
theorem dL_dark_230 : decode cL_dark 230 = .ok (.iload 9, 2) := by decide +kernel
theorem dL_dark_232 : decode cL_dark 232 = .ok (.ifCond .eq 57, 3) := by decide +kernel
theorem dL_dark_235 : decode cL_dark 235 = .ok (.aload_n 0, 1) := by decide +kernel
theorem dL_dark_236 : decode cL_dark 236 = .ok (.aload_n 1, 1) := by decide +kernel
theorem dL_dark_237 : decode cL_dark 237 = .ok (.iload 10, 2) := by decide +kernel
theorem dL_dark_239 : decode cL_dark 239 = .ok (.invokestatic 247, 3) := by decide +kernel
theorem dL_dark_242 : decode cL_dark 242 = .ok (.ifCond .eq 47, 3) := by decide +kernel
theorem dL_dark_245 : decode cL_dark 245 = .ok (.aload_n 0, 1) := by decide +kernel
theorem dL_dark_246 : decode cL_dark 246 = .ok (.iconst 3, 1) := by decide +kernel
theorem dL_dark_247 : decode cL_dark 247 = .ok (.iload_n 3, 1) := by decide +kernel
theorem dL_dark_248 : decode cL_dark 248 = .ok (.iconst 3, 1) := by decide +kernel
theorem dL_dark_249 : decode cL_dark 249 = .ok (.iconst 0, 1) := by decide +kernel
theorem dL_dark_250 : decode cL_dark 250 = .ok (.invokestatic 189, 3) := by decide +kernel
theorem dL_dark_253 : decode cL_dark 253 = .ok (.ifCond .ne 7, 3) := by decide +kernel
theorem dL_dark_256 : decode cL_dark 256 = .ok (.iconst 1, 1) := by decide +kernel
theorem dL_dark_257 : decode cL_dark 257 = .ok (.goto 4, 3) := by decide +kernel
theorem dL_dark_260 : decode cL_dark 260 = .ok (.iconst 0, 1) := by decide +kernel
theorem dL_dark_261 : decode cL_dark 261 = .ok (.iload 4, 2) := by decide +kernel
theorem dL_dark_263 : decode cL_dark 263 = .ok (.iconst (-1), 1) := by decide +kernel
theorem dL_dark_264 : decode cL_dark 264 = .ok (.if_icmp .eq 7, 3) := by decide +kernel
theorem dL_dark_267 : decode cL_dark 267 = .ok (.iconst 1, 1) := by decide +kernel
theorem dL_dark_268 : decode cL_dark 268 = .ok (.goto 4, 3) := by decide +kernel
theorem dL_dark_271 : decode cL_dark 271 = .ok (.iconst 0, 1) := by decide +kernel
theorem dL_dark_272 : decode cL_dark 272 = .ok (.if_icmp .ne 17, 3) := by decide +kernel
theorem dL_dark_275 : decode cL_dark 275 = .ok (.aload_n 0, 1) := by decide +kernel
theorem dL_dark_276 : decode cL_dark 276 = .ok (.aload_n 1, 1) := by decide +kernel
theorem dL_dark_277 : decode cL_dark 277 = .ok (.iload 10, 2) := by decide +kernel
theorem dL_dark_279 : decode cL_dark 279 = .ok (.invokestatic 250, 3) := by decide +kernel
theorem dL_dark_282 : decode cL_dark 282 = .ok (.ifCond .eq 7, 3) := by decide +kernel
theorem dL_dark_285 : decode cL_dark 285 = .ok (.iconst 1, 1) := by decide +kernel
theorem dL_dark_286 : decode cL_dark 286 = .ok (.goto 4, 3) := by decide +kernel
theorem dL_dark_289 : decode cL_dark 289 = .ok (.iconst 0, 1) := by decide +kernel
theorem dL_dark_290 : decode cL_dark 290 = .ok (.istore 9, 2) := by decide +kernel
theorem dL_dark_292 : decode cL_dark 292 = .ok (.iload 9, 2) := by decide +kernel
theorem dL_dark_294 : decode cL_dark 294 = .ok (.ifCond .eq 33, 3) := by decide +kernel
theorem dL_dark_297 : decode cL_dark 297 = .ok (.aload_n 0, 1) := by decide +kernel
theorem dL_dark_298 : decode cL_dark 298 = .ok (.iconst 2, 1) := by decide +kernel
theorem dL_dark_299 : decode cL_dark 299 = .ok (.iconst 3, 1) := by decide +kernel
theorem dL_dark_300 : decode cL_dark 300 = .ok (.iconst 0, 1) := by decide +kernel
theorem dL_dark_301 : decode cL_dark 301 = .ok (.iconst 0, 1) := by decide +kernel
theorem dL_dark_302 : decode cL_dark 302 = .ok (.invokestatic 189, 3) := by decide +kernel
theorem dL_dark_305 : decode cL_dark 305 = .ok (.iload 5, 2) := by decide +kernel
theorem dL_dark_307 : decode cL_dark 307 = .ok (.if_icmp .ne 20, 3) := by decide +kernel
theorem dL_dark_310 : decode cL_dark 310 = .ok (.aload_n 0, 1) := by decide +kernel
theorem dL_dark_311 : decode cL_dark 311 = .ok (.iconst 3, 1) := by decide +kernel
theorem dL_dark_312 : decode cL_dark 312 = .ok (.iload_n 3, 1) := by decide +kernel
theorem dL_dark_313 : decode cL_dark 313 = .ok (.iconst 0, 1) := by decide +kernel
theorem dL_dark_314 : decode cL_dark 314 = .ok (.iconst 0, 1) := by decide +kernel
theorem dL_dark_315 : decode cL_dark 315 = .ok (.invokestatic 189, 3) := by decide +kernel
theorem dL_dark_318 : decode cL_dark 318 = .ok (.iload 8, 2) := by decide +kernel
theorem dL_dark_320 : decode cL_dark 320 = .ok (.if_icmp .ne 7, 3) := by decide +kernel
theorem dL_dark_323 : decode cL_dark 323 = .ok (.iconst 1, 1) := by decide +kernel
theorem dL_dark_324 : decode cL_dark 324 = .ok (.goto 4, 3) := by decide +kernel
theorem dL_dark_327 : decode cL_dark 327 = .ok (.iconst 0, 1) := by decide +kernel
theorem dL_dark_328 : decode cL_dark 328 = .ok (.ireturn, 1) := by decide +kernel
theorem dL_done_0 : decode cL_done 0 = .ok (.aload_n 0, 1) := by decide +kernel
theorem dL_done_1 : decode cL_done 1 = .ok (.invokevirtual 209, 3) := by decide +kernel
theorem dL_done_4 : decode cL_done 4 = .ok (.istore_n 2, 1) := by decide +kernel
theorem dL_done_5 : decode cL_done 5 = .ok (.aload_n 0, 1) := by decide +kernel
theorem dL_done_6 : decode cL_done 6 = .ok (.bipush 6, 2) := by decide +kernel
theorem dL_done_8 : decode cL_done 8 = .ok (.iconst 3, 1) := by decide +kernel
theorem dL_done_9 : decode cL_done 9 = .ok (.iconst 0, 1) := by decide +kernel
theorem dL_done_10 : decode cL_done 10 = .ok (.iconst 0, 1) := by decide +kernel
theorem dL_done_11 : decode cL_done 11 = .ok (.invokestatic 189, 3) := by decide +kernel
theorem dL_done_14 : decode cL_done 14 = .ok (.istore_n 3, 1) := by decide +kernel
theorem dL_done_15 : decode cL_done 15 = .ok (.iconst 0, 1) := by decide +kernel
theorem dL_done_16 : decode cL_done 16 = .ok (.istore 4, 2) := by decide +kernel
theorem dL_done_18 : decode cL_done 18 = .ok (.aload_n 0, 1) := by decide +kernel
theorem dL_done_19 : decode cL_done 19 = .ok (.bipush 16, 2) := by decide +kernel
theorem dL_done_21 : decode cL_done 21 = .ok (.iconst 1, 1) := by decide +kernel
theorem dL_done_22 : decode cL_done 22 = .ok (.iconst 0, 1) := by decide +kernel
theorem dL_done_23 : decode cL_done 23 = .ok (.iconst 0, 1) := by decide +kernel
theorem dL_done_24 : decode cL_done 24 = .ok (.invokestatic 189, 3) := by decide +kernel
theorem dL_done_27 : decode cL_done 27 = .ok (.istore 5, 2) := by decide +kernel
theorem dL_done_29 : decode cL_done 29 = .ok (.aload_n 1, 1) := by decide +kernel
theorem dL_done_30 : decode cL_done 30 = .ok (.bipush 16, 2) := by decide +kernel
theorem dL_done_32 : decode cL_done 32 = .ok (.iconst 1, 1) := by decide +kernel
theorem dL_done_33 : decode cL_done 33 = .ok (.iconst 0, 1) := by decide +kernel
theorem dL_done_34 : decode cL_done 34 = .ok (.iconst 0, 1) := by decide +kernel
theorem dL_done_35 : decode cL_done 35 = .ok (.invokestatic 189, 3) := by decide +kernel
theorem dL_done_38 : decode cL_done 38 = .ok (.iload 5, 2) := by decide +kernel
theorem dL_done_40 : decode cL_done 40 = .ok (.if_icmp .ne 7, 3) := by decide +kernel
theorem dL_done_43 : decode cL_done 43 = .ok (.iconst 1, 1) := by decide +kernel
theorem dL_done_44 : decode cL_done 44 = .ok (.goto 4, 3) := by decide +kernel
theorem dL_done_47 : decode cL_done 47 = .ok (.iconst 0, 1) := by decide +kernel
theorem dL_done_48 : decode cL_done 48 = .ok (.istore 6, 2) := by decide +kernel
theorem dL_done_50 : decode cL_done 50 = .ok (.aload_n 0, 1) := by decide +kernel
theorem dL_done_51 : decode cL_done 51 = .ok (.bipush 16, 2) := by decide +kernel
theorem dL_done_53 : decode cL_done 53 = .ok (.iconst 0, 1) := by decide +kernel
theorem dL_done_54 : decode cL_done 54 = .ok (.iconst 4, 1) := by decide +kernel
theorem dL_done_55 : decode cL_done 55 = .ok (.iconst 0, 1) := by decide +kernel
theorem dL_done_56 : decode cL_done 56 = .ok (.invokestatic 189, 3) := by decide +kernel
theorem dL_done_59 : decode cL_done 59 = .ok (.istore 4, 2) := by decide +kernel
theorem dL_done_61 : decode cL_done 61 = .ok (.iload 6, 2) := by decide +kernel
theorem dL_done_63 : decode cL_done 63 = .ok (.ifCond .eq 55, 3) := by decide +kernel
theorem dL_done_66 : decode cL_done 66 = .ok (.aload_n 1, 1) := by decide +kernel
theorem dL_done_67 : decode cL_done 67 = .ok (.bipush 16, 2) := by decide +kernel
theorem dL_done_69 : decode cL_done 69 = .ok (.iconst 0, 1) := by decide +kernel
theorem dL_done_70 : decode cL_done 70 = .ok (.iconst 4, 1) := by decide +kernel
theorem dL_done_71 : decode cL_done 71 = .ok (.iconst 0, 1) := by decide +kernel
theorem dL_done_72 : decode cL_done 72 = .ok (.invokestatic 189, 3) := by decide +kernel
theorem dL_done_75 : decode cL_done 75 = .ok (.iload 4, 2) := by decide +kernel
theorem dL_done_77 : decode cL_done 77 = .ok (.if_icmp .ne 41, 3) := by decide +kernel
theorem dL_done_80 : decode cL_done 80 = .ok (.aload_n 0, 1) := by decide +kernel
theorem dL_done_81 : decode cL_done 81 = .ok (.bipush 18, 2) := by decide +kernel
theorem dL_done_83 : decode cL_done 83 = .ok (.iconst 0, 1) := by decide +kernel
theorem dL_done_84 : decode cL_done 84 = .ok (.iconst 0, 1) := by decide +kernel
theorem dL_done_85 : decode cL_done 85 = .ok (.iconst 0, 1) := by decide +kernel
theorem dL_done_86 : decode cL_done 86 = .ok (.invokestatic 189, 3) := by decide +kernel
theorem dL_done_89 : decode cL_done 89 = .ok (.invokestatic 243, 3) := by decide +kernel
theorem dL_done_92 : decode cL_done 92 = .ok (.ifCond .ne 26, 3) := by decide +kernel
theorem dL_done_95 : decode cL_done 95 = .ok (.aload_n 1, 1) := by decide +kernel
theorem dL_done_96 : decode cL_done 96 = .ok (.bipush 18, 2) := by decide +kernel
theorem dL_done_98 : decode cL_done 98 = .ok (.iconst 0, 1) := by decide +kernel
theorem dL_done_99 : decode cL_done 99 = .ok (.iconst 0, 1) := by decide +kernel
theorem dL_done_100 : decode cL_done 100 = .ok (.iconst 0, 1) := by decide +kernel
theorem dL_done_101 : decode cL_done 101 = .ok (.invokestatic 189, 3) := by decide +kernel
theorem dL_done_104 : decode cL_done 104 = .ok (.invokestatic 243, 3) := by decide +kernel
theorem dL_done_107 : decode cL_done 107 = .ok (.ifCond .ne 11, 3) := by decide +kernel
theorem dL_done_110 : decode cL_done 110 = .ok (.iload_n 3, 1) := by decide +kernel
theorem dL_done_111 : decode cL_done 111 = .ok (.ifCond .lt 7, 3) := by decide +kernel
theorem dL_done_114 : decode cL_done 114 = .ok (.iconst 1, 1) := by decide +kernel
theorem dL_done_115 : decode cL_done 115 = .ok (.goto 4, 3) := by decide +kernel
theorem dL_done_118 : decode cL_done 118 = .ok (.iconst 0, 1) := by decide +kernel
theorem dL_done_119 : decode cL_done 119 = .ok (.istore 6, 2) := by decide +kernel
theorem dL_done_121 : decode cL_done 121 = .ok (.aload_n 0, 1) := by decide +kernel
theorem dL_done_122 : decode cL_done 122 = .ok (.iconst 2, 1) := by decide +kernel
theorem dL_done_123 : decode cL_done 123 = .ok (.bipush 10, 2) := by decide +kernel
theorem dL_done_125 : decode cL_done 125 = .ok (.iconst 0, 1) := by decide +kernel
theorem dL_done_126 : decode cL_done 126 = .ok (.iconst 0, 1) := by decide +kernel
theorem dL_done_127 : decode cL_done 127 = .ok (.invokestatic 189, 3) := by decide +kernel
theorem dL_done_130 : decode cL_done 130 = .ok (.ifCond .le 7, 3) := by decide +kernel
theorem dL_done_133 : decode cL_done 133 = .ok (.iconst 1, 1) := by decide +kernel
theorem dL_done_134 : decode cL_done 134 = .ok (.goto 4, 3) := by decide +kernel
theorem dL_done_137 : decode cL_done 137 = .ok (.iconst 0, 1) := by decide +kernel
theorem dL_done_138 : decode cL_done 138 = .ok (.istore 7, 2) := by decide +kernel
theorem dL_done_140 : decode cL_done 140 = .ok (.iload 6, 2) := by decide +kernel
theorem dL_done_142 : decode cL_done 142 = .ok (.ifCond .eq 79, 3) := by decide +kernel
theorem dL_done_145 : decode cL_done 145 = .ok (.iload 7, 2) := by decide +kernel
theorem dL_done_147 : decode cL_done 147 = .ok (.ifCond .ne 10, 3) := by decide +kernel
theorem dL_done_150 : decode cL_done 150 = .ok (.iload_n 2, 1) := by decide +kernel
theorem dL_done_151 : decode cL_done 151 = .ok (.ifCond .ne 70, 3) := by decide +kernel
theorem dL_done_154 : decode cL_done 154 = .ok (.goto 63, 3) := by decide +kernel
theorem dL_done_157 : decode cL_done 157 = .ok (.iload 4, 2) := by decide +kernel
theorem dL_done_159 : decode cL_done 159 = .ok (.ifCond .ne 19, 3) := by decide +kernel
theorem dL_done_162 : decode cL_done 162 = .ok (.iload_n 2, 1) := by decide +kernel
theorem dL_done_163 : decode cL_done 163 = .ok (.iload_n 3, 1) := by decide +kernel
theorem dL_done_164 : decode cL_done 164 = .ok (.ifCond .ne 7, 3) := by decide +kernel
theorem dL_done_167 : decode cL_done 167 = .ok (.iconst 1, 1) := by decide +kernel
theorem dL_done_168 : decode cL_done 168 = .ok (.goto 4, 3) := by decide +kernel
theorem dL_done_171 : decode cL_done 171 = .ok (.iconst (-1), 1) := by decide +kernel
theorem dL_done_172 : decode cL_done 172 = .ok (.if_icmp .ne 49, 3) := by decide +kernel
theorem dL_done_175 : decode cL_done 175 = .ok (.goto 42, 3) := by decide +kernel
theorem dL_done_178 : decode cL_done 178 = .ok (.iload_n 3, 1) := by decide +kernel
theorem dL_done_179 : decode cL_done 179 = .ok (.sipush 200, 3) := by decide +kernel
theorem dL_done_182 : decode cL_done 182 = .ok (.iload 4, 2) := by decide +kernel
theorem dL_done_184 : decode cL_done 184 = .ok (.imul, 1) := by decide +kernel
theorem dL_done_185 : decode cL_done 185 = .ok (.if_icmp .le 11, 3) := by decide +kernel
theorem dL_done_188 : decode cL_done 188 = .ok (.iload_n 2, 1) := by decide +kernel
theorem dL_done_189 : decode cL_done 189 = .ok (.iconst (-1), 1) := by decide +kernel
theorem dL_done_190 : decode cL_done 190 = .ok (.if_icmp .ne 31, 3) := by decide +kernel
theorem dL_done_193 : decode cL_done 193 = .ok (.goto 24, 3) := by decide +kernel
theorem dL_done_196 : decode cL_done 196 = .ok (.iload_n 2, 1) := by decide +kernel
theorem dL_done_197 : decode cL_done 197 = .ok (.iload_n 3, 1) := by decide +kernel
theorem dL_done_198 : decode cL_done 198 = .ok (.ifCond .ne 7, 3) := by decide +kernel
theorem dL_done_201 : decode cL_done 201 = .ok (.iconst 1, 1) := by decide +kernel
theorem dL_done_202 : decode cL_done 202 = .ok (.goto 12, 3) := by decide +kernel
theorem dL_done_205 : decode cL_done 205 = .ok (.iload_n 3, 1) := by decide +kernel
theorem dL_done_206 : decode cL_done 206 = .ok (.iload 4, 2) := by decide +kernel
theorem dL_done_208 : decode cL_done 208 = .ok (.iadd, 1) := by decide +kernel
theorem dL_done_209 : decode cL_done 209 = .ok (.iconst 1, 1) := by decide +kernel
theorem dL_done_210 : decode cL_done 210 = .ok (.isub, 1) := by decide +kernel
theorem dL_done_211 : decode cL_done 211 = .ok (.iload 4, 2) := by decide +kernel
theorem dL_done_213 : decode cL_done 213 = .ok (.idiv, 1) := by decide +kernel
theorem dL_done_214 : decode cL_done 214 = .ok (.if_icmp .ne 7, 3) := by decide +kernel
theorem dL_done_217 : decode cL_done 217 = .ok (.iconst 1, 1) := by decide +kernel
theorem dL_done_218 : decode cL_done 218 = .ok (.goto 4, 3) := by decide +kernel
theorem dL_done_221 : decode cL_done 221 = .ok (.iconst 0, 1) := by decide +kernel
theorem dL_done_222 : decode cL_done 222 = .ok (.istore 6, 2) := by decide +kernel
theorem dL_done_224 : decode cL_done 224 = .ok (.iload_n 2, 1) := by decide +kernel
theorem dL_done_225 : decode cL_done 225 = .ok (.ifCond .le 70, 3) := by decide +kernel
theorem dL_done_228 : decode cL_done 228 = .ok (.iload 6, 2) := by decide +kernel
theorem dL_done_230 : decode cL_done 230 = .ok (.ifCond .eq 65, 3) := by decide +kernel
theorem dL_done_233 : decode cL_done 233 = .ok (.aload_n 0, 1) := by decide +kernel
theorem dL_done_234 : decode cL_done 234 = .ok (.aload_n 1, 1) := by decide +kernel
theorem dL_done_235 : decode cL_done 235 = .ok (.iload_n 2, 1) := by decide +kernel
theorem dL_done_236 : decode cL_done 236 = .ok (.invokestatic 247, 3) := by decide +kernel
theorem dL_done_239 : decode cL_done 239 = .ok (.ifCond .eq 53, 3) := by decide +kernel
theorem dL_done_242 : decode cL_done 242 = .ok (.aload_n 0, 1) := by decide +kernel
theorem dL_done_243 : decode cL_done 243 = .ok (.iconst 2, 1) := by decide +kernel
theorem dL_done_244 : decode cL_done 244 = .ok (.bipush 10, 2) := by decide +kernel
theorem dL_done_246 : decode cL_done 246 = .ok (.iconst 0, 1) := by decide +kernel
theorem dL_done_247 : decode cL_done 247 = .ok (.iconst 0, 1) := by decide +kernel
theorem dL_done_248 : decode cL_done 248 = .ok (.invokestatic 189, 3) := by decide +kernel
theorem dL_done_251 : decode cL_done 251 = .ok (.ifCond .ne 41, 3) := by decide +kernel
theorem dL_done_254 : decode cL_done 254 = .ok (.aload_n 0, 1) := by decide +kernel
theorem dL_done_255 : decode cL_done 255 = .ok (.bipush 6, 2) := by decide +kernel
theorem dL_done_257 : decode cL_done 257 = .ok (.iconst 2, 1) := by decide +kernel
theorem dL_done_258 : decode cL_done 258 = .ok (.iconst 0, 1) := by decide +kernel
theorem dL_done_259 : decode cL_done 259 = .ok (.iconst 0, 1) := by decide +kernel
theorem dL_done_260 : decode cL_done 260 = .ok (.invokestatic 189, 3) := by decide +kernel
theorem dL_done_263 : decode cL_done 263 = .ok (.iconst (-1), 1) := by decide +kernel
theorem dL_done_264 : decode cL_done 264 = .ok (.if_icmp .ne 28, 3) := by decide +kernel
theorem dL_done_267 : decode cL_done 267 = .ok (.aload_n 0, 1) := by decide +kernel
theorem dL_done_268 : decode cL_done 268 = .ok (.iconst 2, 1) := by decide +kernel
theorem dL_done_269 : decode cL_done 269 = .ok (.bipush 6, 2) := by decide +kernel
theorem dL_done_271 : decode cL_done 271 = .ok (.iconst 0, 1) := by decide +kernel
theorem dL_done_272 : decode cL_done 272 = .ok (.iconst 0, 1) := by decide +kernel
theorem dL_done_273 : decode cL_done 273 = .ok (.invokestatic 189, 3) := by decide +kernel
theorem dL_done_276 : decode cL_done 276 = .ok (.ifCond .ne 16, 3) := by decide +kernel
theorem dL_done_279 : decode cL_done 279 = .ok (.aload_n 0, 1) := by decide +kernel
theorem dL_done_280 : decode cL_done 280 = .ok (.aload_n 1, 1) := by decide +kernel
theorem dL_done_281 : decode cL_done 281 = .ok (.iload_n 2, 1) := by decide +kernel
theorem dL_done_282 : decode cL_done 282 = .ok (.invokestatic 250, 3) := by decide +kernel
theorem dL_done_285 : decode cL_done 285 = .ok (.ifCond .eq 7, 3) := by decide +kernel
theorem dL_done_288 : decode cL_done 288 = .ok (.iconst 1, 1) := by decide +kernel
theorem dL_done_289 : decode cL_done 289 = .ok (.goto 4, 3) := by decide +kernel
theorem dL_done_292 : decode cL_done 292 = .ok (.iconst 0, 1) := by decide +kernel
theorem dL_done_293 : decode cL_done 293 = .ok (.istore 6, 2) := by decide +kernel
theorem dL_done_295 : decode cL_done 295 = .ok (.iload 6, 2) := by decide +kernel
theorem dL_done_297 : decode cL_done 297 = .ok (.ifCond .eq 97, 3) := by decide +kernel
theorem dL_done_300 : decode cL_done 300 = .ok (.aload_n 0, 1) := by decide +kernel
theorem dL_done_301 : decode cL_done 301 = .ok (.bipush 18, 2) := by decide +kernel
theorem dL_done_303 : decode cL_done 303 = .ok (.iconst 0, 1) := by decide +kernel
theorem dL_done_304 : decode cL_done 304 = .ok (.iconst 0, 1) := by decide +kernel
theorem dL_done_305 : decode cL_done 305 = .ok (.iconst 0, 1) := by decide +kernel
theorem dL_done_306 : decode cL_done 306 = .ok (.invokestatic 189, 3) := by decide +kernel
theorem dL_done_309 : decode cL_done 309 = .ok (.invokestatic 243, 3) := by decide +kernel
theorem dL_done_312 : decode cL_done 312 = .ok (.ifCond .ne 82, 3) := by decide +kernel
theorem dL_done_315 : decode cL_done 315 = .ok (.aload_n 1, 1) := by decide +kernel
theorem dL_done_316 : decode cL_done 316 = .ok (.bipush 18, 2) := by decide +kernel
theorem dL_done_318 : decode cL_done 318 = .ok (.iconst 0, 1) := by decide +kernel
theorem dL_done_319 : decode cL_done 319 = .ok (.iconst 0, 1) := by decide +kernel
theorem dL_done_320 : decode cL_done 320 = .ok (.iconst 0, 1) := by decide +kernel
theorem dL_done_321 : decode cL_done 321 = .ok (.invokestatic 189, 3) := by decide +kernel
theorem dL_done_324 : decode cL_done 324 = .ok (.invokestatic 243, 3) := by decide +kernel
theorem dL_done_327 : decode cL_done 327 = .ok (.ifCond .ne 67, 3) := by decide +kernel
theorem dL_done_330 : decode cL_done 330 = .ok (.aload_n 0, 1) := by decide +kernel
theorem dL_done_331 : decode cL_done 331 = .ok (.bipush 16, 2) := by decide +kernel
theorem dL_done_333 : decode cL_done 333 = .ok (.iconst 1, 1) := by decide +kernel
theorem dL_done_334 : decode cL_done 334 = .ok (.iload 5, 2) := by decide +kernel
theorem dL_done_336 : decode cL_done 336 = .ok (.iconst 0, 1) := by decide +kernel
theorem dL_done_337 : decode cL_done 337 = .ok (.invokestatic 189, 3) := by decide +kernel
theorem dL_done_340 : decode cL_done 340 = .ok (.iload 5, 2) := by decide +kernel
theorem dL_done_342 : decode cL_done 342 = .ok (.if_icmp .ne 52, 3) := by decide +kernel
theorem dL_done_345 : decode cL_done 345 = .ok (.aload_n 1, 1) := by decide +kernel
theorem dL_done_346 : decode cL_done 346 = .ok (.bipush 16, 2) := by decide +kernel
theorem dL_done_348 : decode cL_done 348 = .ok (.iconst 1, 1) := by decide +kernel
theorem dL_done_349 : decode cL_done 349 = .ok (.iload 5, 2) := by decide +kernel
theorem dL_done_351 : decode cL_done 351 = .ok (.iconst 0, 1) := by decide +kernel
theorem dL_done_352 : decode cL_done 352 = .ok (.invokestatic 189, 3) := by decide +kernel
theorem dL_done_355 : decode cL_done 355 = .ok (.iload 5, 2) := by decide +kernel
theorem dL_done_357 : decode cL_done 357 = .ok (.if_icmp .ne 37, 3) := by decide +kernel
theorem dL_done_360 : decode cL_done 360 = .ok (.aload_n 0, 1) := by decide +kernel
theorem dL_done_361 : decode cL_done 361 = .ok (.bipush 18, 2) := by decide +kernel
theorem dL_done_363 : decode cL_done 363 = .ok (.iconst 0, 1) := by decide +kernel
theorem dL_done_364 : decode cL_done 364 = .ok (.iconst 0, 1) := by decide +kernel
theorem dL_done_365 : decode cL_done 365 = .ok (.iconst 0, 1) := by decide +kernel
theorem dL_done_366 : decode cL_done 366 = .ok (.invokestatic 189, 3) := by decide +kernel
theorem dL_done_369 : decode cL_done 369 = .ok (.invokestatic 243, 3) := by decide +kernel
theorem dL_done_372 : decode cL_done 372 = .ok (.ifCond .ne 22, 3) := by decide +kernel
theorem dL_done_375 : decode cL_done 375 = .ok (.aload_n 1, 1) := by decide +kernel
theorem dL_done_376 : decode cL_done 376 = .ok (.bipush 18, 2) := by decide +kernel
theorem dL_done_378 : decode cL_done 378 = .ok (.iconst 0, 1) := by decide +kernel
theorem dL_done_379 : decode cL_done 379 = .ok (.iconst 0, 1) := by decide +kernel
theorem dL_done_380 : decode cL_done 380 = .ok (.iconst 0, 1) := by decide +kernel
theorem dL_done_381 : decode cL_done 381 = .ok (.invokestatic 189, 3) := by decide +kernel
theorem dL_done_384 : decode cL_done 384 = .ok (.invokestatic 243, 3) := by decide +kernel
theorem dL_done_387 : decode cL_done 387 = .ok (.ifCond .ne 7, 3) := by decide +kernel
theorem dL_done_390 : decode cL_done 390 = .ok (.iconst 1, 1) := by decide +kernel
theorem dL_done_391 : decode cL_done 391 = .ok (.goto 4, 3) := by decide +kernel
theorem dL_done_394 : decode cL_done 394 = .ok (.iconst 0, 1) := by decide +kernel
theorem dL_done_395 : decode cL_done 395 = .ok (.ireturn, 1) := by decide +kernel
theorem dL_best_0 : decode cL_best 0 = .ok (.aload_n 0, 1) := by decide +kernel
theorem dL_best_1 : decode cL_best 1 = .ok (.iconst 2, 1) := by decide +kernel
theorem dL_best_2 : decode cL_best 2 = .ok (.iconst 2, 1) := by decide +kernel
theorem dL_best_3 : decode cL_best 3 = .ok (.iconst 0, 1) := by decide +kernel
theorem dL_best_4 : decode cL_best 4 = .ok (.iconst 0, 1) := by decide +kernel
theorem dL_best_5 : decode cL_best 5 = .ok (.invokestatic 189, 3) := by decide +kernel
theorem dL_best_8 : decode cL_best 8 = .ok (.istore_n 3, 1) := by decide +kernel
theorem dL_best_9 : decode cL_best 9 = .ok (.iload_n 3, 1) := by decide +kernel
theorem dL_best_10 : decode cL_best 10 = .ok (.ifCond .eq 17, 3) := by decide +kernel
theorem dL_best_13 : decode cL_best 13 = .ok (.aload_n 0, 1) := by decide +kernel
theorem dL_best_14 : decode cL_best 14 = .ok (.iconst 2, 1) := by decide +kernel
theorem dL_best_15 : decode cL_best 15 = .ok (.bipush 10, 2) := by decide +kernel
theorem dL_best_17 : decode cL_best 17 = .ok (.iconst 0, 1) := by decide +kernel
theorem dL_best_18 : decode cL_best 18 = .ok (.iconst 0, 1) := by decide +kernel
theorem dL_best_19 : decode cL_best 19 = .ok (.invokestatic 189, 3) := by decide +kernel
theorem dL_best_22 : decode cL_best 22 = .ok (.bipush 6, 2) := by decide +kernel
theorem dL_best_24 : decode cL_best 24 = .ok (.if_icmp .ne 5, 3) := by decide +kernel
theorem dL_best_27 : decode cL_best 27 = .ok (.iconst 1, 1) := by decide +kernel
theorem dL_best_28 : decode cL_best 28 = .ok (.ireturn, 1) := by decide +kernel
theorem dL_best_29 : decode cL_best 29 = .ok (.iload_n 2, 1) := by decide +kernel
theorem dL_best_30 : decode cL_best 30 = .ok (.aload_n 0, 1) := by decide +kernel
theorem dL_best_31 : decode cL_best 31 = .ok (.iconst 2, 1) := by decide +kernel
theorem dL_best_32 : decode cL_best 32 = .ok (.iconst 0, 1) := by decide +kernel
theorem dL_best_33 : decode cL_best 33 = .ok (.iconst 0, 1) := by decide +kernel
theorem dL_best_34 : decode cL_best 34 = .ok (.iconst 0, 1) := by decide +kernel
theorem dL_best_35 : decode cL_best 35 = .ok (.invokestatic 189, 3) := by decide +kernel
theorem dL_best_38 : decode cL_best 38 = .ok (.irem, 1) := by decide +kernel
theorem dL_best_39 : decode cL_best 39 = .ok (.istore 4, 2) := by decide +kernel
theorem dL_best_41 : decode cL_best 41 = .ok (.iload_n 2, 1) := by decide +kernel
theorem dL_best_42 : decode cL_best 42 = .ok (.iconst 3, 1) := by decide +kernel
theorem dL_best_43 : decode cL_best 43 = .ok (.idiv, 1) := by decide +kernel
theorem dL_best_44 : decode cL_best 44 = .ok (.iload_n 3, 1) := by decide +kernel
theorem dL_best_45 : decode cL_best 45 = .ok (.irem, 1) := by decide +kernel
theorem dL_best_46 : decode cL_best 46 = .ok (.istore 5, 2) := by decide +kernel
theorem dL_best_48 : decode cL_best 48 = .ok (.iconst 1, 1) := by decide +kernel
theorem dL_best_49 : decode cL_best 49 = .ok (.iload_n 2, 1) := by decide +kernel
theorem dL_best_50 : decode cL_best 50 = .ok (.bipush 24, 2) := by decide +kernel
theorem dL_best_52 : decode cL_best 52 = .ok (.idiv, 1) := by decide +kernel
theorem dL_best_53 : decode cL_best 53 = .ok (.bipush 30, 2) := by decide +kernel
theorem dL_best_55 : decode cL_best 55 = .ok (.irem, 1) := by decide +kernel
theorem dL_best_56 : decode cL_best 56 = .ok (.iadd, 1) := by decide +kernel
theorem dL_best_57 : decode cL_best 57 = .ok (.istore 6, 2) := by decide +kernel
theorem dL_best_59 : decode cL_best 59 = .ok (.aload_n 0, 1) := by decide +kernel
theorem dL_best_60 : decode cL_best 60 = .ok (.bipush 21, 2) := by decide +kernel
theorem dL_best_62 : decode cL_best 62 = .ok (.iload 5, 2) := by decide +kernel
theorem dL_best_64 : decode cL_best 64 = .ok (.iload 4, 2) := by decide +kernel
theorem dL_best_66 : decode cL_best 66 = .ok (.iload 6, 2) := by decide +kernel
theorem dL_best_68 : decode cL_best 68 = .ok (.invokestatic 189, 3) := by decide +kernel
theorem dL_best_71 : decode cL_best 71 = .ok (.istore 7, 2) := by decide +kernel
theorem dL_best_73 : decode cL_best 73 = .ok (.iload_n 2, 1) := by decide +kernel
theorem dL_best_74 : decode cL_best 74 = .ok (.sipush 720, 3) := by decide +kernel
theorem dL_best_77 : decode cL_best 77 = .ok (.idiv, 1) := by decide +kernel
theorem dL_best_78 : decode cL_best 78 = .ok (.aload_n 0, 1) := by decide +kernel
theorem dL_best_79 : decode cL_best 79 = .ok (.iconst 3, 1) := by decide +kernel
theorem dL_best_80 : decode cL_best 80 = .ok (.iload 4, 2) := by decide +kernel
theorem dL_best_82 : decode cL_best 82 = .ok (.iconst 0, 1) := by decide +kernel
theorem dL_best_83 : decode cL_best 83 = .ok (.iconst 0, 1) := by decide +kernel
theorem dL_best_84 : decode cL_best 84 = .ok (.invokestatic 189, 3) := by decide +kernel
theorem dL_best_87 : decode cL_best 87 = .ok (.irem, 1) := by decide +kernel
theorem dL_best_88 : decode cL_best 88 = .ok (.istore 8, 2) := by decide +kernel
theorem dL_best_90 : decode cL_best 90 = .ok (.iload 7, 2) := by decide +kernel
theorem dL_best_92 : decode cL_best 92 = .ok (.ifCond .lt 51, 3) := by decide +kernel
theorem dL_best_95 : decode cL_best 95 = .ok (.iload 7, 2) := by decide +kernel
theorem dL_best_97 : decode cL_best 97 = .ok (.aload_n 0, 1) := by decide +kernel
theorem dL_best_98 : decode cL_best 98 = .ok (.iconst 3, 1) := by decide +kernel
theorem dL_best_99 : decode cL_best 99 = .ok (.iload 4, 2) := by decide +kernel
theorem dL_best_101 : decode cL_best 101 = .ok (.iconst 0, 1) := by decide +kernel
theorem dL_best_102 : decode cL_best 102 = .ok (.iconst 0, 1) := by decide +kernel
theorem dL_best_103 : decode cL_best 103 = .ok (.invokestatic 189, 3) := by decide +kernel
theorem dL_best_106 : decode cL_best 106 = .ok (.if_icmp .ge 37, 3) := by decide +kernel
theorem dL_best_109 : decode cL_best 109 = .ok (.aload_n 0, 1) := by decide +kernel
theorem dL_best_110 : decode cL_best 110 = .ok (.bipush 13, 2) := by decide +kernel
theorem dL_best_112 : decode cL_best 112 = .ok (.iload 5, 2) := by decide +kernel
theorem dL_best_114 : decode cL_best 114 = .ok (.iload 4, 2) := by decide +kernel
theorem dL_best_116 : decode cL_best 116 = .ok (.iload 7, 2) := by decide +kernel
theorem dL_best_118 : decode cL_best 118 = .ok (.invokestatic 189, 3) := by decide +kernel
theorem dL_best_121 : decode cL_best 121 = .ok (.ifCond .le 22, 3) := by decide +kernel
theorem dL_best_124 : decode cL_best 124 = .ok (.aload_n 1, 1) := by decide +kernel
theorem dL_best_125 : decode cL_best 125 = .ok (.bipush 13, 2) := by decide +kernel
theorem dL_best_127 : decode cL_best 127 = .ok (.iload 5, 2) := by decide +kernel
theorem dL_best_129 : decode cL_best 129 = .ok (.iload 4, 2) := by decide +kernel
theorem dL_best_131 : decode cL_best 131 = .ok (.iload 7, 2) := by decide +kernel
theorem dL_best_133 : decode cL_best 133 = .ok (.invokestatic 189, 3) := by decide +kernel
theorem dL_best_136 : decode cL_best 136 = .ok (.ifCond .le 7, 3) := by decide +kernel
theorem dL_best_139 : decode cL_best 139 = .ok (.iconst 1, 1) := by decide +kernel
theorem dL_best_140 : decode cL_best 140 = .ok (.goto 4, 3) := by decide +kernel
theorem dL_best_143 : decode cL_best 143 = .ok (.iconst 0, 1) := by decide +kernel
theorem dL_best_144 : decode cL_best 144 = .ok (.istore 9, 2) := by decide +kernel
theorem dL_best_146 : decode cL_best 146 = .ok (.aload_n 0, 1) := by decide +kernel
theorem dL_best_147 : decode cL_best 147 = .ok (.bipush 17, 2) := by decide +kernel
theorem dL_best_149 : decode cL_best 149 = .ok (.iload 6, 2) := by decide +kernel
theorem dL_best_151 : decode cL_best 151 = .ok (.iconst 0, 1) := by decide +kernel
theorem dL_best_152 : decode cL_best 152 = .ok (.iconst 0, 1) := by decide +kernel
theorem dL_best_153 : decode cL_best 153 = .ok (.invokestatic 189, 3) := by decide +kernel
theorem dL_best_156 : decode cL_best 156 = .ok (.istore 10, 2) := by decide +kernel
theorem dL_best_158 : decode cL_best 158 = .ok (.iload 9, 2) := by decide +kernel
theorem dL_best_160 : decode cL_best 160 = .ok (.ifCond .eq 112, 3) := by decide +kernel
theorem dL_best_163 : decode cL_best 163 = .ok (.aload_n 1, 1) := by decide +kernel
theorem dL_best_164 : decode cL_best 164 = .ok (.bipush 17, 2) := by decide +kernel
theorem dL_best_166 : decode cL_best 166 = .ok (.iload 6, 2) := by decide +kernel
theorem dL_best_168 : decode cL_best 168 = .ok (.iconst 0, 1) := by decide +kernel
theorem dL_best_169 : decode cL_best 169 = .ok (.iconst 0, 1) := by decide +kernel
theorem dL_best_170 : decode cL_best 170 = .ok (.invokestatic 189, 3) := by decide +kernel
theorem dL_best_173 : decode cL_best 173 = .ok (.iload 10, 2) := by decide +kernel
theorem dL_best_175 : decode cL_best 175 = .ok (.if_icmp .ne 97, 3) := by decide +kernel
theorem dL_best_178 : decode cL_best 178 = .ok (.aload_n 0, 1) := by decide +kernel
theorem dL_best_179 : decode cL_best 179 = .ok (.bipush 18, 2) := by decide +kernel
theorem dL_best_181 : decode cL_best 181 = .ok (.iconst 0, 1) := by decide +kernel
theorem dL_best_182 : decode cL_best 182 = .ok (.iconst 0, 1) := by decide +kernel
theorem dL_best_183 : decode cL_best 183 = .ok (.iconst 0, 1) := by decide +kernel
theorem dL_best_184 : decode cL_best 184 = .ok (.invokestatic 189, 3) := by decide +kernel
theorem dL_best_187 : decode cL_best 187 = .ok (.invokestatic 243, 3) := by decide +kernel
theorem dL_best_190 : decode cL_best 190 = .ok (.ifCond .ne 82, 3) := by decide +kernel
theorem dL_best_193 : decode cL_best 193 = .ok (.aload_n 1, 1) := by decide +kernel
theorem dL_best_194 : decode cL_best 194 = .ok (.bipush 18, 2) := by decide +kernel
theorem dL_best_196 : decode cL_best 196 = .ok (.iconst 0, 1) := by decide +kernel
theorem dL_best_197 : decode cL_best 197 = .ok (.iconst 0, 1) := by decide +kernel
theorem dL_best_198 : decode cL_best 198 = .ok (.iconst 0, 1) := by decide +kernel
theorem dL_best_199 : decode cL_best 199 = .ok (.invokestatic 189, 3) := by decide +kernel
theorem dL_best_202 : decode cL_best 202 = .ok (.invokestatic 243, 3) := by decide +kernel
theorem dL_best_205 : decode cL_best 205 = .ok (.ifCond .ne 67, 3) := by decide +kernel
theorem dL_best_208 : decode cL_best 208 = .ok (.aload_n 0, 1) := by decide +kernel
theorem dL_best_209 : decode cL_best 209 = .ok (.bipush 18, 2) := by decide +kernel
theorem dL_best_211 : decode cL_best 211 = .ok (.iconst 0, 1) := by decide +kernel
theorem dL_best_212 : decode cL_best 212 = .ok (.iconst 0, 1) := by decide +kernel
theorem dL_best_213 : decode cL_best 213 = .ok (.iconst 0, 1) := by decide +kernel
theorem dL_best_214 : decode cL_best 214 = .ok (.invokestatic 189, 3) := by decide +kernel
theorem dL_best_217 : decode cL_best 217 = .ok (.invokestatic 243, 3) := by decide +kernel
theorem dL_best_220 : decode cL_best 220 = .ok (.ifCond .ne 52, 3) := by decide +kernel
theorem dL_best_223 : decode cL_best 223 = .ok (.aload_n 1, 1) := by decide +kernel
theorem dL_best_224 : decode cL_best 224 = .ok (.bipush 18, 2) := by decide +kernel
theorem dL_best_226 : decode cL_best 226 = .ok (.iconst 0, 1) := by decide +kernel
theorem dL_best_227 : decode cL_best 227 = .ok (.iconst 0, 1) := by decide +kernel
theorem dL_best_228 : decode cL_best 228 = .ok (.iconst 0, 1) := by decide +kernel
theorem dL_best_229 : decode cL_best 229 = .ok (.invokestatic 189, 3) := by decide +kernel
theorem dL_best_232 : decode cL_best 232 = .ok (.invokestatic 243, 3) := by decide +kernel
theorem dL_best_235 : decode cL_best 235 = .ok (.ifCond .ne 37, 3) := by decide +kernel
theorem dL_best_238 : decode cL_best 238 = .ok (.aload_n 0, 1) := by decide +kernel
theorem dL_best_239 : decode cL_best 239 = .ok (.bipush 13, 2) := by decide +kernel
theorem dL_best_241 : decode cL_best 241 = .ok (.iload 5, 2) := by decide +kernel
theorem dL_best_243 : decode cL_best 243 = .ok (.iload 4, 2) := by decide +kernel
theorem dL_best_245 : decode cL_best 245 = .ok (.iload 8, 2) := by decide +kernel
theorem dL_best_247 : decode cL_best 247 = .ok (.invokestatic 189, 3) := by decide +kernel
theorem dL_best_250 : decode cL_best 250 = .ok (.ifCond .le 22, 3) := by decide +kernel
theorem dL_best_253 : decode cL_best 253 = .ok (.aload_n 1, 1) := by decide +kernel
theorem dL_best_254 : decode cL_best 254 = .ok (.bipush 13, 2) := by decide +kernel
theorem dL_best_256 : decode cL_best 256 = .ok (.iload 5, 2) := by decide +kernel
theorem dL_best_258 : decode cL_best 258 = .ok (.iload 4, 2) := by decide +kernel
theorem dL_best_260 : decode cL_best 260 = .ok (.iload 8, 2) := by decide +kernel
theorem dL_best_262 : decode cL_best 262 = .ok (.invokestatic 189, 3) := by decide +kernel
theorem dL_best_265 : decode cL_best 265 = .ok (.ifCond .le 7, 3) := by decide +kernel
theorem dL_best_268 : decode cL_best 268 = .ok (.iconst 1, 1) := by decide +kernel
theorem dL_best_269 : decode cL_best 269 = .ok (.goto 4, 3) := by decide +kernel
theorem dL_best_272 : decode cL_best 272 = .ok (.iconst 0, 1) := by decide +kernel
theorem dL_best_273 : decode cL_best 273 = .ok (.istore 9, 2) := by decide +kernel
theorem dL_best_275 : decode cL_best 275 = .ok (.aload_n 0, 1) := by decide +kernel
theorem dL_best_276 : decode cL_best 276 = .ok (.bipush 17, 2) := by decide +kernel
theorem dL_best_278 : decode cL_best 278 = .ok (.iload 6, 2) := by decide +kernel
theorem dL_best_280 : decode cL_best 280 = .ok (.iconst 0, 1) := by decide +kernel
theorem dL_best_281 : decode cL_best 281 = .ok (.iconst 0, 1) := by decide +kernel
theorem dL_best_282 : decode cL_best 282 = .ok (.invokestatic 189, 3) := by decide +kernel
theorem dL_best_285 : decode cL_best 285 = .ok (.istore 11, 2) := by decide +kernel
theorem dL_best_287 : decode cL_best 287 = .ok (.iload 9, 2) := by decide +kernel
theorem dL_best_289 : decode cL_best 289 = .ok (.ifCond .eq 103, 3) := by decide +kernel
theorem dL_best_292 : decode cL_best 292 = .ok (.aload_n 1, 1) := by decide +kernel
theorem dL_best_293 : decode cL_best 293 = .ok (.bipush 17, 2) := by decide +kernel
theorem dL_best_295 : decode cL_best 295 = .ok (.iload 6, 2) := by decide +kernel
theorem dL_best_297 : decode cL_best 297 = .ok (.iconst 0, 1) := by decide +kernel
theorem dL_best_298 : decode cL_best 298 = .ok (.iconst 0, 1) := by decide +kernel
theorem dL_best_299 : decode cL_best 299 = .ok (.invokestatic 189, 3) := by decide +kernel
theorem dL_best_302 : decode cL_best 302 = .ok (.iload 11, 2) := by decide +kernel
theorem dL_best_304 : decode cL_best 304 = .ok (.if_icmp .ne 88, 3) := by decide +kernel
theorem dL_best_307 : decode cL_best 307 = .ok (.iload 11, 2) := by decide +kernel
theorem dL_best_309 : decode cL_best 309 = .ok (.iload 10, 2) := by decide +kernel
theorem dL_best_311 : decode cL_best 311 = .ok (.if_icmp .lt 17, 3) := by decide +kernel
theorem dL_best_314 : decode cL_best 314 = .ok (.iload 11, 2) := by decide +kernel
theorem dL_best_316 : decode cL_best 316 = .ok (.iload 10, 2) := by decide +kernel
theorem dL_best_318 : decode cL_best 318 = .ok (.if_icmp .ne 74, 3) := by decide +kernel
theorem dL_best_321 : decode cL_best 321 = .ok (.iload 8, 2) := by decide +kernel
theorem dL_best_323 : decode cL_best 323 = .ok (.iload 7, 2) := by decide +kernel
theorem dL_best_325 : decode cL_best 325 = .ok (.if_icmp .gt 67, 3) := by decide +kernel
theorem dL_best_328 : decode cL_best 328 = .ok (.aload_n 0, 1) := by decide +kernel
theorem dL_best_329 : decode cL_best 329 = .ok (.bipush 18, 2) := by decide +kernel
theorem dL_best_331 : decode cL_best 331 = .ok (.iconst 0, 1) := by decide +kernel
theorem dL_best_332 : decode cL_best 332 = .ok (.iconst 0, 1) := by decide +kernel
theorem dL_best_333 : decode cL_best 333 = .ok (.iconst 0, 1) := by decide +kernel
theorem dL_best_334 : decode cL_best 334 = .ok (.invokestatic 189, 3) := by decide +kernel
theorem dL_best_337 : decode cL_best 337 = .ok (.invokestatic 243, 3) := by decide +kernel
theorem dL_best_340 : decode cL_best 340 = .ok (.ifCond .ne 52, 3) := by decide +kernel
theorem dL_best_343 : decode cL_best 343 = .ok (.aload_n 1, 1) := by decide +kernel
theorem dL_best_344 : decode cL_best 344 = .ok (.bipush 18, 2) := by decide +kernel
theorem dL_best_346 : decode cL_best 346 = .ok (.iconst 0, 1) := by decide +kernel
theorem dL_best_347 : decode cL_best 347 = .ok (.iconst 0, 1) := by decide +kernel
theorem dL_best_348 : decode cL_best 348 = .ok (.iconst 0, 1) := by decide +kernel
theorem dL_best_349 : decode cL_best 349 = .ok (.invokestatic 189, 3) := by decide +kernel
theorem dL_best_352 : decode cL_best 352 = .ok (.invokestatic 243, 3) := by decide +kernel
theorem dL_best_355 : decode cL_best 355 = .ok (.ifCond .ne 37, 3) := by decide +kernel
theorem dL_best_358 : decode cL_best 358 = .ok (.aload_n 0, 1) := by decide +kernel
theorem dL_best_359 : decode cL_best 359 = .ok (.bipush 18, 2) := by decide +kernel
theorem dL_best_361 : decode cL_best 361 = .ok (.iconst 0, 1) := by decide +kernel
theorem dL_best_362 : decode cL_best 362 = .ok (.iconst 0, 1) := by decide +kernel
theorem dL_best_363 : decode cL_best 363 = .ok (.iconst 0, 1) := by decide +kernel
theorem dL_best_364 : decode cL_best 364 = .ok (.invokestatic 189, 3) := by decide +kernel
theorem dL_best_367 : decode cL_best 367 = .ok (.invokestatic 243, 3) := by decide +kernel
theorem dL_best_370 : decode cL_best 370 = .ok (.ifCond .ne 22, 3) := by decide +kernel
theorem dL_best_373 : decode cL_best 373 = .ok (.aload_n 1, 1) := by decide +kernel
theorem dL_best_374 : decode cL_best 374 = .ok (.bipush 18, 2) := by decide +kernel
theorem dL_best_376 : decode cL_best 376 = .ok (.iconst 0, 1) := by decide +kernel
theorem dL_best_377 : decode cL_best 377 = .ok (.iconst 0, 1) := by decide +kernel
theorem dL_best_378 : decode cL_best 378 = .ok (.iconst 0, 1) := by decide +kernel
theorem dL_best_379 : decode cL_best 379 = .ok (.invokestatic 189, 3) := by decide +kernel
theorem dL_best_382 : decode cL_best 382 = .ok (.invokestatic 243, 3) := by decide +kernel
theorem dL_best_385 : decode cL_best 385 = .ok (.ifCond .ne 7, 3) := by decide +kernel
theorem dL_best_388 : decode cL_best 388 = .ok (.iconst 1, 1) := by decide +kernel
theorem dL_best_389 : decode cL_best 389 = .ok (.goto 4, 3) := by decide +kernel
theorem dL_best_392 : decode cL_best 392 = .ok (.iconst 0, 1) := by decide +kernel
theorem dL_best_393 : decode cL_best 393 = .ok (.ireturn, 1) := by decide +kernel
