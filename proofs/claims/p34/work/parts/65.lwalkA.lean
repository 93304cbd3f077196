/-! Printed by wip/p34/gen: what the law's methods compute, and their walks. -/
theorem bp_15 : (Int8.ofInt 15).toInt32 = 15 := by decide
theorem bp_17 : (Int8.ofInt 17).toInt32 = 17 := by decide
theorem bp_18 : (Int8.ofInt 18).toInt32 = 18 := by decide
theorem bp_19 : (Int8.ofInt 19).toInt32 = 19 := by decide
theorem bp_20 : (Int8.ofInt 20).toInt32 = 20 := by decide
theorem bp_21 : (Int8.ofInt 21).toInt32 = 21 := by decide
theorem bp_22 : (Int8.ofInt 22).toInt32 = 22 := by decide
theorem bp_23 : (Int8.ofInt 23).toInt32 = 23 := by decide
theorem bp_24 : (Int8.ofInt 24).toInt32 = 24 := by decide
theorem bp_50 : (Int8.ofInt 50).toInt32 = 50 := by decide
theorem bp_61 : (Int8.ofInt 61).toInt32 = 61 := by decide
theorem bp_101 : (Int8.ofInt 101).toInt32 = 101 := by decide
theorem ii_m60 (x : Int32) : x + Int32.ofInt (-60) = x + (-60) := congrArg (x + ·) (by decide)
theorem sp_180 : (Int16.ofInt 180).toInt32 = 180 := by decide
theorem sp_201 : (Int16.ofInt 201).toInt32 = 201 := by decide
theorem sp_256 : (Int16.ofInt 256).toInt32 = 256 := by decide
theorem sp_720 : (Int16.ofInt 720).toInt32 = 720 := by decide
theorem sp_1620 : (Int16.ofInt 1620).toInt32 = 1620 := by decide
abbrev mL_call : tl_M := (yL_call, cL_call, 5, (some .int), tl_rm 10 1 6)
abbrev mL_thrown : tl_M := (yL_thrown, cL_thrown, 1, (some .boolean), tl_rm 0 0 0)
abbrev mL_refuses : tl_M := (yL_refuses, cL_refuses, 11, (some .boolean), tl_rm 11 56 336)
abbrev mL_holds : tl_M := (yL_holds, cL_holds, 22, (some .boolean), tl_rm 11 9104 54624)
abbrev mL_act : tl_M := (yL_act, cL_act, 8, (some .int), tl_rm 11 5 30)
abbrev mL_alike : tl_M := (yL_alike, cL_alike, 5, (some .boolean), tl_rm 11 170 1020)
abbrev mL_waits : tl_M := (yL_waits, cL_waits, 7, (some .boolean), tl_rm 11 10 60)
abbrev mL_undoes : tl_M := (yL_undoes, cL_undoes, 5, (some .boolean), tl_rm 11 10 60)
abbrev mL_dark : tl_M := (yL_dark, cL_dark, 11, (some .boolean), tl_rm 12 71 426)
abbrev mL_done : tl_M := (yL_done, cL_done, 8, (some .boolean), tl_rm 12 37 222)
abbrev mL_best : tl_M := (yL_best, cL_best, 12, (some .boolean), tl_rm 11 22 132)
theorem cs_L_call_184 : tl_cH mL_call mL_tryBack hL_tryBack 184 2 := ⟨cw_L_tryBack, ml_L_184, sm_L_tryBack, in_L, ⟨by decide, by decide, by decide +kernel⟩, Nat.le_of_ble_eq_true rfl, Nat.le_of_ble_eq_true rfl⟩
theorem cs_L_call_109 : tl_cH mL_call mL_tryAppend hL_tryAppend 109 2 := ⟨cw_L_tryAppend, ml_L_109, sm_L_tryAppend, in_L, ⟨by decide, by decide, by decide +kernel⟩, Nat.le_of_ble_eq_true rfl, Nat.le_of_ble_eq_true rfl⟩
theorem cs_L_call_115 : tl_cH mL_call mL_tryLoad hL_tryLoad 115 1 := ⟨cw_L_tryLoad, ml_L_115, sm_L_tryLoad, in_L, ⟨by decide, by decide, by decide +kernel⟩, Nat.le_of_ble_eq_true rfl, Nat.le_of_ble_eq_true rfl⟩
theorem cs_L_call_119 : tl_cH mL_call mL_tryAbout hL_tryAbout 119 2 := ⟨cw_L_tryAbout, ml_L_119, sm_L_tryAbout, in_L, ⟨by decide, by decide, by decide +kernel⟩, Nat.le_of_ble_eq_true rfl, Nat.le_of_ble_eq_true rfl⟩
theorem cs_L_call_122 : tl_cH mL_call mL_tryTold hL_tryTold 122 3 := ⟨cw_L_tryTold, ml_L_122, sm_L_tryTold, in_L, ⟨by decide, by decide, by decide +kernel⟩, Nat.le_of_ble_eq_true rfl, Nat.le_of_ble_eq_true rfl⟩
theorem cs_L_call_126 : tl_cH mL_call mL_tryWorker hL_tryWorker 126 3 := ⟨cw_L_tryWorker, ml_L_126, sm_L_tryWorker, in_L, ⟨by decide, by decide, by decide +kernel⟩, Nat.le_of_ble_eq_true rfl, Nat.le_of_ble_eq_true rfl⟩
theorem cs_L_call_129 : tl_cH mL_call mL_tryGlow hL_tryGlow 129 3 := ⟨cw_L_tryGlow, ml_L_129, sm_L_tryGlow, in_L, ⟨by decide, by decide, by decide +kernel⟩, Nat.le_of_ble_eq_true rfl, Nat.le_of_ble_eq_true rfl⟩
theorem cs_L_call_132 : tl_cH mL_call mL_tryLad hL_tryLad 132 2 := ⟨cw_L_tryLad, ml_L_132, sm_L_tryLad, in_L, ⟨by decide, by decide, by decide +kernel⟩, Nat.le_of_ble_eq_true rfl, Nat.le_of_ble_eq_true rfl⟩
theorem cs_L_call_135 : tl_cH mL_call mL_tryOrder hL_tryOrder 135 3 := ⟨cw_L_tryOrder, ml_L_135, sm_L_tryOrder, in_L, ⟨by decide, by decide, by decide +kernel⟩, Nat.le_of_ble_eq_true rfl, Nat.le_of_ble_eq_true rfl⟩
theorem cs_L_call_138 : tl_cH mL_call mL_tryLit hL_tryLit 138 3 := ⟨cw_L_tryLit, ml_L_138, sm_L_tryLit, in_L, ⟨by decide, by decide, by decide +kernel⟩, Nat.le_of_ble_eq_true rfl, Nat.le_of_ble_eq_true rfl⟩
theorem cs_L_call_141 : tl_cH mL_call mL_tryGallery hL_tryGallery 141 2 := ⟨cw_L_tryGallery, ml_L_141, sm_L_tryGallery, in_L, ⟨by decide, by decide, by decide +kernel⟩, Nat.le_of_ble_eq_true rfl, Nat.le_of_ble_eq_true rfl⟩
theorem cs_L_call_144 : tl_cH mL_call mL_tryMiner hL_tryMiner 144 3 := ⟨cw_L_tryMiner, ml_L_144, sm_L_tryMiner, in_L, ⟨by decide, by decide, by decide +kernel⟩, Nat.le_of_ble_eq_true rfl, Nat.le_of_ble_eq_true rfl⟩
theorem cs_L_call_147 : tl_cH mL_call mL_trySend hL_trySend 147 3 := ⟨cw_L_trySend, ml_L_147, sm_L_trySend, in_L, ⟨by decide, by decide, by decide +kernel⟩, Nat.le_of_ble_eq_true rfl, Nat.le_of_ble_eq_true rfl⟩
theorem cs_L_call_150 : tl_cH mL_call mL_tryStore hL_tryStore 150 2 := ⟨cw_L_tryStore, ml_L_150, sm_L_tryStore, in_L, ⟨by decide, by decide, by decide +kernel⟩, Nat.le_of_ble_eq_true rfl, Nat.le_of_ble_eq_true rfl⟩
theorem cs_L_call_153 : tl_cH mL_call mL_tryHang hL_tryHang 153 4 := ⟨cw_L_tryHang, ml_L_153, sm_L_tryHang, in_L, ⟨by decide, by decide, by decide +kernel⟩, Nat.le_of_ble_eq_true rfl, Nat.le_of_ble_eq_true rfl⟩
theorem cs_L_call_157 : tl_cH mL_call mL_tryFill hL_tryFill 157 3 := ⟨cw_L_tryFill, ml_L_157, sm_L_tryFill, in_L, ⟨by decide, by decide, by decide +kernel⟩, Nat.le_of_ble_eq_true rfl, Nat.le_of_ble_eq_true rfl⟩
theorem cs_L_call_160 : tl_cH mL_call mL_tryDrop hL_tryDrop 160 2 := ⟨cw_L_tryDrop, ml_L_160, sm_L_tryDrop, in_L, ⟨by decide, by decide, by decide +kernel⟩, Nat.le_of_ble_eq_true rfl, Nat.le_of_ble_eq_true rfl⟩
theorem cs_L_call_163 : tl_cH mL_call mL_tryLay hL_tryLay 163 3 := ⟨cw_L_tryLay, ml_L_163, sm_L_tryLay, in_L, ⟨by decide, by decide, by decide +kernel⟩, Nat.le_of_ble_eq_true rfl, Nat.le_of_ble_eq_true rfl⟩
theorem cs_L_call_166 : tl_cH mL_call mL_tryHours hL_tryHours 166 2 := ⟨cw_L_tryHours, ml_L_166, sm_L_tryHours, in_L, ⟨by decide, by decide, by decide +kernel⟩, Nat.le_of_ble_eq_true rfl, Nat.le_of_ble_eq_true rfl⟩
theorem cs_L_call_169 : tl_cH mL_call mL_tryUndo hL_tryUndo 169 1 := ⟨cw_L_tryUndo, ml_L_169, sm_L_tryUndo, in_L, ⟨by decide, by decide, by decide +kernel⟩, Nat.le_of_ble_eq_true rfl, Nat.le_of_ble_eq_true rfl⟩
theorem cs_L_call_172 : tl_cH mL_call mL_tryDark hL_tryDark 172 2 := ⟨cw_L_tryDark, ml_L_172, sm_L_tryDark, in_L, ⟨by decide, by decide, by decide +kernel⟩, Nat.le_of_ble_eq_true rfl, Nat.le_of_ble_eq_true rfl⟩
theorem cs_L_call_175 : tl_cH mL_call mL_tryDeep hL_tryDeep 175 3 := ⟨cw_L_tryDeep, ml_L_175, sm_L_tryDeep, in_L, ⟨by decide, by decide, by decide +kernel⟩, Nat.le_of_ble_eq_true rfl, Nat.le_of_ble_eq_true rfl⟩
theorem cs_L_call_178 : tl_cH mL_call mL_tryBest hL_tryBest 178 4 := ⟨cw_L_tryBest, ml_L_178, sm_L_tryBest, in_L, ⟨by decide, by decide, by decide +kernel⟩, Nat.le_of_ble_eq_true rfl, Nat.le_of_ble_eq_true rfl⟩
theorem cs_L_call_181 : tl_cH mL_call mL_tryKeep hL_tryKeep 181 2 := ⟨cw_L_tryKeep, ml_L_181, sm_L_tryKeep, in_L, ⟨by decide, by decide, by decide +kernel⟩, Nat.le_of_ble_eq_true rfl, Nat.le_of_ble_eq_true rfl⟩
def fL_call (a1 : Nat) (x2 : Int32) (x3 : Int32) (x4 : Int32) (x5 : Int32) (u : tz_U) : Option (Int32 × tz_U) :=
  (if x2.toInt < 0 ∨ 22 < x2.toInt then tl_b2 (fL_tryBack a1 x3 u) (fun x8 u10 => some (x8, u10)) else (if x2.toInt = 0 then tl_b2 (fL_tryAppend a1 x3 u) (fun x8 u10 => some (x8, u10)) else (if x2.toInt = 1 then tl_b2 (fL_tryLoad a1 u) (fun x8 u10 => some (x8, u10)) else (if x2.toInt = 2 then tl_b2 (fL_tryAbout a1 x3 u) (fun x8 u10 => some (x8, u10)) else (if x2.toInt = 3 then tl_b2 (fL_tryTold a1 x3 x4 u) (fun x8 u10 => some (x8, u10)) else (if x2.toInt = 4 then tl_b2 (fL_tryWorker a1 x3 x4 u) (fun x8 u10 => some (x8, u10)) else (if x2.toInt = 5 then tl_b2 (fL_tryGlow a1 x3 x4 u) (fun x8 u10 => some (x8, u10)) else (if x2.toInt = 6 then tl_b2 (fL_tryLad a1 x3 u) (fun x8 u10 => some (x8, u10)) else (if x2.toInt = 7 then tl_b2 (fL_tryOrder a1 x3 x4 u) (fun x8 u10 => some (x8, u10)) else (if x2.toInt = 8 then tl_b2 (fL_tryLit a1 x3 x4 u) (fun x8 u10 => some (x8, u10)) else (if x2.toInt = 9 then tl_b2 (fL_tryGallery a1 x3 u) (fun x8 u10 => some (x8, u10)) else (if x2.toInt = 10 then tl_b2 (fL_tryMiner a1 x3 x4 u) (fun x8 u10 => some (x8, u10)) else (if x2.toInt = 11 then tl_b2 (fL_trySend a1 x3 x4 u) (fun x8 u10 => some (x8, u10)) else (if x2.toInt = 12 then tl_b2 (fL_tryStore a1 x3 u) (fun x8 u10 => some (x8, u10)) else (if x2.toInt = 13 then tl_b2 (fL_tryHang a1 x3 x4 x5 u) (fun x8 u10 => some (x8, u10)) else (if x2.toInt = 14 then tl_b2 (fL_tryFill a1 x3 x4 u) (fun x8 u10 => some (x8, u10)) else (if x2.toInt = 15 then tl_b2 (fL_tryDrop a1 x3 u) (fun x8 u10 => some (x8, u10)) else (if x2.toInt = 16 then tl_b2 (fL_tryLay a1 x3 x4 u) (fun x8 u10 => some (x8, u10)) else (if x2.toInt = 17 then tl_b2 (fL_tryHours a1 x3 u) (fun x8 u10 => some (x8, u10)) else (if x2.toInt = 18 then tl_b2 (fL_tryUndo a1 u) (fun x8 u10 => some (x8, u10)) else (if x2.toInt = 19 then tl_b2 (fL_tryDark a1 x3 u) (fun x8 u10 => some (x8, u10)) else (if x2.toInt = 20 then tl_b2 (fL_tryDeep a1 x3 x4 u) (fun x8 u10 => some (x8, u10)) else (if x2.toInt = 21 then tl_b2 (fL_tryBest a1 x3 x4 x5 u) (fun x8 u10 => some (x8, u10)) else tl_b2 (fL_tryKeep a1 x3 u) (fun x8 u10 => some (x8, u10)))))))))))))))))))))))))

theorem lL_call {E : tl_E} {a1 : Nat} {x2 : Int32} {x3 : Int32} {x4 : Int32} {x5 : Int32} {u : tz_U} {r : Int32} {v : tz_U} (h1 : tz_on E a1) (h : fL_call a1 x2 x3 x4 x5 u = some (r, v)) : tz_ML E mL_call [.ref a1, .int x2, .int x3, .int x4, .int x5] u r v := by
  unfold fL_call at h
  refine tl_start [some (.ref a1), some (.int x2), some (.int x3), some (.int x4), some (.int x5)] rfl rfl rfl (Nat.le_of_ble_eq_true rfl) (tz_st (tz_fg (ls2 := [some (.ref a1), some (.int x2), some (.int x3), some (.int x4), some (.int x5)]) (And.intro rfl (And.intro rfl (And.intro rfl (And.intro rfl (And.intro rfl trivial))))) ?_))
  refine tl_iload_n dL_call_0 rfl (?_)
  by_cases c6 : x2.toInt < 0 ∨ 22 < x2.toInt
  · replace h := tl_ip h c6
    refine tl_tableOut (tgt := 260) dL_call_1 c6 (by decide) ?_
    obtain ⟨x8, u10, e9, h⟩ := tl_b2i h
    exact tl_aload_n dL_call_260 rfl (tl_iload_n dL_call_261 rfl (tz_cH2 (lL_tryBack h1 e9) dL_call_262 cs_L_call_184 (c := 1) ⟨rfl, rfl⟩ (k2 := 1) (Nat.le_of_ble_eq_true rfl) (CM := 1) ⟨Nat.le_of_ble_eq_true rfl, Nat.le_of_ble_eq_true rfl⟩ (Nat.le_of_ble_eq_true rfl) (Nat.le_of_ble_eq_true rfl) (tz_ret dL_call_265 rfl rfl (CM := 1) ⟨Nat.le_of_ble_eq_true rfl, Nat.le_of_ble_eq_true rfl⟩ (Nat.le_of_ble_eq_true rfl) h)))
  replace h := tl_in h c6
  by_cases c7_0 : x2.toInt = 0
  · replace h := tl_ip h c7_0
    refine tl_tableIn (off := 107) (tgt := 108) dL_call_1 (by omega) (by omega) (by rw [c7_0]; rfl) (by decide) ?_
    obtain ⟨x8, u10, e9, h⟩ := tl_b2i h
    exact tl_aload_n dL_call_108 rfl (tl_iload_n dL_call_109 rfl (tz_cH2 (lL_tryAppend h1 e9) dL_call_110 cs_L_call_109 (c := 1) ⟨rfl, rfl⟩ (k2 := 1) (Nat.le_of_ble_eq_true rfl) (CM := 1) ⟨Nat.le_of_ble_eq_true rfl, Nat.le_of_ble_eq_true rfl⟩ (Nat.le_of_ble_eq_true rfl) (Nat.le_of_ble_eq_true rfl) (tz_ret dL_call_113 rfl rfl (CM := 1) ⟨Nat.le_of_ble_eq_true rfl, Nat.le_of_ble_eq_true rfl⟩ (Nat.le_of_ble_eq_true rfl) h)))
  replace h := tl_in h c7_0
  by_cases c7_1 : x2.toInt = 1
  · replace h := tl_ip h c7_1
    refine tl_tableIn (off := 113) (tgt := 114) dL_call_1 (by omega) (by omega) (by rw [c7_1]; rfl) (by decide) ?_
    obtain ⟨x8, u10, e9, h⟩ := tl_b2i h
    exact tl_aload_n dL_call_114 rfl (tz_cH1 (lL_tryLoad h1 e9) dL_call_115 cs_L_call_115 (c := 1) ⟨rfl, rfl⟩ (k2 := 1) (Nat.le_of_ble_eq_true rfl) (CM := 1) ⟨Nat.le_of_ble_eq_true rfl, Nat.le_of_ble_eq_true rfl⟩ (Nat.le_of_ble_eq_true rfl) (Nat.le_of_ble_eq_true rfl) (tz_ret dL_call_118 rfl rfl (CM := 1) ⟨Nat.le_of_ble_eq_true rfl, Nat.le_of_ble_eq_true rfl⟩ (Nat.le_of_ble_eq_true rfl) h))
  replace h := tl_in h c7_1
  by_cases c7_2 : x2.toInt = 2
  · replace h := tl_ip h c7_2
    refine tl_tableIn (off := 118) (tgt := 119) dL_call_1 (by omega) (by omega) (by rw [c7_2]; rfl) (by decide) ?_
    obtain ⟨x8, u10, e9, h⟩ := tl_b2i h
    exact tl_aload_n dL_call_119 rfl (tl_iload_n dL_call_120 rfl (tz_cH2 (lL_tryAbout h1 e9) dL_call_121 cs_L_call_119 (c := 1) ⟨rfl, rfl⟩ (k2 := 1) (Nat.le_of_ble_eq_true rfl) (CM := 1) ⟨Nat.le_of_ble_eq_true rfl, Nat.le_of_ble_eq_true rfl⟩ (Nat.le_of_ble_eq_true rfl) (Nat.le_of_ble_eq_true rfl) (tz_ret dL_call_124 rfl rfl (CM := 1) ⟨Nat.le_of_ble_eq_true rfl, Nat.le_of_ble_eq_true rfl⟩ (Nat.le_of_ble_eq_true rfl) h)))
  replace h := tl_in h c7_2
  by_cases c7_3 : x2.toInt = 3
  · replace h := tl_ip h c7_3
    refine tl_tableIn (off := 124) (tgt := 125) dL_call_1 (by omega) (by omega) (by rw [c7_3]; rfl) (by decide) ?_
    obtain ⟨x8, u10, e9, h⟩ := tl_b2i h
    exact tl_aload_n dL_call_125 rfl (tl_iload_n dL_call_126 rfl (tl_iload_n dL_call_127 rfl (tz_cH3 (lL_tryTold h1 e9) dL_call_128 cs_L_call_122 (c := 1) ⟨rfl, rfl⟩ (k2 := 1) (Nat.le_of_ble_eq_true rfl) (CM := 1) ⟨Nat.le_of_ble_eq_true rfl, Nat.le_of_ble_eq_true rfl⟩ (Nat.le_of_ble_eq_true rfl) (Nat.le_of_ble_eq_true rfl) (tz_ret dL_call_131 rfl rfl (CM := 1) ⟨Nat.le_of_ble_eq_true rfl, Nat.le_of_ble_eq_true rfl⟩ (Nat.le_of_ble_eq_true rfl) h))))
  replace h := tl_in h c7_3
  by_cases c7_4 : x2.toInt = 4
  · replace h := tl_ip h c7_4
    refine tl_tableIn (off := 131) (tgt := 132) dL_call_1 (by omega) (by omega) (by rw [c7_4]; rfl) (by decide) ?_
    obtain ⟨x8, u10, e9, h⟩ := tl_b2i h
    exact tl_aload_n dL_call_132 rfl (tl_iload_n dL_call_133 rfl (tl_iload_n dL_call_134 rfl (tz_cH3 (lL_tryWorker h1 e9) dL_call_135 cs_L_call_126 (c := 1) ⟨rfl, rfl⟩ (k2 := 1) (Nat.le_of_ble_eq_true rfl) (CM := 1) ⟨Nat.le_of_ble_eq_true rfl, Nat.le_of_ble_eq_true rfl⟩ (Nat.le_of_ble_eq_true rfl) (Nat.le_of_ble_eq_true rfl) (tz_ret dL_call_138 rfl rfl (CM := 1) ⟨Nat.le_of_ble_eq_true rfl, Nat.le_of_ble_eq_true rfl⟩ (Nat.le_of_ble_eq_true rfl) h))))
  replace h := tl_in h c7_4
  by_cases c7_5 : x2.toInt = 5
  · replace h := tl_ip h c7_5
    refine tl_tableIn (off := 138) (tgt := 139) dL_call_1 (by omega) (by omega) (by rw [c7_5]; rfl) (by decide) ?_
    obtain ⟨x8, u10, e9, h⟩ := tl_b2i h
    exact tl_aload_n dL_call_139 rfl (tl_iload_n dL_call_140 rfl (tl_iload_n dL_call_141 rfl (tz_cH3 (lL_tryGlow h1 e9) dL_call_142 cs_L_call_129 (c := 1) ⟨rfl, rfl⟩ (k2 := 1) (Nat.le_of_ble_eq_true rfl) (CM := 1) ⟨Nat.le_of_ble_eq_true rfl, Nat.le_of_ble_eq_true rfl⟩ (Nat.le_of_ble_eq_true rfl) (Nat.le_of_ble_eq_true rfl) (tz_ret dL_call_145 rfl rfl (CM := 1) ⟨Nat.le_of_ble_eq_true rfl, Nat.le_of_ble_eq_true rfl⟩ (Nat.le_of_ble_eq_true rfl) h))))
  replace h := tl_in h c7_5
  by_cases c7_6 : x2.toInt = 6
  · replace h := tl_ip h c7_6
    refine tl_tableIn (off := 145) (tgt := 146) dL_call_1 (by omega) (by omega) (by rw [c7_6]; rfl) (by decide) ?_
    obtain ⟨x8, u10, e9, h⟩ := tl_b2i h
    exact tl_aload_n dL_call_146 rfl (tl_iload_n dL_call_147 rfl (tz_cH2 (lL_tryLad h1 e9) dL_call_148 cs_L_call_132 (c := 1) ⟨rfl, rfl⟩ (k2 := 1) (Nat.le_of_ble_eq_true rfl) (CM := 1) ⟨Nat.le_of_ble_eq_true rfl, Nat.le_of_ble_eq_true rfl⟩ (Nat.le_of_ble_eq_true rfl) (Nat.le_of_ble_eq_true rfl) (tz_ret dL_call_151 rfl rfl (CM := 1) ⟨Nat.le_of_ble_eq_true rfl, Nat.le_of_ble_eq_true rfl⟩ (Nat.le_of_ble_eq_true rfl) h)))
  replace h := tl_in h c7_6
  by_cases c7_7 : x2.toInt = 7
  · replace h := tl_ip h c7_7
    refine tl_tableIn (off := 151) (tgt := 152) dL_call_1 (by omega) (by omega) (by rw [c7_7]; rfl) (by decide) ?_
    obtain ⟨x8, u10, e9, h⟩ := tl_b2i h
    exact tl_aload_n dL_call_152 rfl (tl_iload_n dL_call_153 rfl (tl_iload_n dL_call_154 rfl (tz_cH3 (lL_tryOrder h1 e9) dL_call_155 cs_L_call_135 (c := 1) ⟨rfl, rfl⟩ (k2 := 1) (Nat.le_of_ble_eq_true rfl) (CM := 1) ⟨Nat.le_of_ble_eq_true rfl, Nat.le_of_ble_eq_true rfl⟩ (Nat.le_of_ble_eq_true rfl) (Nat.le_of_ble_eq_true rfl) (tz_ret dL_call_158 rfl rfl (CM := 1) ⟨Nat.le_of_ble_eq_true rfl, Nat.le_of_ble_eq_true rfl⟩ (Nat.le_of_ble_eq_true rfl) h))))
  replace h := tl_in h c7_7
  by_cases c7_8 : x2.toInt = 8
  · replace h := tl_ip h c7_8
    refine tl_tableIn (off := 158) (tgt := 159) dL_call_1 (by omega) (by omega) (by rw [c7_8]; rfl) (by decide) ?_
    obtain ⟨x8, u10, e9, h⟩ := tl_b2i h
    exact tl_aload_n dL_call_159 rfl (tl_iload_n dL_call_160 rfl (tl_iload_n dL_call_161 rfl (tz_cH3 (lL_tryLit h1 e9) dL_call_162 cs_L_call_138 (c := 1) ⟨rfl, rfl⟩ (k2 := 1) (Nat.le_of_ble_eq_true rfl) (CM := 1) ⟨Nat.le_of_ble_eq_true rfl, Nat.le_of_ble_eq_true rfl⟩ (Nat.le_of_ble_eq_true rfl) (Nat.le_of_ble_eq_true rfl) (tz_ret dL_call_165 rfl rfl (CM := 1) ⟨Nat.le_of_ble_eq_true rfl, Nat.le_of_ble_eq_true rfl⟩ (Nat.le_of_ble_eq_true rfl) h))))
  replace h := tl_in h c7_8
  by_cases c7_9 : x2.toInt = 9
  · replace h := tl_ip h c7_9
    refine tl_tableIn (off := 165) (tgt := 166) dL_call_1 (by omega) (by omega) (by rw [c7_9]; rfl) (by decide) ?_
    obtain ⟨x8, u10, e9, h⟩ := tl_b2i h
    exact tl_aload_n dL_call_166 rfl (tl_iload_n dL_call_167 rfl (tz_cH2 (lL_tryGallery h1 e9) dL_call_168 cs_L_call_141 (c := 1) ⟨rfl, rfl⟩ (k2 := 1) (Nat.le_of_ble_eq_true rfl) (CM := 1) ⟨Nat.le_of_ble_eq_true rfl, Nat.le_of_ble_eq_true rfl⟩ (Nat.le_of_ble_eq_true rfl) (Nat.le_of_ble_eq_true rfl) (tz_ret dL_call_171 rfl rfl (CM := 1) ⟨Nat.le_of_ble_eq_true rfl, Nat.le_of_ble_eq_true rfl⟩ (Nat.le_of_ble_eq_true rfl) h)))
  replace h := tl_in h c7_9
  by_cases c7_10 : x2.toInt = 10
  · replace h := tl_ip h c7_10
    refine tl_tableIn (off := 171) (tgt := 172) dL_call_1 (by omega) (by omega) (by rw [c7_10]; rfl) (by decide) ?_
    obtain ⟨x8, u10, e9, h⟩ := tl_b2i h
    exact tl_aload_n dL_call_172 rfl (tl_iload_n dL_call_173 rfl (tl_iload_n dL_call_174 rfl (tz_cH3 (lL_tryMiner h1 e9) dL_call_175 cs_L_call_144 (c := 1) ⟨rfl, rfl⟩ (k2 := 1) (Nat.le_of_ble_eq_true rfl) (CM := 1) ⟨Nat.le_of_ble_eq_true rfl, Nat.le_of_ble_eq_true rfl⟩ (Nat.le_of_ble_eq_true rfl) (Nat.le_of_ble_eq_true rfl) (tz_ret dL_call_178 rfl rfl (CM := 1) ⟨Nat.le_of_ble_eq_true rfl, Nat.le_of_ble_eq_true rfl⟩ (Nat.le_of_ble_eq_true rfl) h))))
  replace h := tl_in h c7_10
  by_cases c7_11 : x2.toInt = 11
  · replace h := tl_ip h c7_11
    refine tl_tableIn (off := 178) (tgt := 179) dL_call_1 (by omega) (by omega) (by rw [c7_11]; rfl) (by decide) ?_
    obtain ⟨x8, u10, e9, h⟩ := tl_b2i h
    exact tl_aload_n dL_call_179 rfl (tl_iload_n dL_call_180 rfl (tl_iload_n dL_call_181 rfl (tz_cH3 (lL_trySend h1 e9) dL_call_182 cs_L_call_147 (c := 1) ⟨rfl, rfl⟩ (k2 := 1) (Nat.le_of_ble_eq_true rfl) (CM := 1) ⟨Nat.le_of_ble_eq_true rfl, Nat.le_of_ble_eq_true rfl⟩ (Nat.le_of_ble_eq_true rfl) (Nat.le_of_ble_eq_true rfl) (tz_ret dL_call_185 rfl rfl (CM := 1) ⟨Nat.le_of_ble_eq_true rfl, Nat.le_of_ble_eq_true rfl⟩ (Nat.le_of_ble_eq_true rfl) h))))
  replace h := tl_in h c7_11
  by_cases c7_12 : x2.toInt = 12
  · replace h := tl_ip h c7_12
    refine tl_tableIn (off := 185) (tgt := 186) dL_call_1 (by omega) (by omega) (by rw [c7_12]; rfl) (by decide) ?_
    obtain ⟨x8, u10, e9, h⟩ := tl_b2i h
    exact tl_aload_n dL_call_186 rfl (tl_iload_n dL_call_187 rfl (tz_cH2 (lL_tryStore h1 e9) dL_call_188 cs_L_call_150 (c := 1) ⟨rfl, rfl⟩ (k2 := 1) (Nat.le_of_ble_eq_true rfl) (CM := 1) ⟨Nat.le_of_ble_eq_true rfl, Nat.le_of_ble_eq_true rfl⟩ (Nat.le_of_ble_eq_true rfl) (Nat.le_of_ble_eq_true rfl) (tz_ret dL_call_191 rfl rfl (CM := 1) ⟨Nat.le_of_ble_eq_true rfl, Nat.le_of_ble_eq_true rfl⟩ (Nat.le_of_ble_eq_true rfl) h)))
  replace h := tl_in h c7_12
  by_cases c7_13 : x2.toInt = 13
  · replace h := tl_ip h c7_13
    refine tl_tableIn (off := 191) (tgt := 192) dL_call_1 (by omega) (by omega) (by rw [c7_13]; rfl) (by decide) ?_
    obtain ⟨x8, u10, e9, h⟩ := tl_b2i h
    exact tl_aload_n dL_call_192 rfl (tl_iload_n dL_call_193 rfl (tl_iload_n dL_call_194 rfl (tl_iload dL_call_195 rfl (tz_cH4 (lL_tryHang h1 e9) dL_call_197 cs_L_call_153 (c := 1) ⟨rfl, rfl⟩ (k2 := 1) (Nat.le_of_ble_eq_true rfl) (CM := 1) ⟨Nat.le_of_ble_eq_true rfl, Nat.le_of_ble_eq_true rfl⟩ (Nat.le_of_ble_eq_true rfl) (Nat.le_of_ble_eq_true rfl) (tz_ret dL_call_200 rfl rfl (CM := 1) ⟨Nat.le_of_ble_eq_true rfl, Nat.le_of_ble_eq_true rfl⟩ (Nat.le_of_ble_eq_true rfl) h)))))
  replace h := tl_in h c7_13
  by_cases c7_14 : x2.toInt = 14
  · replace h := tl_ip h c7_14
    refine tl_tableIn (off := 200) (tgt := 201) dL_call_1 (by omega) (by omega) (by rw [c7_14]; rfl) (by decide) ?_
    obtain ⟨x8, u10, e9, h⟩ := tl_b2i h
    exact tl_aload_n dL_call_201 rfl (tl_iload_n dL_call_202 rfl (tl_iload_n dL_call_203 rfl (tz_cH3 (lL_tryFill h1 e9) dL_call_204 cs_L_call_157 (c := 1) ⟨rfl, rfl⟩ (k2 := 1) (Nat.le_of_ble_eq_true rfl) (CM := 1) ⟨Nat.le_of_ble_eq_true rfl, Nat.le_of_ble_eq_true rfl⟩ (Nat.le_of_ble_eq_true rfl) (Nat.le_of_ble_eq_true rfl) (tz_ret dL_call_207 rfl rfl (CM := 1) ⟨Nat.le_of_ble_eq_true rfl, Nat.le_of_ble_eq_true rfl⟩ (Nat.le_of_ble_eq_true rfl) h))))
  replace h := tl_in h c7_14
  by_cases c7_15 : x2.toInt = 15
  · replace h := tl_ip h c7_15
    refine tl_tableIn (off := 207) (tgt := 208) dL_call_1 (by omega) (by omega) (by rw [c7_15]; rfl) (by decide) ?_
    obtain ⟨x8, u10, e9, h⟩ := tl_b2i h
    exact tl_aload_n dL_call_208 rfl (tl_iload_n dL_call_209 rfl (tz_cH2 (lL_tryDrop h1 e9) dL_call_210 cs_L_call_160 (c := 1) ⟨rfl, rfl⟩ (k2 := 1) (Nat.le_of_ble_eq_true rfl) (CM := 1) ⟨Nat.le_of_ble_eq_true rfl, Nat.le_of_ble_eq_true rfl⟩ (Nat.le_of_ble_eq_true rfl) (Nat.le_of_ble_eq_true rfl) (tz_ret dL_call_213 rfl rfl (CM := 1) ⟨Nat.le_of_ble_eq_true rfl, Nat.le_of_ble_eq_true rfl⟩ (Nat.le_of_ble_eq_true rfl) h)))
  replace h := tl_in h c7_15
  by_cases c7_16 : x2.toInt = 16
  · replace h := tl_ip h c7_16
    refine tl_tableIn (off := 213) (tgt := 214) dL_call_1 (by omega) (by omega) (by rw [c7_16]; rfl) (by decide) ?_
    obtain ⟨x8, u10, e9, h⟩ := tl_b2i h
    exact tl_aload_n dL_call_214 rfl (tl_iload_n dL_call_215 rfl (tl_iload_n dL_call_216 rfl (tz_cH3 (lL_tryLay h1 e9) dL_call_217 cs_L_call_163 (c := 1) ⟨rfl, rfl⟩ (k2 := 1) (Nat.le_of_ble_eq_true rfl) (CM := 1) ⟨Nat.le_of_ble_eq_true rfl, Nat.le_of_ble_eq_true rfl⟩ (Nat.le_of_ble_eq_true rfl) (Nat.le_of_ble_eq_true rfl) (tz_ret dL_call_220 rfl rfl (CM := 1) ⟨Nat.le_of_ble_eq_true rfl, Nat.le_of_ble_eq_true rfl⟩ (Nat.le_of_ble_eq_true rfl) h))))
  replace h := tl_in h c7_16
  by_cases c7_17 : x2.toInt = 17
  · replace h := tl_ip h c7_17
    refine tl_tableIn (off := 220) (tgt := 221) dL_call_1 (by omega) (by omega) (by rw [c7_17]; rfl) (by decide) ?_
    obtain ⟨x8, u10, e9, h⟩ := tl_b2i h
    exact tl_aload_n dL_call_221 rfl (tl_iload_n dL_call_222 rfl (tz_cH2 (lL_tryHours h1 e9) dL_call_223 cs_L_call_166 (c := 1) ⟨rfl, rfl⟩ (k2 := 1) (Nat.le_of_ble_eq_true rfl) (CM := 1) ⟨Nat.le_of_ble_eq_true rfl, Nat.le_of_ble_eq_true rfl⟩ (Nat.le_of_ble_eq_true rfl) (Nat.le_of_ble_eq_true rfl) (tz_ret dL_call_226 rfl rfl (CM := 1) ⟨Nat.le_of_ble_eq_true rfl, Nat.le_of_ble_eq_true rfl⟩ (Nat.le_of_ble_eq_true rfl) h)))
  replace h := tl_in h c7_17
  by_cases c7_18 : x2.toInt = 18
  · replace h := tl_ip h c7_18
    refine tl_tableIn (off := 226) (tgt := 227) dL_call_1 (by omega) (by omega) (by rw [c7_18]; rfl) (by decide) ?_
    obtain ⟨x8, u10, e9, h⟩ := tl_b2i h
    exact tl_aload_n dL_call_227 rfl (tz_cH1 (lL_tryUndo h1 e9) dL_call_228 cs_L_call_169 (c := 1) ⟨rfl, rfl⟩ (k2 := 1) (Nat.le_of_ble_eq_true rfl) (CM := 1) ⟨Nat.le_of_ble_eq_true rfl, Nat.le_of_ble_eq_true rfl⟩ (Nat.le_of_ble_eq_true rfl) (Nat.le_of_ble_eq_true rfl) (tz_ret dL_call_231 rfl rfl (CM := 1) ⟨Nat.le_of_ble_eq_true rfl, Nat.le_of_ble_eq_true rfl⟩ (Nat.le_of_ble_eq_true rfl) h))
  replace h := tl_in h c7_18
  by_cases c7_19 : x2.toInt = 19
  · replace h := tl_ip h c7_19
    refine tl_tableIn (off := 231) (tgt := 232) dL_call_1 (by omega) (by omega) (by rw [c7_19]; rfl) (by decide) ?_
    obtain ⟨x8, u10, e9, h⟩ := tl_b2i h
    exact tl_aload_n dL_call_232 rfl (tl_iload_n dL_call_233 rfl (tz_cH2 (lL_tryDark h1 e9) dL_call_234 cs_L_call_172 (c := 1) ⟨rfl, rfl⟩ (k2 := 1) (Nat.le_of_ble_eq_true rfl) (CM := 1) ⟨Nat.le_of_ble_eq_true rfl, Nat.le_of_ble_eq_true rfl⟩ (Nat.le_of_ble_eq_true rfl) (Nat.le_of_ble_eq_true rfl) (tz_ret dL_call_237 rfl rfl (CM := 1) ⟨Nat.le_of_ble_eq_true rfl, Nat.le_of_ble_eq_true rfl⟩ (Nat.le_of_ble_eq_true rfl) h)))
  replace h := tl_in h c7_19
  by_cases c7_20 : x2.toInt = 20
  · replace h := tl_ip h c7_20
    refine tl_tableIn (off := 237) (tgt := 238) dL_call_1 (by omega) (by omega) (by rw [c7_20]; rfl) (by decide) ?_
    obtain ⟨x8, u10, e9, h⟩ := tl_b2i h
    exact tl_aload_n dL_call_238 rfl (tl_iload_n dL_call_239 rfl (tl_iload_n dL_call_240 rfl (tz_cH3 (lL_tryDeep h1 e9) dL_call_241 cs_L_call_175 (c := 1) ⟨rfl, rfl⟩ (k2 := 1) (Nat.le_of_ble_eq_true rfl) (CM := 1) ⟨Nat.le_of_ble_eq_true rfl, Nat.le_of_ble_eq_true rfl⟩ (Nat.le_of_ble_eq_true rfl) (Nat.le_of_ble_eq_true rfl) (tz_ret dL_call_244 rfl rfl (CM := 1) ⟨Nat.le_of_ble_eq_true rfl, Nat.le_of_ble_eq_true rfl⟩ (Nat.le_of_ble_eq_true rfl) h))))
  replace h := tl_in h c7_20
  by_cases c7_21 : x2.toInt = 21
  · replace h := tl_ip h c7_21
    refine tl_tableIn (off := 244) (tgt := 245) dL_call_1 (by omega) (by omega) (by rw [c7_21]; rfl) (by decide) ?_
    obtain ⟨x8, u10, e9, h⟩ := tl_b2i h
    exact tl_aload_n dL_call_245 rfl (tl_iload_n dL_call_246 rfl (tl_iload_n dL_call_247 rfl (tl_iload dL_call_248 rfl (tz_cH4 (lL_tryBest h1 e9) dL_call_250 cs_L_call_178 (c := 1) ⟨rfl, rfl⟩ (k2 := 1) (Nat.le_of_ble_eq_true rfl) (CM := 1) ⟨Nat.le_of_ble_eq_true rfl, Nat.le_of_ble_eq_true rfl⟩ (Nat.le_of_ble_eq_true rfl) (Nat.le_of_ble_eq_true rfl) (tz_ret dL_call_253 rfl rfl (CM := 1) ⟨Nat.le_of_ble_eq_true rfl, Nat.le_of_ble_eq_true rfl⟩ (Nat.le_of_ble_eq_true rfl) h)))))
  replace h := tl_in h c7_21
  have c7_22 : x2.toInt = 22 := by omega
  refine tl_tableIn (off := 253) (tgt := 254) dL_call_1 (by omega) (by omega) (by rw [c7_22]; rfl) (by decide) ?_
  obtain ⟨x8, u10, e9, h⟩ := tl_b2i h
  exact tl_aload_n dL_call_254 rfl (tl_iload_n dL_call_255 rfl (tz_cH2 (lL_tryKeep h1 e9) dL_call_256 cs_L_call_181 (c := 1) ⟨rfl, rfl⟩ (k2 := 1) (Nat.le_of_ble_eq_true rfl) (CM := 1) ⟨Nat.le_of_ble_eq_true rfl, Nat.le_of_ble_eq_true rfl⟩ (Nat.le_of_ble_eq_true rfl) (Nat.le_of_ble_eq_true rfl) (tz_ret dL_call_259 rfl rfl (CM := 1) ⟨Nat.le_of_ble_eq_true rfl, Nat.le_of_ble_eq_true rfl⟩ (Nat.le_of_ble_eq_true rfl) h)))


def fL_thrown (x1 : Int32) (u : tz_U) : Option (Int32 × tz_U) :=
  (if x1 = (-9999001) then some (1, u) else (if x1 = (-9999002) then some (1, u) else (if x1 = (-9999003) then some (1, u) else some (0, u))))

theorem lL_thrown {E : tl_E} {x1 : Int32} {u : tz_U} {r : Int32} {v : tz_U}  (h : fL_thrown x1 u = some (r, v)) : tz_ML E mL_thrown [.int x1] u r v := by
  unfold fL_thrown at h
  refine tl_start [some (.int x1)] rfl rfl rfl (Nat.le_of_ble_eq_true rfl) (tz_st (tz_fg (ls2 := [some (.int x1)]) (And.intro rfl trivial) ?_))
  refine tl_iload_n dL_thrown_0 rfl (tl_ldc dL_thrown_1 kc_L_15 (tl_icmp_eq (tgt := 18) dL_thrown_3 (by decide) (fun c2 => ?_) (fun c2 => ?_)))
  · replace h := tl_ip h c2
    exact tl_iconst (v := 1) dL_thrown_18 ic_1 (tl_goto (tgt := 23) dL_thrown_19 (by decide) (tz_ret dL_thrown_23 rfl rfl (CM := 0) ⟨Nat.le_of_ble_eq_true rfl, Nat.le_of_ble_eq_true rfl⟩ (Nat.le_of_ble_eq_true rfl) h))
  · replace h := tl_in h c2
    refine tl_iload_n dL_thrown_6 rfl (tl_ldc dL_thrown_7 kc_L_18 (tl_icmp_eq (tgt := 18) dL_thrown_9 (by decide) (fun c3 => ?_) (fun c3 => ?_)))
    · replace h := tl_ip h c3
      exact tl_iconst (v := 1) dL_thrown_18 ic_1 (tl_goto (tgt := 23) dL_thrown_19 (by decide) (tz_ret dL_thrown_23 rfl rfl (CM := 0) ⟨Nat.le_of_ble_eq_true rfl, Nat.le_of_ble_eq_true rfl⟩ (Nat.le_of_ble_eq_true rfl) h))
    · replace h := tl_in h c3
      refine tl_iload_n dL_thrown_12 rfl (tl_ldc dL_thrown_13 kc_L_21 (tl_icmp_ne (tgt := 22) dL_thrown_15 (by decide) (fun c4 => ?_) (fun c4 => ?_)))
      · replace h := tl_in h c4
        exact tl_iconst (v := 0) dL_thrown_22 ic_0 (tz_ret dL_thrown_23 rfl rfl (CM := 0) ⟨Nat.le_of_ble_eq_true rfl, Nat.le_of_ble_eq_true rfl⟩ (Nat.le_of_ble_eq_true rfl) h)
      · replace h := tl_ip h c4
        exact tl_iconst (v := 1) dL_thrown_18 ic_1 (tl_goto (tgt := 23) dL_thrown_19 (by decide) (tz_ret dL_thrown_23 rfl rfl (CM := 0) ⟨Nat.le_of_ble_eq_true rfl, Nat.le_of_ble_eq_true rfl⟩ (Nat.le_of_ble_eq_true rfl) h))

theorem cs_L_act_189 : tl_cS mL_act mL_call 189 5 := ⟨cd_L_call, ml_L_189, sm_L_call, in_L, ⟨by decide, by decide, by decide +kernel⟩, Nat.le_of_ble_eq_true rfl, Nat.le_of_ble_eq_true rfl⟩
theorem cs_L_act_193 : tl_cH mL_act mL_lamps hL_lamps 193 5 := ⟨cw_L_lamps, ml_L_193, sm_L_lamps, in_L, ⟨by decide, by decide, by decide +kernel⟩, Nat.le_of_ble_eq_true rfl, Nat.le_of_ble_eq_true rfl⟩
def fL_act_p316  (u : tz_U) : Option (Int32 × tz_U) :=
  some ((-1), u)

set_option maxRecDepth 40000 in
def fL_act_p54 (a1 : Nat) (x2 : Int32) (x3 : Int32) (x4 : Int32) (x5 : Int32) (x6 : Int32) (u : tz_U) : Option (Int32 × tz_U) :=
  (if (x2 - x2 / 16 * 16).toInt < 0 ∨ 11 < (x2 - x2 / 16 * 16).toInt then tl_b2 (fL_call a1 17 (1 + (x3 - x3 / 9 * 9)) 0 0 u) (fun x9 u11 => some (x9, u11)) else (if (x2 - x2 / 16 * 16).toInt = 0 then (if (x3 - x3 / 3 * 3) = 0 then tl_b2 (fL_call a1 9 (1 + ((x3 / 3) - (x3 / 3) / 30 * 30)) 0 0 u) (fun x10 u12 => some (x10, u12)) else tl_b2 (fL_call a1 12 (x3 - x3 / 200 * 200) 0 0 u) (fun x10 u12 => some (x10, u12))) else (if (x2 - x2 / 16 * 16).toInt = 1 then tl_b2 (fL_call a1 10 x5 (1 + ((x3 / 3) - (x3 / 3) / 5 * 5)) 0 u) (fun x9 u11 => some (x9, u11)) else (if (x2 - x2 / 16 * 16).toInt = 2 then tl_b2 (fL_call a1 3 x5 0 0 u) (fun x9 u11 => tl_g (¬ x9 = 0) (tl_b2 (fL_lamps a1 x5 ((x3 / 3) - (x3 / 3) / x9 * x9) (1 + ((x3 / 180) - (x3 / 180) / 9 * 9)) ((x3 / 1620) - (x3 / 1620) / 100 * 100) u11) (fun x13 u15 => some (x13, u15)))) else (if (x2 - x2 / 16 * 16).toInt = 3 then tl_b2 (fL_call a1 3 x5 0 0 u) (fun x9 u11 => tl_g (¬ x9 = 0) (tl_b2 (fL_lamps a1 x5 ((x3 / 3) - (x3 / 3) / x9 * x9) (1 + ((x3 / 180) - (x3 / 180) / 9 * 9)) ((x3 / 1620) - (x3 / 1620) / 100 * 100) u11) (fun x13 u15 => some (x13, u15)))) else (if (x2 - x2 / 16 * 16).toInt = 4 then tl_b2 (fL_call a1 3 x5 0 0 u) (fun x9 u11 => tl_g (¬ x9 = 0) (tl_b2 (fL_call a1 13 x6 x5 ((x3 / 24) - (x3 / 24) / x9 * x9) u11) (fun x13 u15 => some (x13, u15)))) else (if (x2 - x2 / 16 * 16).toInt = 5 then tl_b2 (fL_call a1 3 x5 0 0 u) (fun x9 u11 => tl_g (¬ x9 = 0) (tl_b2 (fL_call a1 13 x6 x5 ((x3 / 24) - (x3 / 24) / x9 * x9) u11) (fun x13 u15 => some (x13, u15)))) else (if (x2 - x2 / 16 * 16).toInt = 6 then tl_b2 (fL_call a1 14 x6 (1 + ((x3 / 24) - (x3 / 24) / 99 * 99)) 0 u) (fun x9 u11 => some (x9, u11)) else (if (x2 - x2 / 16 * 16).toInt = 7 then tl_b2 (fL_call a1 15 (x3 - x3 / 4 * 4) 0 0 u) (fun x9 u11 => some (x9, u11)) else (if (x2 - x2 / 16 * 16).toInt = 8 then (if (x3 - x3 / 2 * 2) = 0 then tl_b2 (fL_call a1 16 0 ((x3 / 2) - (x3 / 2) / 13 * 13) 0 u) (fun x10 u12 => some (x10, u12)) else tl_b2 (fL_call a1 16 1 ((x3 / 2) - (x3 / 2) / 2 * 2) 0 u) (fun x10 u12 => some (x10, u12))) else (if (x2 - x2 / 16 * 16).toInt = 9 then (if x4 = 0 then fL_act_p316  u else tl_g (¬ x4 = 0) (tl_b2 (fL_call a1 11 ((x3 / 3) - (x3 / 3) / x4 * x4) x5 0 u) (fun x11 u13 => some (x11, u13)))) else (if (x2 - x2 / 16 * 16).toInt = 10 then tl_b2 (fL_call a1 2 3 0 0 u) (fun x9 u11 => (if 2 ≤ x9 then tl_b2 (fL_call a1 18 0 0 0 u11) (fun x13 u15 => some (x13, u15)) else some ((-1), u11))) else (if (x3 - x3 / 2 * 2) = 0 then tl_b2 (fL_call a1 22 ((x3 / 2) - (x3 / 2) / 2 * 2) 0 0 u) (fun x10 u12 => some (x10, u12)) else tl_b2 (fL_call a1 23 ((x3 / 2) - (x3 / 2) / 2 * 2) 0 0 u) (fun x10 u12 => some (x10, u12)))))))))))))))

def fL_act (a1 : Nat) (x2 : Int32) (u : tz_U) : Option (Int32 × tz_U) :=
  tl_let ((x2 / 16)) (fun x3 => tl_b2 (fL_call a1 2 0 0 0 u) (fun x4 u6 => tl_b2 (fL_call a1 2 1 0 0 u6) (fun x7 u9 => tl_b2 (fL_call a1 2 2 0 0 u9) (fun x10 u12 => tl_g (¬ x4 = 0) (tl_let ((x3 - x3 / x4 * x4)) (fun x14 => (if x10 = 0 then fL_act_p54 a1 x2 x3 x7 x14 0 u12 else tl_g (¬ x10 = 0) (fL_act_p54 a1 x2 x3 x7 x14 ((x3 / 3) - (x3 / 3) / x10 * x10) u12))))))))

theorem lL_act_p316 {E : tl_E}  {u : tz_U} {r : Int32} {v : tz_U}  (h : fL_act_p316  u = some (r, v)) : tz_R E mL_act tl_X0 (tl_Z E mL_act (tz_Q E r v)) 3 (tz_HU E u) 316 [none, none, none, none, none, none, none, none] [] := by
  unfold fL_act_p316 at h
  exact tl_iconst (v := (-1)) dL_act_316 ic_m1 (tl_goto (tgt := 335) dL_act_317 (by decide) (tz_ret dL_act_335 rfl rfl (CM := 5) ⟨Nat.le_of_ble_eq_true rfl, Nat.le_of_ble_eq_true rfl⟩ (Nat.le_of_ble_eq_true rfl) h))

theorem lL_act_p54 {E : tl_E} {a1 : Nat} {x2 : Int32} {x3 : Int32} {x4 : Int32} {x5 : Int32} {x6 : Int32} {u : tz_U} {r : Int32} {v : tz_U} (h1 : tz_on E a1) (h : fL_act_p54 a1 x2 x3 x4 x5 x6 u = some (r, v)) : tz_R E mL_act tl_X0 (tl_Z E mL_act (tz_Q E r v)) 3 (tz_HU E u) 54 [some (.ref a1), some (.int x2), some (.int x3), none, some (.int x4), none, some (.int x5), none] [.int x6] := by
  unfold fL_act_p54 at h
  refine tl_istore dL_act_54 (Nat.le_of_ble_eq_true rfl) (tl_iload_n dL_act_56 rfl (tl_bipush (v := 16) dL_act_57 bp_16 (tl_irem dL_act_59 (by decide) (?_))))
  by_cases c7 : (x2 - x2 / 16 * 16).toInt < 0 ∨ 11 < (x2 - x2 / 16 * 16).toInt
  · replace h := tl_ip h c7
    refine tl_tableOut (tgt := 398) dL_act_60 c7 (by decide) ?_
    obtain ⟨x9, u11, e10, h⟩ := tl_b2i h
    exact tl_aload_n dL_act_398 rfl (tl_bipush (v := 17) dL_act_399 bp_17 (tl_iconst (v := 1) dL_act_401 ic_1 (tl_iload_n dL_act_402 rfl (tl_bipush (v := 9) dL_act_403 bp_9 (tl_irem dL_act_405 (by decide) (tl_iadd dL_act_406 (tl_iconst (v := 0) dL_act_407 ic_0 (tl_iconst (v := 0) dL_act_408 ic_0 (tz_cS5 (lL_call h1 e10) dL_act_409 cs_L_act_189 (c := 1) ⟨rfl, rfl⟩ (k2 := 4) (Nat.le_of_ble_eq_true rfl) (CM := 5) ⟨Nat.le_of_ble_eq_true rfl, Nat.le_of_ble_eq_true rfl⟩ (Nat.le_of_ble_eq_true rfl) (Nat.le_of_ble_eq_true rfl) (tz_ret dL_act_412 rfl rfl (CM := 5) ⟨Nat.le_of_ble_eq_true rfl, Nat.le_of_ble_eq_true rfl⟩ (Nat.le_of_ble_eq_true rfl) h))))))))))
  replace h := tl_in h c7
  by_cases c8_0 : (x2 - x2 / 16 * 16).toInt = 0
  · replace h := tl_ip h c8_0
    refine tl_tableIn (off := 64) (tgt := 124) dL_act_60 (by omega) (by omega) (by rw [c8_0]; rfl) (by decide) ?_
    refine tl_iload_n dL_act_124 rfl (tl_iconst (v := 3) dL_act_125 ic_3 (tl_irem dL_act_126 (by decide) (tl_if_ne (tgt := 149) dL_act_127 (by decide) (fun c9 => ?_) (fun c9 => ?_))))
    · replace h := tl_in h c9
      obtain ⟨x10, u12, e11, h⟩ := tl_b2i h
      exact tl_aload_n dL_act_149 rfl (tl_bipush (v := 12) dL_act_150 bp_12 (tl_iload_n dL_act_152 rfl (tl_sipush (v := 200) dL_act_153 sp_200 (tl_irem dL_act_156 (by decide) (tl_iconst (v := 0) dL_act_157 ic_0 (tl_iconst (v := 0) dL_act_158 ic_0 (tz_cS5 (lL_call h1 e11) dL_act_159 cs_L_act_189 (c := 1) ⟨rfl, rfl⟩ (k2 := 4) (Nat.le_of_ble_eq_true rfl) (CM := 5) ⟨Nat.le_of_ble_eq_true rfl, Nat.le_of_ble_eq_true rfl⟩ (Nat.le_of_ble_eq_true rfl) (Nat.le_of_ble_eq_true rfl) (tz_ret dL_act_162 rfl rfl (CM := 5) ⟨Nat.le_of_ble_eq_true rfl, Nat.le_of_ble_eq_true rfl⟩ (Nat.le_of_ble_eq_true rfl) h))))))))
    · replace h := tl_ip h c9
      obtain ⟨x10, u12, e11, h⟩ := tl_b2i h
      exact tl_aload_n dL_act_130 rfl (tl_bipush (v := 9) dL_act_131 bp_9 (tl_iconst (v := 1) dL_act_133 ic_1 (tl_iload_n dL_act_134 rfl (tl_iconst (v := 3) dL_act_135 ic_3 (tl_idiv dL_act_136 (by decide) (tl_bipush (v := 30) dL_act_137 bp_30 (tl_irem dL_act_139 (by decide) (tl_iadd dL_act_140 (tl_iconst (v := 0) dL_act_141 ic_0 (tl_iconst (v := 0) dL_act_142 ic_0 (tz_cS5 (lL_call h1 e11) dL_act_143 cs_L_act_189 (c := 1) ⟨rfl, rfl⟩ (k2 := 4) (Nat.le_of_ble_eq_true rfl) (CM := 5) ⟨Nat.le_of_ble_eq_true rfl, Nat.le_of_ble_eq_true rfl⟩ (Nat.le_of_ble_eq_true rfl) (Nat.le_of_ble_eq_true rfl) (tl_goto (tgt := 162) dL_act_146 (by decide) (tz_ret dL_act_162 rfl rfl (CM := 5) ⟨Nat.le_of_ble_eq_true rfl, Nat.le_of_ble_eq_true rfl⟩ (Nat.le_of_ble_eq_true rfl) h)))))))))))))
  replace h := tl_in h c8_0
  by_cases c8_1 : (x2 - x2 / 16 * 16).toInt = 1
  · replace h := tl_ip h c8_1
    refine tl_tableIn (off := 103) (tgt := 163) dL_act_60 (by omega) (by omega) (by rw [c8_1]; rfl) (by decide) ?_
    obtain ⟨x9, u11, e10, h⟩ := tl_b2i h
    exact tl_aload_n dL_act_163 rfl (tl_bipush (v := 10) dL_act_164 bp_10 (tl_iload dL_act_166 rfl (tl_iconst (v := 1) dL_act_168 ic_1 (tl_iload_n dL_act_169 rfl (tl_iconst (v := 3) dL_act_170 ic_3 (tl_idiv dL_act_171 (by decide) (tl_iconst (v := 5) dL_act_172 ic_5 (tl_irem dL_act_173 (by decide) (tl_iadd dL_act_174 (tl_iconst (v := 0) dL_act_175 ic_0 (tz_cS5 (lL_call h1 e10) dL_act_176 cs_L_act_189 (c := 1) ⟨rfl, rfl⟩ (k2 := 4) (Nat.le_of_ble_eq_true rfl) (CM := 5) ⟨Nat.le_of_ble_eq_true rfl, Nat.le_of_ble_eq_true rfl⟩ (Nat.le_of_ble_eq_true rfl) (Nat.le_of_ble_eq_true rfl) (tz_ret dL_act_179 rfl rfl (CM := 5) ⟨Nat.le_of_ble_eq_true rfl, Nat.le_of_ble_eq_true rfl⟩ (Nat.le_of_ble_eq_true rfl) h))))))))))))
  replace h := tl_in h c8_1
  by_cases c8_2 : (x2 - x2 / 16 * 16).toInt = 2
  · replace h := tl_ip h c8_2
    refine tl_tableIn (off := 120) (tgt := 180) dL_act_60 (by omega) (by omega) (by rw [c8_2]; rfl) (by decide) ?_
    obtain ⟨x9, u11, e10, h⟩ := tl_b2i h
    obtain ⟨g12, h⟩ := tl_gi h
    obtain ⟨x13, u15, e14, h⟩ := tl_b2i h
    exact tl_aload_n dL_act_180 rfl (tl_iload dL_act_181 rfl (tl_iload_n dL_act_183 rfl (tl_iconst (v := 3) dL_act_184 ic_3 (tl_idiv dL_act_185 (by decide) (tl_aload_n dL_act_186 rfl (tl_iconst (v := 3) dL_act_187 ic_3 (tl_iload dL_act_188 rfl (tl_iconst (v := 0) dL_act_190 ic_0 (tl_iconst (v := 0) dL_act_191 ic_0 (tz_cS5 (lL_call h1 e10) dL_act_192 cs_L_act_189 (c := 1) ⟨rfl, rfl⟩ (k2 := 4) (Nat.le_of_ble_eq_true rfl) (CM := 5) ⟨Nat.le_of_ble_eq_true rfl, Nat.le_of_ble_eq_true rfl⟩ (Nat.le_of_ble_eq_true rfl) (Nat.le_of_ble_eq_true rfl) (tl_irem dL_act_195 g12 (tl_iconst (v := 1) dL_act_196 ic_1 (tl_iload_n dL_act_197 rfl (tl_sipush (v := 180) dL_act_198 sp_180 (tl_idiv dL_act_201 (by decide) (tl_bipush (v := 9) dL_act_202 bp_9 (tl_irem dL_act_204 (by decide) (tl_iadd dL_act_205 (tl_iload_n dL_act_206 rfl (tl_sipush (v := 1620) dL_act_207 sp_1620 (tl_idiv dL_act_210 (by decide) (tl_bipush (v := 100) dL_act_211 bp_100 (tl_irem dL_act_213 (by decide) (tz_cH5 (lL_lamps h1 e14) dL_act_214 cs_L_act_193 (c := 1) ⟨rfl, rfl⟩ (k2 := 5) (Nat.le_of_ble_eq_true rfl) (CM := 5) ⟨Nat.le_of_ble_eq_true rfl, Nat.le_of_ble_eq_true rfl⟩ (Nat.le_of_ble_eq_true rfl) (Nat.le_of_ble_eq_true rfl) (tz_ret dL_act_217 rfl rfl (CM := 5) ⟨Nat.le_of_ble_eq_true rfl, Nat.le_of_ble_eq_true rfl⟩ (Nat.le_of_ble_eq_true rfl) h)))))))))))))))))))))))))
  replace h := tl_in h c8_2
  by_cases c8_3 : (x2 - x2 / 16 * 16).toInt = 3
  · replace h := tl_ip h c8_3
    refine tl_tableIn (off := 120) (tgt := 180) dL_act_60 (by omega) (by omega) (by rw [c8_3]; rfl) (by decide) ?_
    obtain ⟨x9, u11, e10, h⟩ := tl_b2i h
    obtain ⟨g12, h⟩ := tl_gi h
    obtain ⟨x13, u15, e14, h⟩ := tl_b2i h
    exact tl_aload_n dL_act_180 rfl (tl_iload dL_act_181 rfl (tl_iload_n dL_act_183 rfl (tl_iconst (v := 3) dL_act_184 ic_3 (tl_idiv dL_act_185 (by decide) (tl_aload_n dL_act_186 rfl (tl_iconst (v := 3) dL_act_187 ic_3 (tl_iload dL_act_188 rfl (tl_iconst (v := 0) dL_act_190 ic_0 (tl_iconst (v := 0) dL_act_191 ic_0 (tz_cS5 (lL_call h1 e10) dL_act_192 cs_L_act_189 (c := 1) ⟨rfl, rfl⟩ (k2 := 4) (Nat.le_of_ble_eq_true rfl) (CM := 5) ⟨Nat.le_of_ble_eq_true rfl, Nat.le_of_ble_eq_true rfl⟩ (Nat.le_of_ble_eq_true rfl) (Nat.le_of_ble_eq_true rfl) (tl_irem dL_act_195 g12 (tl_iconst (v := 1) dL_act_196 ic_1 (tl_iload_n dL_act_197 rfl (tl_sipush (v := 180) dL_act_198 sp_180 (tl_idiv dL_act_201 (by decide) (tl_bipush (v := 9) dL_act_202 bp_9 (tl_irem dL_act_204 (by decide) (tl_iadd dL_act_205 (tl_iload_n dL_act_206 rfl (tl_sipush (v := 1620) dL_act_207 sp_1620 (tl_idiv dL_act_210 (by decide) (tl_bipush (v := 100) dL_act_211 bp_100 (tl_irem dL_act_213 (by decide) (tz_cH5 (lL_lamps h1 e14) dL_act_214 cs_L_act_193 (c := 1) ⟨rfl, rfl⟩ (k2 := 5) (Nat.le_of_ble_eq_true rfl) (CM := 5) ⟨Nat.le_of_ble_eq_true rfl, Nat.le_of_ble_eq_true rfl⟩ (Nat.le_of_ble_eq_true rfl) (Nat.le_of_ble_eq_true rfl) (tz_ret dL_act_217 rfl rfl (CM := 5) ⟨Nat.le_of_ble_eq_true rfl, Nat.le_of_ble_eq_true rfl⟩ (Nat.le_of_ble_eq_true rfl) h)))))))))))))))))))))))))
  replace h := tl_in h c8_3
  by_cases c8_4 : (x2 - x2 / 16 * 16).toInt = 4
  · replace h := tl_ip h c8_4
    refine tl_tableIn (off := 158) (tgt := 218) dL_act_60 (by omega) (by omega) (by rw [c8_4]; rfl) (by decide) ?_
    obtain ⟨x9, u11, e10, h⟩ := tl_b2i h
    obtain ⟨g12, h⟩ := tl_gi h
    obtain ⟨x13, u15, e14, h⟩ := tl_b2i h
    exact tl_aload_n dL_act_218 rfl (tl_bipush (v := 13) dL_act_219 bp_13 (tl_iload dL_act_221 rfl (tl_iload dL_act_223 rfl (tl_iload_n dL_act_225 rfl (tl_bipush (v := 24) dL_act_226 bp_24 (tl_idiv dL_act_228 (by decide) (tl_aload_n dL_act_229 rfl (tl_iconst (v := 3) dL_act_230 ic_3 (tl_iload dL_act_231 rfl (tl_iconst (v := 0) dL_act_233 ic_0 (tl_iconst (v := 0) dL_act_234 ic_0 (tz_cS5 (lL_call h1 e10) dL_act_235 cs_L_act_189 (c := 1) ⟨rfl, rfl⟩ (k2 := 4) (Nat.le_of_ble_eq_true rfl) (CM := 5) ⟨Nat.le_of_ble_eq_true rfl, Nat.le_of_ble_eq_true rfl⟩ (Nat.le_of_ble_eq_true rfl) (Nat.le_of_ble_eq_true rfl) (tl_irem dL_act_238 g12 (tz_cS5 (lL_call h1 e14) dL_act_239 cs_L_act_189 (c := 1) ⟨rfl, rfl⟩ (k2 := 5) (Nat.le_of_ble_eq_true rfl) (CM := 5) ⟨Nat.le_of_ble_eq_true rfl, Nat.le_of_ble_eq_true rfl⟩ (Nat.le_of_ble_eq_true rfl) (Nat.le_of_ble_eq_true rfl) (tz_ret dL_act_242 rfl rfl (CM := 5) ⟨Nat.le_of_ble_eq_true rfl, Nat.le_of_ble_eq_true rfl⟩ (Nat.le_of_ble_eq_true rfl) h)))))))))))))))
  replace h := tl_in h c8_4
  by_cases c8_5 : (x2 - x2 / 16 * 16).toInt = 5
  · replace h := tl_ip h c8_5
    refine tl_tableIn (off := 158) (tgt := 218) dL_act_60 (by omega) (by omega) (by rw [c8_5]; rfl) (by decide) ?_
    obtain ⟨x9, u11, e10, h⟩ := tl_b2i h
    obtain ⟨g12, h⟩ := tl_gi h
    obtain ⟨x13, u15, e14, h⟩ := tl_b2i h
    exact tl_aload_n dL_act_218 rfl (tl_bipush (v := 13) dL_act_219 bp_13 (tl_iload dL_act_221 rfl (tl_iload dL_act_223 rfl (tl_iload_n dL_act_225 rfl (tl_bipush (v := 24) dL_act_226 bp_24 (tl_idiv dL_act_228 (by decide) (tl_aload_n dL_act_229 rfl (tl_iconst (v := 3) dL_act_230 ic_3 (tl_iload dL_act_231 rfl (tl_iconst (v := 0) dL_act_233 ic_0 (tl_iconst (v := 0) dL_act_234 ic_0 (tz_cS5 (lL_call h1 e10) dL_act_235 cs_L_act_189 (c := 1) ⟨rfl, rfl⟩ (k2 := 4) (Nat.le_of_ble_eq_true rfl) (CM := 5) ⟨Nat.le_of_ble_eq_true rfl, Nat.le_of_ble_eq_true rfl⟩ (Nat.le_of_ble_eq_true rfl) (Nat.le_of_ble_eq_true rfl) (tl_irem dL_act_238 g12 (tz_cS5 (lL_call h1 e14) dL_act_239 cs_L_act_189 (c := 1) ⟨rfl, rfl⟩ (k2 := 5) (Nat.le_of_ble_eq_true rfl) (CM := 5) ⟨Nat.le_of_ble_eq_true rfl, Nat.le_of_ble_eq_true rfl⟩ (Nat.le_of_ble_eq_true rfl) (Nat.le_of_ble_eq_true rfl) (tz_ret dL_act_242 rfl rfl (CM := 5) ⟨Nat.le_of_ble_eq_true rfl, Nat.le_of_ble_eq_true rfl⟩ (Nat.le_of_ble_eq_true rfl) h)))))))))))))))
  replace h := tl_in h c8_5
  by_cases c8_6 : (x2 - x2 / 16 * 16).toInt = 6
  · replace h := tl_ip h c8_6
    refine tl_tableIn (off := 183) (tgt := 243) dL_act_60 (by omega) (by omega) (by rw [c8_6]; rfl) (by decide) ?_
    obtain ⟨x9, u11, e10, h⟩ := tl_b2i h
    exact tl_aload_n dL_act_243 rfl (tl_bipush (v := 14) dL_act_244 bp_14 (tl_iload dL_act_246 rfl (tl_iconst (v := 1) dL_act_248 ic_1 (tl_iload_n dL_act_249 rfl (tl_bipush (v := 24) dL_act_250 bp_24 (tl_idiv dL_act_252 (by decide) (tl_bipush (v := 99) dL_act_253 bp_99 (tl_irem dL_act_255 (by decide) (tl_iadd dL_act_256 (tl_iconst (v := 0) dL_act_257 ic_0 (tz_cS5 (lL_call h1 e10) dL_act_258 cs_L_act_189 (c := 1) ⟨rfl, rfl⟩ (k2 := 4) (Nat.le_of_ble_eq_true rfl) (CM := 5) ⟨Nat.le_of_ble_eq_true rfl, Nat.le_of_ble_eq_true rfl⟩ (Nat.le_of_ble_eq_true rfl) (Nat.le_of_ble_eq_true rfl) (tz_ret dL_act_261 rfl rfl (CM := 5) ⟨Nat.le_of_ble_eq_true rfl, Nat.le_of_ble_eq_true rfl⟩ (Nat.le_of_ble_eq_true rfl) h))))))))))))
  replace h := tl_in h c8_6
  by_cases c8_7 : (x2 - x2 / 16 * 16).toInt = 7
  · replace h := tl_ip h c8_7
    refine tl_tableIn (off := 202) (tgt := 262) dL_act_60 (by omega) (by omega) (by rw [c8_7]; rfl) (by decide) ?_
    obtain ⟨x9, u11, e10, h⟩ := tl_b2i h
    exact tl_aload_n dL_act_262 rfl (tl_bipush (v := 15) dL_act_263 bp_15 (tl_iload_n dL_act_265 rfl (tl_iconst (v := 4) dL_act_266 ic_4 (tl_irem dL_act_267 (by decide) (tl_iconst (v := 0) dL_act_268 ic_0 (tl_iconst (v := 0) dL_act_269 ic_0 (tz_cS5 (lL_call h1 e10) dL_act_270 cs_L_act_189 (c := 1) ⟨rfl, rfl⟩ (k2 := 4) (Nat.le_of_ble_eq_true rfl) (CM := 5) ⟨Nat.le_of_ble_eq_true rfl, Nat.le_of_ble_eq_true rfl⟩ (Nat.le_of_ble_eq_true rfl) (Nat.le_of_ble_eq_true rfl) (tz_ret dL_act_273 rfl rfl (CM := 5) ⟨Nat.le_of_ble_eq_true rfl, Nat.le_of_ble_eq_true rfl⟩ (Nat.le_of_ble_eq_true rfl) h))))))))
  replace h := tl_in h c8_7
  by_cases c8_8 : (x2 - x2 / 16 * 16).toInt = 8
  · replace h := tl_ip h c8_8
    refine tl_tableIn (off := 214) (tgt := 274) dL_act_60 (by omega) (by omega) (by rw [c8_8]; rfl) (by decide) ?_
    refine tl_iload_n dL_act_274 rfl (tl_iconst (v := 2) dL_act_275 ic_2 (tl_irem dL_act_276 (by decide) (tl_if_ne (tgt := 297) dL_act_277 (by decide) (fun c9 => ?_) (fun c9 => ?_))))
    · replace h := tl_in h c9
      obtain ⟨x10, u12, e11, h⟩ := tl_b2i h
      exact tl_aload_n dL_act_297 rfl (tl_bipush (v := 16) dL_act_298 bp_16 (tl_iconst (v := 1) dL_act_300 ic_1 (tl_iload_n dL_act_301 rfl (tl_iconst (v := 2) dL_act_302 ic_2 (tl_idiv dL_act_303 (by decide) (tl_iconst (v := 2) dL_act_304 ic_2 (tl_irem dL_act_305 (by decide) (tl_iconst (v := 0) dL_act_306 ic_0 (tz_cS5 (lL_call h1 e11) dL_act_307 cs_L_act_189 (c := 1) ⟨rfl, rfl⟩ (k2 := 4) (Nat.le_of_ble_eq_true rfl) (CM := 5) ⟨Nat.le_of_ble_eq_true rfl, Nat.le_of_ble_eq_true rfl⟩ (Nat.le_of_ble_eq_true rfl) (Nat.le_of_ble_eq_true rfl) (tz_ret dL_act_310 rfl rfl (CM := 5) ⟨Nat.le_of_ble_eq_true rfl, Nat.le_of_ble_eq_true rfl⟩ (Nat.le_of_ble_eq_true rfl) h))))))))))
    · replace h := tl_ip h c9
      obtain ⟨x10, u12, e11, h⟩ := tl_b2i h
      exact tl_aload_n dL_act_280 rfl (tl_bipush (v := 16) dL_act_281 bp_16 (tl_iconst (v := 0) dL_act_283 ic_0 (tl_iload_n dL_act_284 rfl (tl_iconst (v := 2) dL_act_285 ic_2 (tl_idiv dL_act_286 (by decide) (tl_bipush (v := 13) dL_act_287 bp_13 (tl_irem dL_act_289 (by decide) (tl_iconst (v := 0) dL_act_290 ic_0 (tz_cS5 (lL_call h1 e11) dL_act_291 cs_L_act_189 (c := 1) ⟨rfl, rfl⟩ (k2 := 4) (Nat.le_of_ble_eq_true rfl) (CM := 5) ⟨Nat.le_of_ble_eq_true rfl, Nat.le_of_ble_eq_true rfl⟩ (Nat.le_of_ble_eq_true rfl) (Nat.le_of_ble_eq_true rfl) (tl_goto (tgt := 310) dL_act_294 (by decide) (tz_ret dL_act_310 rfl rfl (CM := 5) ⟨Nat.le_of_ble_eq_true rfl, Nat.le_of_ble_eq_true rfl⟩ (Nat.le_of_ble_eq_true rfl) h)))))))))))
  replace h := tl_in h c8_8
  by_cases c8_9 : (x2 - x2 / 16 * 16).toInt = 9
  · replace h := tl_ip h c8_9
    refine tl_tableIn (off := 251) (tgt := 311) dL_act_60 (by omega) (by omega) (by rw [c8_9]; rfl) (by decide) ?_
    refine tl_iload dL_act_311 rfl (tl_if_ne (tgt := 320) dL_act_313 (by decide) (fun c9 => ?_) (fun c9 => ?_))
    · replace h := tl_in h c9
      obtain ⟨g10, h⟩ := tl_gi h
      obtain ⟨x11, u13, e12, h⟩ := tl_b2i h
      exact tl_aload_n dL_act_320 rfl (tl_bipush (v := 11) dL_act_321 bp_11 (tl_iload_n dL_act_323 rfl (tl_iconst (v := 3) dL_act_324 ic_3 (tl_idiv dL_act_325 (by decide) (tl_iload dL_act_326 rfl (tl_irem dL_act_328 g10 (tl_iload dL_act_329 rfl (tl_iconst (v := 0) dL_act_331 ic_0 (tz_cS5 (lL_call h1 e12) dL_act_332 cs_L_act_189 (c := 1) ⟨rfl, rfl⟩ (k2 := 4) (Nat.le_of_ble_eq_true rfl) (CM := 5) ⟨Nat.le_of_ble_eq_true rfl, Nat.le_of_ble_eq_true rfl⟩ (Nat.le_of_ble_eq_true rfl) (Nat.le_of_ble_eq_true rfl) (tz_ret dL_act_335 rfl rfl (CM := 5) ⟨Nat.le_of_ble_eq_true rfl, Nat.le_of_ble_eq_true rfl⟩ (Nat.le_of_ble_eq_true rfl) h))))))))))
    · replace h := tl_ip h c9
      exact tz_fg (ls2 := [none, none, none, none, none, none, none, none]) trivial (tz_wd (k2 := 3) (Nat.le_of_ble_eq_true rfl) (lL_act_p316  h))
  replace h := tl_in h c8_9
  by_cases c8_10 : (x2 - x2 / 16 * 16).toInt = 10
  · replace h := tl_ip h c8_10
    refine tl_tableIn (off := 276) (tgt := 336) dL_act_60 (by omega) (by omega) (by rw [c8_10]; rfl) (by decide) ?_
    obtain ⟨x9, u11, e10, h⟩ := tl_b2i h
    refine tl_aload_n dL_act_336 rfl (tl_iconst (v := 2) dL_act_337 ic_2 (tl_iconst (v := 3) dL_act_338 ic_3 (tl_iconst (v := 0) dL_act_339 ic_0 (tl_iconst (v := 0) dL_act_340 ic_0 (tz_cS5 (lL_call h1 e10) dL_act_341 cs_L_act_189 (c := 1) ⟨rfl, rfl⟩ (k2 := 4) (Nat.le_of_ble_eq_true rfl) (CM := 5) ⟨Nat.le_of_ble_eq_true rfl, Nat.le_of_ble_eq_true rfl⟩ (Nat.le_of_ble_eq_true rfl) (Nat.le_of_ble_eq_true rfl) (tl_iconst (v := 2) dL_act_344 ic_2 (tl_icmp_ge (tgt := 352) dL_act_345 (by decide) (fun c12 => ?_) (fun c12 => ?_))))))))
    · replace h := tl_ip h c12
      obtain ⟨x13, u15, e14, h⟩ := tl_b2i h
      exact tl_aload_n dL_act_352 rfl (tl_bipush (v := 18) dL_act_353 bp_18 (tl_iconst (v := 0) dL_act_355 ic_0 (tl_iconst (v := 0) dL_act_356 ic_0 (tl_iconst (v := 0) dL_act_357 ic_0 (tz_cS5 (lL_call h1 e14) dL_act_358 cs_L_act_189 (c := 1) ⟨rfl, rfl⟩ (k2 := 5) (Nat.le_of_ble_eq_true rfl) (CM := 5) ⟨Nat.le_of_ble_eq_true rfl, Nat.le_of_ble_eq_true rfl⟩ (Nat.le_of_ble_eq_true rfl) (Nat.le_of_ble_eq_true rfl) (tz_ret dL_act_361 rfl rfl (CM := 5) ⟨Nat.le_of_ble_eq_true rfl, Nat.le_of_ble_eq_true rfl⟩ (Nat.le_of_ble_eq_true rfl) h))))))
    · replace h := tl_in h c12
      exact tl_iconst (v := (-1)) dL_act_348 ic_m1 (tl_goto (tgt := 361) dL_act_349 (by decide) (tz_ret dL_act_361 rfl rfl (CM := 5) ⟨Nat.le_of_ble_eq_true rfl, Nat.le_of_ble_eq_true rfl⟩ (Nat.le_of_ble_eq_true rfl) h))
  replace h := tl_in h c8_10
  have c8_11 : (x2 - x2 / 16 * 16).toInt = 11 := by omega
  refine tl_tableIn (off := 302) (tgt := 362) dL_act_60 (by omega) (by omega) (by rw [c8_11]; rfl) (by decide) ?_
  refine tl_iload_n dL_act_362 rfl (tl_iconst (v := 2) dL_act_363 ic_2 (tl_irem dL_act_364 (by decide) (tl_if_ne (tgt := 384) dL_act_365 (by decide) (fun c9 => ?_) (fun c9 => ?_))))
  · replace h := tl_in h c9
    obtain ⟨x10, u12, e11, h⟩ := tl_b2i h
    exact tl_aload_n dL_act_384 rfl (tl_bipush (v := 23) dL_act_385 bp_23 (tl_iload_n dL_act_387 rfl (tl_iconst (v := 2) dL_act_388 ic_2 (tl_idiv dL_act_389 (by decide) (tl_iconst (v := 2) dL_act_390 ic_2 (tl_irem dL_act_391 (by decide) (tl_iconst (v := 0) dL_act_392 ic_0 (tl_iconst (v := 0) dL_act_393 ic_0 (tz_cS5 (lL_call h1 e11) dL_act_394 cs_L_act_189 (c := 1) ⟨rfl, rfl⟩ (k2 := 4) (Nat.le_of_ble_eq_true rfl) (CM := 5) ⟨Nat.le_of_ble_eq_true rfl, Nat.le_of_ble_eq_true rfl⟩ (Nat.le_of_ble_eq_true rfl) (Nat.le_of_ble_eq_true rfl) (tz_ret dL_act_397 rfl rfl (CM := 5) ⟨Nat.le_of_ble_eq_true rfl, Nat.le_of_ble_eq_true rfl⟩ (Nat.le_of_ble_eq_true rfl) h))))))))))
  · replace h := tl_ip h c9
    obtain ⟨x10, u12, e11, h⟩ := tl_b2i h
    exact tl_aload_n dL_act_368 rfl (tl_bipush (v := 22) dL_act_369 bp_22 (tl_iload_n dL_act_371 rfl (tl_iconst (v := 2) dL_act_372 ic_2 (tl_idiv dL_act_373 (by decide) (tl_iconst (v := 2) dL_act_374 ic_2 (tl_irem dL_act_375 (by decide) (tl_iconst (v := 0) dL_act_376 ic_0 (tl_iconst (v := 0) dL_act_377 ic_0 (tz_cS5 (lL_call h1 e11) dL_act_378 cs_L_act_189 (c := 1) ⟨rfl, rfl⟩ (k2 := 4) (Nat.le_of_ble_eq_true rfl) (CM := 5) ⟨Nat.le_of_ble_eq_true rfl, Nat.le_of_ble_eq_true rfl⟩ (Nat.le_of_ble_eq_true rfl) (Nat.le_of_ble_eq_true rfl) (tl_goto (tgt := 397) dL_act_381 (by decide) (tz_ret dL_act_397 rfl rfl (CM := 5) ⟨Nat.le_of_ble_eq_true rfl, Nat.le_of_ble_eq_true rfl⟩ (Nat.le_of_ble_eq_true rfl) h)))))))))))

theorem lL_act {E : tl_E} {a1 : Nat} {x2 : Int32} {u : tz_U} {r : Int32} {v : tz_U} (h1 : tz_on E a1) (h : fL_act a1 x2 u = some (r, v)) : tz_ML E mL_act [.ref a1, .int x2] u r v := by
  unfold fL_act at h
  refine tl_start [some (.ref a1), some (.int x2), none, none, none, none, none, none] rfl rfl rfl (Nat.le_of_ble_eq_true rfl) (tz_st (tz_fg (ls2 := [some (.ref a1), some (.int x2), none, none, none, none, none, none]) (And.intro rfl (And.intro rfl trivial)) ?_))
  refine tl_iload_n dL_act_0 rfl (tl_bipush (v := 16) dL_act_1 bp_16 (tl_idiv dL_act_3 (by decide) (tz_isto_n dL_act_4 (Nat.le_of_ble_eq_true rfl) (fun x3 e => ?_))))
  have h := tl_leteq e h
  clear e
  obtain ⟨x4, u6, e5, h⟩ := tl_b2i h
  obtain ⟨x7, u9, e8, h⟩ := tl_b2i h
  obtain ⟨x10, u12, e11, h⟩ := tl_b2i h
  obtain ⟨g13, h⟩ := tl_gi h
  refine tl_aload_n dL_act_5 rfl (tl_iconst (v := 2) dL_act_6 ic_2 (tl_iconst (v := 0) dL_act_7 ic_0 (tl_iconst (v := 0) dL_act_8 ic_0 (tl_iconst (v := 0) dL_act_9 ic_0 (tz_cS5 (lL_call h1 e5) dL_act_10 cs_L_act_189 (c := 1) ⟨rfl, rfl⟩ (k2 := 1) (Nat.le_of_ble_eq_true rfl) (CM := 5) ⟨Nat.le_of_ble_eq_true rfl, Nat.le_of_ble_eq_true rfl⟩ (Nat.le_of_ble_eq_true rfl) (Nat.le_of_ble_eq_true rfl) (tl_istore_n dL_act_13 (Nat.le_of_ble_eq_true rfl) (tl_aload_n dL_act_14 rfl (tl_iconst (v := 2) dL_act_15 ic_2 (tl_iconst (v := 1) dL_act_16 ic_1 (tl_iconst (v := 0) dL_act_17 ic_0 (tl_iconst (v := 0) dL_act_18 ic_0 (tz_cS5 (lL_call h1 e8) dL_act_19 cs_L_act_189 (c := 1) ⟨rfl, rfl⟩ (k2 := 2) (Nat.le_of_ble_eq_true rfl) (CM := 5) ⟨Nat.le_of_ble_eq_true rfl, Nat.le_of_ble_eq_true rfl⟩ (Nat.le_of_ble_eq_true rfl) (Nat.le_of_ble_eq_true rfl) (tl_istore dL_act_22 (Nat.le_of_ble_eq_true rfl) (tl_aload_n dL_act_24 rfl (tl_iconst (v := 2) dL_act_25 ic_2 (tl_iconst (v := 2) dL_act_26 ic_2 (tl_iconst (v := 0) dL_act_27 ic_0 (tl_iconst (v := 0) dL_act_28 ic_0 (tz_cS5 (lL_call h1 e11) dL_act_29 cs_L_act_189 (c := 1) ⟨rfl, rfl⟩ (k2 := 3) (Nat.le_of_ble_eq_true rfl) (CM := 5) ⟨Nat.le_of_ble_eq_true rfl, Nat.le_of_ble_eq_true rfl⟩ (Nat.le_of_ble_eq_true rfl) (Nat.le_of_ble_eq_true rfl) (tl_istore dL_act_32 (Nat.le_of_ble_eq_true rfl) (tl_iload_n dL_act_34 rfl (tl_iload_n dL_act_35 rfl (tl_irem dL_act_36 g13 (tz_isto dL_act_37 (Nat.le_of_ble_eq_true rfl) (fun x14 e => ?_)))))))))))))))))))))))))
  have h := tl_leteq e h
  clear e
  refine tl_iload dL_act_39 rfl (tl_if_ne (tgt := 48) dL_act_41 (by decide) (fun c15 => ?_) (fun c15 => ?_))
  · replace h := tl_in h c15
    obtain ⟨g16, h⟩ := tl_gi h
    refine tl_iload_n dL_act_48 rfl (tl_iconst (v := 3) dL_act_49 ic_3 (tl_idiv dL_act_50 (by decide) (tl_iload dL_act_51 rfl (tl_irem dL_act_53 g16 (?_)))))
    exact tz_fg (ls2 := [some (.ref a1), some (.int x2), some (.int x3), none, some (.int x7), none, some (.int x14), none]) (And.intro rfl (And.intro rfl (And.intro rfl (And.intro rfl (And.intro rfl trivial))))) (tz_wd (k2 := 3) (Nat.le_of_ble_eq_true rfl) (lL_act_p54 h1 h))
  · replace h := tl_ip h c15
    refine tl_iconst (v := 0) dL_act_44 ic_0 (tl_goto (tgt := 54) dL_act_45 (by decide) (?_))
    exact tz_fg (ls2 := [some (.ref a1), some (.int x2), some (.int x3), none, some (.int x7), none, some (.int x14), none]) (And.intro rfl (And.intro rfl (And.intro rfl (And.intro rfl (And.intro rfl trivial))))) (tz_wd (k2 := 3) (Nat.le_of_ble_eq_true rfl) (lL_act_p54 h1 h))

theorem cs_L_alike_205 : tl_cH mL_alike mL_doSimulate hL_doSimulate 205 3 := ⟨cw_L_doSimulate, ml_L_205, sm_L_doSimulate, in_L, ⟨by decide, by decide, by decide +kernel⟩, Nat.le_of_ble_eq_true rfl, Nat.le_of_ble_eq_true rfl⟩
theorem cs_L_alike_189 : tl_cS mL_alike mL_call 189 5 := ⟨cd_L_call, ml_L_189, sm_L_call, in_L, ⟨by decide, by decide, by decide +kernel⟩, Nat.le_of_ble_eq_true rfl, Nat.le_of_ble_eq_true rfl⟩
theorem cs_L_alike_209 : tl_cV mL_alike mX9_doneIn 209 0 := ⟨cd_X9_doneIn, ml_L_209, im_X9_doneIn, se_X9_doneIn, in_X9, ⟨by decide, by decide, by decide +kernel⟩, Nat.le_of_ble_eq_true rfl, Nat.le_of_ble_eq_true rfl⟩
def fL_alike_p47 : Nat → Nat → Nat → Int32 → Int32 → Int32 → tz_U → Option (Int32 × tz_U)
  | 0, _, _, _, _, _, _ => none
  | fu + 1, a1, a2, x3, x4, x5, u =>
  (if 13 ≤ x5 then some (x4, u) else (if x4 = 0 then some (x4, u) else tl_b2 (fL_call a1 2 x5 0 0 u) (fun x8 u10 => tl_b2 (fL_call a2 2 x5 0 0 u10) (fun x11 u13 => (if x8 = x11 then tl_b2 (fL_call a1 3 (x3 - x3 / 3 * 3) x5 0 u13) (fun x15 u17 => tl_b2 (fL_call a2 3 (x3 - x3 / 3 * 3) x5 0 u17) (fun x18 u20 => (if x15 = x18 then tl_b2 (fL_call a1 5 x5 (x3 - x3 / 5 * 5) 0 u20) (fun x22 u24 => tl_b2 (fL_call a2 5 x5 (x3 - x3 / 5 * 5) 0 u24) (fun x25 u27 => (if x22 = x25 then tl_b2 (fL_call a1 7 x5 (x3 - x3 / 4 * 4) 0 u27) (fun x29 u31 => tl_b2 (fL_call a2 7 x5 (x3 - x3 / 4 * 4) 0 u31) (fun x32 u34 => (if x29 = x32 then tl_b2 (fL_call a1 6 x5 0 0 u34) (fun x36 u38 => tl_b2 (fL_call a2 6 x5 0 0 u38) (fun x39 u41 => (if x36 = x39 then tl_b2 (fL_call a1 4 x5 (x3 - x3 / 4 * 4) 0 u41) (fun x43 u45 => tl_b2 (fL_call a2 4 x5 (x3 - x3 / 4 * 4) 0 u45) (fun x46 u48 => (if x43 = x46 then tl_let (x5 + 1) (fun x50 => fL_alike_p47 fu a1 a2 x3 1 x50 u48) else tl_let (x5 + 1) (fun x50 => fL_alike_p47 fu a1 a2 x3 0 x50 u48)))) else tl_let (x5 + 1) (fun x43 => fL_alike_p47 fu a1 a2 x3 0 x43 u41)))) else tl_let (x5 + 1) (fun x36 => fL_alike_p47 fu a1 a2 x3 0 x36 u34)))) else tl_let (x5 + 1) (fun x29 => fL_alike_p47 fu a1 a2 x3 0 x29 u27)))) else tl_let (x5 + 1) (fun x22 => fL_alike_p47 fu a1 a2 x3 0 x22 u20)))) else tl_let (x5 + 1) (fun x15 => fL_alike_p47 fu a1 a2 x3 0 x15 u13))))))

def fL_alike_p43 (a1 : Nat) (a2 : Nat) (x3 : Int32) (x4 : Int32) (u : tz_U) : Option (Int32 × tz_U) :=
  tl_b (fL_alike_p47 14 a1 a2 x3 x4 0 u) (fun w5 => tl_g (w5.1 = 0 ∨ w5.1 = 1) (some (w5.1, w5.2)))

def fL_alike (a1 : Nat) (a2 : Nat) (x3 : Int32) (u : tz_U) : Option (Int32 × tz_U) :=
  tl_b2 (fL_doSimulate a1 ((x3 : Int32).toInt64) (1 + (x3 - x3 / 20 * 20)) u) (fun x4 u6 => tl_b2 (fL_doSimulate a2 ((x3 : Int32).toInt64) (1 + (x3 - x3 / 20 * 20)) u6) (fun x7 u9 => (if x4 = x7 then tl_b2 (fL_doneIn a1 u9) (fun x11 u13 => tl_b2 (fL_doneIn a2 u13) (fun x14 u16 => (if x11 = x14 then fL_alike_p43 a1 a2 x3 1 u16 else fL_alike_p43 a1 a2 x3 0 u16))) else fL_alike_p43 a1 a2 x3 0 u9)))

theorem lL_alike_p47 {E : tl_E} {X : State → Array Value → Code → Prop} {Z : List Frame → Array Value → State → State → Prop} {kE : Nat} : ∀ (n : Nat) (a1 : Nat) (a2 : Nat) (x3 : Int32) (x4 : Int32) (x5 : Int32) (u : tz_U) (w : Int32 × tz_U) (k : Nat), tz_on E a1 → tz_on E a2 → fL_alike_p47 n a1 a2 x3 x4 x5 u = some w → k + n * 12 ≤ kE → kE ≤ 170 → tz_R E mL_alike X Z kE (tz_HU E w.2) 216 [none, none, none, some (.int w.1), none] [] → tz_R E mL_alike X Z k (tz_HU E u) 47 [some (.ref a1), some (.ref a2), some (.int x3), some (.int x4), some (.int x5)] [] := by
  intro n
  induction n with
  | zero => intro a1 a2 x3 x4 x5 u w k h1 h2 h; exact absurd h (by simp [fL_alike_p47])
  | succ n ih =>
    intro a1 a2 x3 x4 x5 u w k h1 h2 h hk hE kk
    rw [fL_alike_p47] at h
    refine tl_iload dL_alike_47 rfl (tl_bipush (v := 13) dL_alike_49 bp_13 (tl_icmp_ge (tgt := 216) dL_alike_51 (by decide) (fun c6 => ?_) (fun c6 => ?_)))
    · replace h := tl_ip h c6
      cases h
      exact tz_fg (ls2 := [none, none, none, some (.int x4), none]) (And.intro rfl trivial) (tz_wd (k2 := kE) (by omega) kk)
    · replace h := tl_in h c6
      refine tl_iload_n dL_alike_54 rfl (tl_if_eq (tgt := 216) dL_alike_55 (by decide) (fun c7 => ?_) (fun c7 => ?_))
      · replace h := tl_ip h c7
        cases h
        exact tz_fg (ls2 := [none, none, none, some (.int x4), none]) (And.intro rfl trivial) (tz_wd (k2 := kE) (by omega) kk)
      · replace h := tl_in h c7
        obtain ⟨x8, u10, e9, h⟩ := tl_b2i h
        obtain ⟨x11, u13, e12, h⟩ := tl_b2i h
        refine tl_aload_n dL_alike_58 rfl (tl_iconst (v := 2) dL_alike_59 ic_2 (tl_iload dL_alike_60 rfl (tl_iconst (v := 0) dL_alike_62 ic_0 (tl_iconst (v := 0) dL_alike_63 ic_0 (tz_cS5 (lL_call h1 e9) dL_alike_64 cs_L_alike_189 (c := 1) ⟨rfl, rfl⟩ (k2 := (k + 1)) (by omega) (CM := 170) ⟨Nat.le_of_ble_eq_true rfl, Nat.le_of_ble_eq_true rfl⟩ (by omega : (k + 1) ≤ 170) (Nat.le_of_ble_eq_true rfl) (tl_aload_n dL_alike_67 rfl (tl_iconst (v := 2) dL_alike_68 ic_2 (tl_iload dL_alike_69 rfl (tl_iconst (v := 0) dL_alike_71 ic_0 (tl_iconst (v := 0) dL_alike_72 ic_0 (tz_cS5 (lL_call h2 e12) dL_alike_73 cs_L_alike_189 (c := 1) ⟨rfl, rfl⟩ (k2 := (k + 2)) (by omega) (CM := 170) ⟨Nat.le_of_ble_eq_true rfl, Nat.le_of_ble_eq_true rfl⟩ (by omega : (k + 2) ≤ 170) (Nat.le_of_ble_eq_true rfl) (tl_icmp_ne (tgt := 208) dL_alike_76 (by decide) (fun c14 => ?_) (fun c14 => ?_)))))))))))))
        · replace h := tl_in h c14
          refine tl_iconst (v := 0) dL_alike_208 ic_0 (tl_istore_n dL_alike_209 (Nat.le_of_ble_eq_true rfl) (tz_iincK dL_alike_210 rfl (ii_1 _) (Nat.le_of_ble_eq_true rfl) (fun x15 e => ?_)))
          have h := tl_leteq e h
          clear e
          refine tl_goto (tgt := 47) dL_alike_213 (by decide) (?_)
          exact tz_fg (ls2 := [some (.ref a1), some (.ref a2), some (.int x3), some (.int 0), some (.int x15)]) (And.intro rfl (And.intro rfl (And.intro rfl (And.intro rfl (And.intro rfl trivial))))) (tz_wd (k2 := k + 12) (by omega) (ih _ _ _ _ _ _ _ (k + 12) h1 h2 h (by omega) hE kk))
        · replace h := tl_ip h c14
          obtain ⟨x15, u17, e16, h⟩ := tl_b2i h
          obtain ⟨x18, u20, e19, h⟩ := tl_b2i h
          refine tl_aload_n dL_alike_79 rfl (tl_iconst (v := 3) dL_alike_80 ic_3 (tl_iload_n dL_alike_81 rfl (tl_iconst (v := 3) dL_alike_82 ic_3 (tl_irem dL_alike_83 (by decide) (tl_iload dL_alike_84 rfl (tl_iconst (v := 0) dL_alike_86 ic_0 (tz_cS5 (lL_call h1 e16) dL_alike_87 cs_L_alike_189 (c := 1) ⟨rfl, rfl⟩ (k2 := (k + 3)) (by omega) (CM := 170) ⟨Nat.le_of_ble_eq_true rfl, Nat.le_of_ble_eq_true rfl⟩ (by omega : (k + 3) ≤ 170) (Nat.le_of_ble_eq_true rfl) (tl_aload_n dL_alike_90 rfl (tl_iconst (v := 3) dL_alike_91 ic_3 (tl_iload_n dL_alike_92 rfl (tl_iconst (v := 3) dL_alike_93 ic_3 (tl_irem dL_alike_94 (by decide) (tl_iload dL_alike_95 rfl (tl_iconst (v := 0) dL_alike_97 ic_0 (tz_cS5 (lL_call h2 e19) dL_alike_98 cs_L_alike_189 (c := 1) ⟨rfl, rfl⟩ (k2 := (k + 4)) (by omega) (CM := 170) ⟨Nat.le_of_ble_eq_true rfl, Nat.le_of_ble_eq_true rfl⟩ (by omega : (k + 4) ≤ 170) (Nat.le_of_ble_eq_true rfl) (tl_icmp_ne (tgt := 208) dL_alike_101 (by decide) (fun c21 => ?_) (fun c21 => ?_)))))))))))))))))
          · replace h := tl_in h c21
            refine tl_iconst (v := 0) dL_alike_208 ic_0 (tl_istore_n dL_alike_209 (Nat.le_of_ble_eq_true rfl) (tz_iincK dL_alike_210 rfl (ii_1 _) (Nat.le_of_ble_eq_true rfl) (fun x22 e => ?_)))
            have h := tl_leteq e h
            clear e
            refine tl_goto (tgt := 47) dL_alike_213 (by decide) (?_)
            exact tz_fg (ls2 := [some (.ref a1), some (.ref a2), some (.int x3), some (.int 0), some (.int x22)]) (And.intro rfl (And.intro rfl (And.intro rfl (And.intro rfl (And.intro rfl trivial))))) (tz_wd (k2 := k + 12) (by omega) (ih _ _ _ _ _ _ _ (k + 12) h1 h2 h (by omega) hE kk))
          · replace h := tl_ip h c21
            obtain ⟨x22, u24, e23, h⟩ := tl_b2i h
            obtain ⟨x25, u27, e26, h⟩ := tl_b2i h
            refine tl_aload_n dL_alike_104 rfl (tl_iconst (v := 5) dL_alike_105 ic_5 (tl_iload dL_alike_106 rfl (tl_iload_n dL_alike_108 rfl (tl_iconst (v := 5) dL_alike_109 ic_5 (tl_irem dL_alike_110 (by decide) (tl_iconst (v := 0) dL_alike_111 ic_0 (tz_cS5 (lL_call h1 e23) dL_alike_112 cs_L_alike_189 (c := 1) ⟨rfl, rfl⟩ (k2 := (k + 5)) (by omega) (CM := 170) ⟨Nat.le_of_ble_eq_true rfl, Nat.le_of_ble_eq_true rfl⟩ (by omega : (k + 5) ≤ 170) (Nat.le_of_ble_eq_true rfl) (tl_aload_n dL_alike_115 rfl (tl_iconst (v := 5) dL_alike_116 ic_5 (tl_iload dL_alike_117 rfl (tl_iload_n dL_alike_119 rfl (tl_iconst (v := 5) dL_alike_120 ic_5 (tl_irem dL_alike_121 (by decide) (tl_iconst (v := 0) dL_alike_122 ic_0 (tz_cS5 (lL_call h2 e26) dL_alike_123 cs_L_alike_189 (c := 1) ⟨rfl, rfl⟩ (k2 := (k + 6)) (by omega) (CM := 170) ⟨Nat.le_of_ble_eq_true rfl, Nat.le_of_ble_eq_true rfl⟩ (by omega : (k + 6) ≤ 170) (Nat.le_of_ble_eq_true rfl) (tl_icmp_ne (tgt := 208) dL_alike_126 (by decide) (fun c28 => ?_) (fun c28 => ?_)))))))))))))))))
            · replace h := tl_in h c28
              refine tl_iconst (v := 0) dL_alike_208 ic_0 (tl_istore_n dL_alike_209 (Nat.le_of_ble_eq_true rfl) (tz_iincK dL_alike_210 rfl (ii_1 _) (Nat.le_of_ble_eq_true rfl) (fun x29 e => ?_)))
              have h := tl_leteq e h
              clear e
              refine tl_goto (tgt := 47) dL_alike_213 (by decide) (?_)
              exact tz_fg (ls2 := [some (.ref a1), some (.ref a2), some (.int x3), some (.int 0), some (.int x29)]) (And.intro rfl (And.intro rfl (And.intro rfl (And.intro rfl (And.intro rfl trivial))))) (tz_wd (k2 := k + 12) (by omega) (ih _ _ _ _ _ _ _ (k + 12) h1 h2 h (by omega) hE kk))
            · replace h := tl_ip h c28
              obtain ⟨x29, u31, e30, h⟩ := tl_b2i h
              obtain ⟨x32, u34, e33, h⟩ := tl_b2i h
              refine tl_aload_n dL_alike_129 rfl (tl_bipush (v := 7) dL_alike_130 bp_7 (tl_iload dL_alike_132 rfl (tl_iload_n dL_alike_134 rfl (tl_iconst (v := 4) dL_alike_135 ic_4 (tl_irem dL_alike_136 (by decide) (tl_iconst (v := 0) dL_alike_137 ic_0 (tz_cS5 (lL_call h1 e30) dL_alike_138 cs_L_alike_189 (c := 1) ⟨rfl, rfl⟩ (k2 := (k + 7)) (by omega) (CM := 170) ⟨Nat.le_of_ble_eq_true rfl, Nat.le_of_ble_eq_true rfl⟩ (by omega : (k + 7) ≤ 170) (Nat.le_of_ble_eq_true rfl) (tl_aload_n dL_alike_141 rfl (tl_bipush (v := 7) dL_alike_142 bp_7 (tl_iload dL_alike_144 rfl (tl_iload_n dL_alike_146 rfl (tl_iconst (v := 4) dL_alike_147 ic_4 (tl_irem dL_alike_148 (by decide) (tl_iconst (v := 0) dL_alike_149 ic_0 (tz_cS5 (lL_call h2 e33) dL_alike_150 cs_L_alike_189 (c := 1) ⟨rfl, rfl⟩ (k2 := (k + 8)) (by omega) (CM := 170) ⟨Nat.le_of_ble_eq_true rfl, Nat.le_of_ble_eq_true rfl⟩ (by omega : (k + 8) ≤ 170) (Nat.le_of_ble_eq_true rfl) (tl_icmp_ne (tgt := 208) dL_alike_153 (by decide) (fun c35 => ?_) (fun c35 => ?_)))))))))))))))))
              · replace h := tl_in h c35
                refine tl_iconst (v := 0) dL_alike_208 ic_0 (tl_istore_n dL_alike_209 (Nat.le_of_ble_eq_true rfl) (tz_iincK dL_alike_210 rfl (ii_1 _) (Nat.le_of_ble_eq_true rfl) (fun x36 e => ?_)))
                have h := tl_leteq e h
                clear e
                refine tl_goto (tgt := 47) dL_alike_213 (by decide) (?_)
                exact tz_fg (ls2 := [some (.ref a1), some (.ref a2), some (.int x3), some (.int 0), some (.int x36)]) (And.intro rfl (And.intro rfl (And.intro rfl (And.intro rfl (And.intro rfl trivial))))) (tz_wd (k2 := k + 12) (by omega) (ih _ _ _ _ _ _ _ (k + 12) h1 h2 h (by omega) hE kk))
              · replace h := tl_ip h c35
                obtain ⟨x36, u38, e37, h⟩ := tl_b2i h
                obtain ⟨x39, u41, e40, h⟩ := tl_b2i h
                refine tl_aload_n dL_alike_156 rfl (tl_bipush (v := 6) dL_alike_157 bp_6 (tl_iload dL_alike_159 rfl (tl_iconst (v := 0) dL_alike_161 ic_0 (tl_iconst (v := 0) dL_alike_162 ic_0 (tz_cS5 (lL_call h1 e37) dL_alike_163 cs_L_alike_189 (c := 1) ⟨rfl, rfl⟩ (k2 := (k + 9)) (by omega) (CM := 170) ⟨Nat.le_of_ble_eq_true rfl, Nat.le_of_ble_eq_true rfl⟩ (by omega : (k + 9) ≤ 170) (Nat.le_of_ble_eq_true rfl) (tl_aload_n dL_alike_166 rfl (tl_bipush (v := 6) dL_alike_167 bp_6 (tl_iload dL_alike_169 rfl (tl_iconst (v := 0) dL_alike_171 ic_0 (tl_iconst (v := 0) dL_alike_172 ic_0 (tz_cS5 (lL_call h2 e40) dL_alike_173 cs_L_alike_189 (c := 1) ⟨rfl, rfl⟩ (k2 := (k + 10)) (by omega) (CM := 170) ⟨Nat.le_of_ble_eq_true rfl, Nat.le_of_ble_eq_true rfl⟩ (by omega : (k + 10) ≤ 170) (Nat.le_of_ble_eq_true rfl) (tl_icmp_ne (tgt := 208) dL_alike_176 (by decide) (fun c42 => ?_) (fun c42 => ?_)))))))))))))
                · replace h := tl_in h c42
                  refine tl_iconst (v := 0) dL_alike_208 ic_0 (tl_istore_n dL_alike_209 (Nat.le_of_ble_eq_true rfl) (tz_iincK dL_alike_210 rfl (ii_1 _) (Nat.le_of_ble_eq_true rfl) (fun x43 e => ?_)))
                  have h := tl_leteq e h
                  clear e
                  refine tl_goto (tgt := 47) dL_alike_213 (by decide) (?_)
                  exact tz_fg (ls2 := [some (.ref a1), some (.ref a2), some (.int x3), some (.int 0), some (.int x43)]) (And.intro rfl (And.intro rfl (And.intro rfl (And.intro rfl (And.intro rfl trivial))))) (tz_wd (k2 := k + 12) (by omega) (ih _ _ _ _ _ _ _ (k + 12) h1 h2 h (by omega) hE kk))
                · replace h := tl_ip h c42
                  obtain ⟨x43, u45, e44, h⟩ := tl_b2i h
                  obtain ⟨x46, u48, e47, h⟩ := tl_b2i h
                  refine tl_aload_n dL_alike_179 rfl (tl_iconst (v := 4) dL_alike_180 ic_4 (tl_iload dL_alike_181 rfl (tl_iload_n dL_alike_183 rfl (tl_iconst (v := 4) dL_alike_184 ic_4 (tl_irem dL_alike_185 (by decide) (tl_iconst (v := 0) dL_alike_186 ic_0 (tz_cS5 (lL_call h1 e44) dL_alike_187 cs_L_alike_189 (c := 1) ⟨rfl, rfl⟩ (k2 := (k + 11)) (by omega) (CM := 170) ⟨Nat.le_of_ble_eq_true rfl, Nat.le_of_ble_eq_true rfl⟩ (by omega : (k + 11) ≤ 170) (Nat.le_of_ble_eq_true rfl) (tl_aload_n dL_alike_190 rfl (tl_iconst (v := 4) dL_alike_191 ic_4 (tl_iload dL_alike_192 rfl (tl_iload_n dL_alike_194 rfl (tl_iconst (v := 4) dL_alike_195 ic_4 (tl_irem dL_alike_196 (by decide) (tl_iconst (v := 0) dL_alike_197 ic_0 (tz_cS5 (lL_call h2 e47) dL_alike_198 cs_L_alike_189 (c := 1) ⟨rfl, rfl⟩ (k2 := (k + 12)) (by omega) (CM := 170) ⟨Nat.le_of_ble_eq_true rfl, Nat.le_of_ble_eq_true rfl⟩ (by omega : (k + 12) ≤ 170) (Nat.le_of_ble_eq_true rfl) (tl_icmp_ne (tgt := 208) dL_alike_201 (by decide) (fun c49 => ?_) (fun c49 => ?_)))))))))))))))))
                  · replace h := tl_in h c49
                    refine tl_iconst (v := 0) dL_alike_208 ic_0 (tl_istore_n dL_alike_209 (Nat.le_of_ble_eq_true rfl) (tz_iincK dL_alike_210 rfl (ii_1 _) (Nat.le_of_ble_eq_true rfl) (fun x50 e => ?_)))
                    have h := tl_leteq e h
                    clear e
                    refine tl_goto (tgt := 47) dL_alike_213 (by decide) (?_)
                    exact tz_fg (ls2 := [some (.ref a1), some (.ref a2), some (.int x3), some (.int 0), some (.int x50)]) (And.intro rfl (And.intro rfl (And.intro rfl (And.intro rfl (And.intro rfl trivial))))) (tz_wd (k2 := k + 12) (by omega) (ih _ _ _ _ _ _ _ (k + 12) h1 h2 h (by omega) hE kk))
                  · replace h := tl_ip h c49
                    refine tl_iconst (v := 1) dL_alike_204 ic_1 (tl_goto (tgt := 209) dL_alike_205 (by decide) (tl_istore_n dL_alike_209 (Nat.le_of_ble_eq_true rfl) (tz_iincK dL_alike_210 rfl (ii_1 _) (Nat.le_of_ble_eq_true rfl) (fun x50 e => ?_))))
                    have h := tl_leteq e h
                    clear e
                    refine tl_goto (tgt := 47) dL_alike_213 (by decide) (?_)
                    exact tz_fg (ls2 := [some (.ref a1), some (.ref a2), some (.int x3), some (.int 1), some (.int x50)]) (And.intro rfl (And.intro rfl (And.intro rfl (And.intro rfl (And.intro rfl trivial))))) (tz_wd (k2 := k + 12) (by omega) (ih _ _ _ _ _ _ _ (k + 12) h1 h2 h (by omega) hE kk))

theorem lL_alike_p43 {E : tl_E} {a1 : Nat} {a2 : Nat} {x3 : Int32} {x4 : Int32} {u : tz_U} {r : Int32} {v : tz_U} (h1 : tz_on E a1) (h2 : tz_on E a2) (h : fL_alike_p43 a1 a2 x3 x4 u = some (r, v)) : tz_R E mL_alike tl_X0 (tl_Z E mL_alike (tz_Q E r v)) 2 (tz_HU E u) 43 [some (.ref a1), some (.ref a2), some (.int x3), none, none] [.int x4] := by
  unfold fL_alike_p43 at h
  refine tl_istore_n dL_alike_43 (Nat.le_of_ble_eq_true rfl) (tl_iconst (v := 0) dL_alike_44 ic_0 (tl_istore dL_alike_45 (Nat.le_of_ble_eq_true rfl) (?_)))
  refine tz_fg (ls2 := [some (.ref a1), some (.ref a2), some (.int x3), some (.int x4), some (.int 0)]) (And.intro rfl (And.intro rfl (And.intro rfl (And.intro rfl (And.intro rfl trivial))))) ?_
  obtain ⟨w5, e6, h⟩ := tl_bi h
  refine lL_alike_p47 14 _ _ _ _ _ _ w5 2 h1 h2 e6 (kE := 170) (Nat.le_of_ble_eq_true rfl) (Nat.le_of_ble_eq_true rfl) ?_
  obtain ⟨g7, h⟩ := tl_gi h
  exact tl_iload_n dL_alike_216 rfl (tz_ret dL_alike_217 rfl (tl_nB g7).1 (CM := 170) ⟨Nat.le_of_ble_eq_true rfl, Nat.le_of_ble_eq_true rfl⟩ (Nat.le_of_ble_eq_true rfl) h)

theorem lL_alike {E : tl_E} {a1 : Nat} {a2 : Nat} {x3 : Int32} {u : tz_U} {r : Int32} {v : tz_U} (h1 : tz_on E a1) (h2 : tz_on E a2) (h : fL_alike a1 a2 x3 u = some (r, v)) : tz_ML E mL_alike [.ref a1, .ref a2, .int x3] u r v := by
  unfold fL_alike at h
  refine tl_start [some (.ref a1), some (.ref a2), some (.int x3), none, none] rfl rfl rfl (Nat.le_of_ble_eq_true rfl) (tz_st (tz_fg (ls2 := [some (.ref a1), some (.ref a2), some (.int x3), none, none]) (And.intro rfl (And.intro rfl (And.intro rfl trivial))) ?_))
  obtain ⟨x4, u6, e5, h⟩ := tl_b2i h
  obtain ⟨x7, u9, e8, h⟩ := tl_b2i h
  refine tl_aload_n dL_alike_0 rfl (tl_iload_n dL_alike_1 rfl (tl_i2l dL_alike_2 (tl_iconst (v := 1) dL_alike_3 ic_1 (tl_iload_n dL_alike_4 rfl (tl_bipush (v := 20) dL_alike_5 bp_20 (tl_irem dL_alike_7 (by decide) (tl_iadd dL_alike_8 (tz_cH3 (lL_doSimulate h1 e5) dL_alike_9 cs_L_alike_205 (c := 1) ⟨rfl, rfl⟩ (k2 := 1) (Nat.le_of_ble_eq_true rfl) (CM := 170) ⟨Nat.le_of_ble_eq_true rfl, Nat.le_of_ble_eq_true rfl⟩ (Nat.le_of_ble_eq_true rfl) (Nat.le_of_ble_eq_true rfl) (tl_aload_n dL_alike_12 rfl (tl_iload_n dL_alike_13 rfl (tl_i2l dL_alike_14 (tl_iconst (v := 1) dL_alike_15 ic_1 (tl_iload_n dL_alike_16 rfl (tl_bipush (v := 20) dL_alike_17 bp_20 (tl_irem dL_alike_19 (by decide) (tl_iadd dL_alike_20 (tz_cH3 (lL_doSimulate h2 e8) dL_alike_21 cs_L_alike_205 (c := 1) ⟨rfl, rfl⟩ (k2 := 2) (Nat.le_of_ble_eq_true rfl) (CM := 170) ⟨Nat.le_of_ble_eq_true rfl, Nat.le_of_ble_eq_true rfl⟩ (Nat.le_of_ble_eq_true rfl) (Nat.le_of_ble_eq_true rfl) (tl_icmp_ne (tgt := 42) dL_alike_24 (by decide) (fun c10 => ?_) (fun c10 => ?_)))))))))))))))))))
  · replace h := tl_in h c10
    refine tl_iconst (v := 0) dL_alike_42 ic_0 (?_)
    exact tz_fg (ls2 := [some (.ref a1), some (.ref a2), some (.int x3), none, none]) (And.intro rfl (And.intro rfl (And.intro rfl trivial))) (tz_wd (k2 := 2) (Nat.le_of_ble_eq_true rfl) (lL_alike_p43 h1 h2 h))
  · replace h := tl_ip h c10
    obtain ⟨x11, u13, e12, h⟩ := tl_b2i h
    obtain ⟨x14, u16, e15, h⟩ := tl_b2i h
    refine tl_aload_n dL_alike_27 rfl (tz_cD h1 (lL_doneIn h1 e12) rfl dL_alike_28 cs_L_alike_209 (c := 0) ⟨rfl, rfl⟩ (k2 := 2) (Nat.le_of_ble_eq_true rfl) (CM := 170) ⟨Nat.le_of_ble_eq_true rfl, Nat.le_of_ble_eq_true rfl⟩ (Nat.le_of_ble_eq_true rfl) (Nat.le_of_ble_eq_true rfl) (tl_aload_n dL_alike_31 rfl (tz_cD h2 (lL_doneIn h2 e15) rfl dL_alike_32 cs_L_alike_209 (c := 0) ⟨rfl, rfl⟩ (k2 := 2) (Nat.le_of_ble_eq_true rfl) (CM := 170) ⟨Nat.le_of_ble_eq_true rfl, Nat.le_of_ble_eq_true rfl⟩ (Nat.le_of_ble_eq_true rfl) (Nat.le_of_ble_eq_true rfl) (tl_icmp_ne (tgt := 42) dL_alike_35 (by decide) (fun c17 => ?_) (fun c17 => ?_)))))
    · replace h := tl_in h c17
      refine tl_iconst (v := 0) dL_alike_42 ic_0 (?_)
      exact tz_fg (ls2 := [some (.ref a1), some (.ref a2), some (.int x3), none, none]) (And.intro rfl (And.intro rfl (And.intro rfl trivial))) (tz_wd (k2 := 2) (Nat.le_of_ble_eq_true rfl) (lL_alike_p43 h1 h2 h))
    · replace h := tl_ip h c17
      refine tl_iconst (v := 1) dL_alike_38 ic_1 (tl_goto (tgt := 43) dL_alike_39 (by decide) (?_))
      exact tz_fg (ls2 := [some (.ref a1), some (.ref a2), some (.int x3), none, none]) (And.intro rfl (And.intro rfl (And.intro rfl trivial))) (tz_wd (k2 := 2) (Nat.le_of_ble_eq_true rfl) (lL_alike_p43 h1 h2 h))

theorem cs_L_waits_189 : tl_cS mL_waits mL_call 189 5 := ⟨cd_L_call, ml_L_189, sm_L_call, in_L, ⟨by decide, by decide, by decide +kernel⟩, Nat.le_of_ble_eq_true rfl, Nat.le_of_ble_eq_true rfl⟩
def fL_waits_p5 : Nat → Nat → Nat → Int32 → Int32 → tz_U → Option (Int32 × tz_U)
  | 0, _, _, _, _, _ => none
  | fu + 1, a1, a2, x3, x4, u =>
  (if x4 ≤ 0 then some (x3, u) else (if x3 = 0 then some (x3, u) else tl_k (fun (y10 : Int32) (u11 : tz_U) => tl_b2 (fL_call a1 17 y10 0 0 u11) (fun x12 u14 => (if x12 < 0 then tl_let (x4 + (-60)) (fun x16 => fL_waits_p5 fu a1 a2 0 x16 u14) else tl_b2 (fL_call a2 17 y10 0 0 u14) (fun x16 u18 => (if x16 = x12 then tl_let (x4 + (-60)) (fun x20 => fL_waits_p5 fu a1 a2 1 x20 u18) else tl_let (x4 + (-60)) (fun x20 => fL_waits_p5 fu a1 a2 0 x20 u18)))))) (fun K7 => (if x4 ≤ 60 then K7 x4 u else K7 60 u))))

def fL_waits (a1 : Nat) (a2 : Nat) (x3 : Int32) (u : tz_U) : Option (Int32 × tz_U) :=
  tl_b (fL_waits_p5 5 a1 a2 1 x3 u) (fun w4 => tl_g (w4.1 = 0 ∨ w4.1 = 1) (some (w4.1, w4.2)))

theorem lL_waits_p5 {E : tl_E} {X : State → Array Value → Code → Prop} {Z : List Frame → Array Value → State → State → Prop} {kE : Nat} : ∀ (n : Nat) (a1 : Nat) (a2 : Nat) (x3 : Int32) (x4 : Int32) (u : tz_U) (w : Int32 × tz_U) (k : Nat), tz_on E a1 → tz_on E a2 → fL_waits_p5 n a1 a2 x3 x4 u = some w → k + n * 2 ≤ kE → kE ≤ 10 → tz_R E mL_waits X Z kE (tz_HU E w.2) 74 [none, none, none, some (.int w.1), none, none, none] [] → tz_R E mL_waits X Z k (tz_HU E u) 5 [some (.ref a1), some (.ref a2), none, some (.int x3), some (.int x4), none, none] [] := by
  intro n
  induction n with
  | zero => intro a1 a2 x3 x4 u w k h1 h2 h; exact absurd h (by simp [fL_waits_p5])
  | succ n ih =>
    intro a1 a2 x3 x4 u w k h1 h2 h hk hE kk
    rw [fL_waits_p5] at h
    refine tl_iload dL_waits_5 rfl (tl_if_le (tgt := 74) dL_waits_7 (by decide) (fun c5 => ?_) (fun c5 => ?_))
    · replace h := tl_ip h c5
      cases h
      exact tz_fg (ls2 := [none, none, none, some (.int x3), none, none, none]) (And.intro rfl trivial) (tz_wd (k2 := kE) (by omega) kk)
    · replace h := tl_in h c5
      refine tl_iload_n dL_waits_10 rfl (tl_if_eq (tgt := 74) dL_waits_11 (by decide) (fun c6 => ?_) (fun c6 => ?_))
      · replace h := tl_ip h c6
        cases h
        exact tz_fg (ls2 := [none, none, none, some (.int x3), none, none, none]) (And.intro rfl trivial) (tz_wd (k2 := kE) (by omega) kk)
      · replace h := tl_in h c6
        refine tl_iload dL_waits_14 rfl (tl_bipush (v := 60) dL_waits_16 bp_60 (?_))
        obtain ⟨K7, e9, h⟩ := tl_ki h
        have q8 : ∀ (y10 : Int32) (u11 : tz_U), K7 y10 u11 = some w → tz_R E mL_waits X Z k (tz_HU E u11) 28 [some (.ref a1), some (.ref a2), none, none, some (.int x4), none, none] [.int y10] := by
          intro y10 u11 h
          have h := tl_kb1 e9 h
          clear e9
          obtain ⟨x12, u14, e13, h⟩ := tl_b2i h
          refine tl_istore dL_waits_28 (Nat.le_of_ble_eq_true rfl) (tl_aload_n dL_waits_30 rfl (tl_bipush (v := 17) dL_waits_31 bp_17 (tl_iload dL_waits_33 rfl (tl_iconst (v := 0) dL_waits_35 ic_0 (tl_iconst (v := 0) dL_waits_36 ic_0 (tz_cS5 (lL_call h1 e13) dL_waits_37 cs_L_waits_189 (c := 1) ⟨rfl, rfl⟩ (k2 := (k + 1)) (by omega) (CM := 10) ⟨Nat.le_of_ble_eq_true rfl, Nat.le_of_ble_eq_true rfl⟩ (by omega : (k + 1) ≤ 10) (Nat.le_of_ble_eq_true rfl) (tl_istore dL_waits_40 (Nat.le_of_ble_eq_true rfl) (tl_iload dL_waits_42 rfl (tl_if_lt (tgt := 66) dL_waits_44 (by decide) (fun c15 => ?_) (fun c15 => ?_))))))))))
          · replace h := tl_ip h c15
            refine tl_iconst (v := 0) dL_waits_66 ic_0 (tl_istore_n dL_waits_67 (Nat.le_of_ble_eq_true rfl) (tz_iincK dL_waits_68 rfl (ii_m60 _) (Nat.le_of_ble_eq_true rfl) (fun x16 e => ?_)))
            have h := tl_leteq e h
            clear e
            refine tl_goto (tgt := 5) dL_waits_71 (by decide) (?_)
            exact tz_fg (ls2 := [some (.ref a1), some (.ref a2), none, some (.int 0), some (.int x16), none, none]) (And.intro rfl (And.intro rfl (And.intro rfl (And.intro rfl trivial)))) (tz_wd (k2 := k + 2) (by omega) (ih _ _ _ _ _ _ (k + 2) h1 h2 h (by omega) hE kk))
          · replace h := tl_in h c15
            obtain ⟨x16, u18, e17, h⟩ := tl_b2i h
            refine tl_aload_n dL_waits_47 rfl (tl_bipush (v := 17) dL_waits_48 bp_17 (tl_iload dL_waits_50 rfl (tl_iconst (v := 0) dL_waits_52 ic_0 (tl_iconst (v := 0) dL_waits_53 ic_0 (tz_cS5 (lL_call h2 e17) dL_waits_54 cs_L_waits_189 (c := 1) ⟨rfl, rfl⟩ (k2 := (k + 2)) (by omega) (CM := 10) ⟨Nat.le_of_ble_eq_true rfl, Nat.le_of_ble_eq_true rfl⟩ (by omega : (k + 2) ≤ 10) (Nat.le_of_ble_eq_true rfl) (tl_iload dL_waits_57 rfl (tl_icmp_ne (tgt := 66) dL_waits_59 (by decide) (fun c19 => ?_) (fun c19 => ?_))))))))
            · replace h := tl_in h c19
              refine tl_iconst (v := 0) dL_waits_66 ic_0 (tl_istore_n dL_waits_67 (Nat.le_of_ble_eq_true rfl) (tz_iincK dL_waits_68 rfl (ii_m60 _) (Nat.le_of_ble_eq_true rfl) (fun x20 e => ?_)))
              have h := tl_leteq e h
              clear e
              refine tl_goto (tgt := 5) dL_waits_71 (by decide) (?_)
              exact tz_fg (ls2 := [some (.ref a1), some (.ref a2), none, some (.int 0), some (.int x20), none, none]) (And.intro rfl (And.intro rfl (And.intro rfl (And.intro rfl trivial)))) (tz_wd (k2 := k + 2) (by omega) (ih _ _ _ _ _ _ (k + 2) h1 h2 h (by omega) hE kk))
            · replace h := tl_ip h c19
              refine tl_iconst (v := 1) dL_waits_62 ic_1 (tl_goto (tgt := 67) dL_waits_63 (by decide) (tl_istore_n dL_waits_67 (Nat.le_of_ble_eq_true rfl) (tz_iincK dL_waits_68 rfl (ii_m60 _) (Nat.le_of_ble_eq_true rfl) (fun x20 e => ?_))))
              have h := tl_leteq e h
              clear e
              refine tl_goto (tgt := 5) dL_waits_71 (by decide) (?_)
              exact tz_fg (ls2 := [some (.ref a1), some (.ref a2), none, some (.int 1), some (.int x20), none, none]) (And.intro rfl (And.intro rfl (And.intro rfl (And.intro rfl trivial)))) (tz_wd (k2 := k + 2) (by omega) (ih _ _ _ _ _ _ (k + 2) h1 h2 h (by omega) hE kk))
        clear e9
        refine tl_icmp_le (tgt := 26) dL_waits_18 (by decide) (fun c21 => ?_) (fun c21 => ?_)
        · replace h := tl_ip h c21
          refine tl_iload dL_waits_26 rfl (?_)
          exact tz_fg (ls2 := [some (.ref a1), some (.ref a2), none, none, some (.int x4), none, none]) (And.intro rfl (And.intro rfl (And.intro rfl trivial))) (tz_wd (k2 := k) (by omega) (q8 _ _ h))
        · replace h := tl_in h c21
          refine tl_bipush (v := 60) dL_waits_21 bp_60 (tl_goto (tgt := 28) dL_waits_23 (by decide) (?_))
          exact tz_fg (ls2 := [some (.ref a1), some (.ref a2), none, none, some (.int x4), none, none]) (And.intro rfl (And.intro rfl (And.intro rfl trivial))) (tz_wd (k2 := k) (by omega) (q8 _ _ h))

theorem lL_waits {E : tl_E} {a1 : Nat} {a2 : Nat} {x3 : Int32} {u : tz_U} {r : Int32} {v : tz_U} (h1 : tz_on E a1) (h2 : tz_on E a2) (h : fL_waits a1 a2 x3 u = some (r, v)) : tz_ML E mL_waits [.ref a1, .ref a2, .int x3] u r v := by
  unfold fL_waits at h
  refine tl_start [some (.ref a1), some (.ref a2), some (.int x3), none, none, none, none] rfl rfl rfl (Nat.le_of_ble_eq_true rfl) (tz_st (tz_fg (ls2 := [some (.ref a1), some (.ref a2), some (.int x3), none, none, none, none]) (And.intro rfl (And.intro rfl (And.intro rfl trivial))) ?_))
  refine tl_iconst (v := 1) dL_waits_0 ic_1 (tl_istore_n dL_waits_1 (Nat.le_of_ble_eq_true rfl) (tl_iload_n dL_waits_2 rfl (tl_istore dL_waits_3 (Nat.le_of_ble_eq_true rfl) (?_))))
  refine tz_fg (ls2 := [some (.ref a1), some (.ref a2), none, some (.int 1), some (.int x3), none, none]) (And.intro rfl (And.intro rfl (And.intro rfl (And.intro rfl trivial)))) ?_
  obtain ⟨w4, e5, h⟩ := tl_bi h
  refine lL_waits_p5 5 _ _ _ _ _ w4 0 h1 h2 e5 (kE := 10) (Nat.le_of_ble_eq_true rfl) (Nat.le_of_ble_eq_true rfl) ?_
  obtain ⟨g6, h⟩ := tl_gi h
  exact tl_iload_n dL_waits_74 rfl (tz_ret dL_waits_75 rfl (tl_nB g6).1 (CM := 10) ⟨Nat.le_of_ble_eq_true rfl, Nat.le_of_ble_eq_true rfl⟩ (Nat.le_of_ble_eq_true rfl) h)

theorem cs_L_undoes_189 : tl_cS mL_undoes mL_call 189 5 := ⟨cd_L_call, ml_L_189, sm_L_call, in_L, ⟨by decide, by decide, by decide +kernel⟩, Nat.le_of_ble_eq_true rfl, Nat.le_of_ble_eq_true rfl⟩
theorem cs_L_undoes_243 : tl_cS mL_undoes mL_thrown 243 1 := ⟨cd_L_thrown, ml_L_243, sm_L_thrown, in_L, ⟨by decide, by decide, by decide +kernel⟩, Nat.le_of_ble_eq_true rfl, Nat.le_of_ble_eq_true rfl⟩
def fL_undoes_p5 : Nat → Nat → Nat → Int32 → Int32 → tz_U → Option (Int32 × tz_U)
  | 0, _, _, _, _, _ => none
  | fu + 1, a1, a2, x3, x4, u =>
  (if x4 ≤ 0 then some (x3, u) else (if x3 = 0 then some (x3, u) else tl_b2 (fL_call a1 18 0 0 0 u) (fun x7 u9 => tl_b2 (fL_thrown x7 u9) (fun x10 u12 => (if x10 = 0 then tl_b2 (fL_call a2 18 0 0 0 u12) (fun x14 u16 => tl_b2 (fL_thrown x14 u16) (fun x17 u19 => (if x17 = 0 then tl_let (x4 + (-60)) (fun x21 => fL_undoes_p5 fu a1 a2 1 x21 u19) else tl_let (x4 + (-60)) (fun x21 => fL_undoes_p5 fu a1 a2 0 x21 u19)))) else tl_let (x4 + (-60)) (fun x14 => fL_undoes_p5 fu a1 a2 0 x14 u12))))))

def fL_undoes (a1 : Nat) (a2 : Nat) (x3 : Int32) (u : tz_U) : Option (Int32 × tz_U) :=
  tl_b (fL_undoes_p5 5 a1 a2 1 x3 u) (fun w4 => tl_g (w4.1 = 0 ∨ w4.1 = 1) (some (w4.1, w4.2)))

theorem lL_undoes_p5 {E : tl_E} {X : State → Array Value → Code → Prop} {Z : List Frame → Array Value → State → State → Prop} {kE : Nat} : ∀ (n : Nat) (a1 : Nat) (a2 : Nat) (x3 : Int32) (x4 : Int32) (u : tz_U) (w : Int32 × tz_U) (k : Nat), tz_on E a1 → tz_on E a2 → fL_undoes_p5 n a1 a2 x3 x4 u = some w → k + n * 2 ≤ kE → kE ≤ 10 → tz_R E mL_undoes X Z kE (tz_HU E w.2) 56 [none, none, none, some (.int w.1), none] [] → tz_R E mL_undoes X Z k (tz_HU E u) 5 [some (.ref a1), some (.ref a2), none, some (.int x3), some (.int x4)] [] := by
  intro n
  induction n with
  | zero => intro a1 a2 x3 x4 u w k h1 h2 h; exact absurd h (by simp [fL_undoes_p5])
  | succ n ih =>
    intro a1 a2 x3 x4 u w k h1 h2 h hk hE kk
    rw [fL_undoes_p5] at h
    refine tl_iload dL_undoes_5 rfl (tl_if_le (tgt := 56) dL_undoes_7 (by decide) (fun c5 => ?_) (fun c5 => ?_))
    · replace h := tl_ip h c5
      cases h
      exact tz_fg (ls2 := [none, none, none, some (.int x3), none]) (And.intro rfl trivial) (tz_wd (k2 := kE) (by omega) kk)
    · replace h := tl_in h c5
      refine tl_iload_n dL_undoes_10 rfl (tl_if_eq (tgt := 56) dL_undoes_11 (by decide) (fun c6 => ?_) (fun c6 => ?_))
      · replace h := tl_ip h c6
        cases h
        exact tz_fg (ls2 := [none, none, none, some (.int x3), none]) (And.intro rfl trivial) (tz_wd (k2 := kE) (by omega) kk)
      · replace h := tl_in h c6
        obtain ⟨x7, u9, e8, h⟩ := tl_b2i h
        obtain ⟨x10, u12, e11, h⟩ := tl_b2i h
        refine tl_aload_n dL_undoes_14 rfl (tl_bipush (v := 18) dL_undoes_15 bp_18 (tl_iconst (v := 0) dL_undoes_17 ic_0 (tl_iconst (v := 0) dL_undoes_18 ic_0 (tl_iconst (v := 0) dL_undoes_19 ic_0 (tz_cS5 (lL_call h1 e8) dL_undoes_20 cs_L_undoes_189 (c := 1) ⟨rfl, rfl⟩ (k2 := (k + 1)) (by omega) (CM := 10) ⟨Nat.le_of_ble_eq_true rfl, Nat.le_of_ble_eq_true rfl⟩ (by omega : (k + 1) ≤ 10) (Nat.le_of_ble_eq_true rfl) (tz_cS1 (lL_thrown  e11) dL_undoes_23 cs_L_undoes_243 (c := 0) ⟨rfl, rfl⟩ (k2 := (k + 1)) (by omega) (CM := 10) ⟨Nat.le_of_ble_eq_true rfl, Nat.le_of_ble_eq_true rfl⟩ (by omega : (k + 1) ≤ 10) (Nat.le_of_ble_eq_true rfl) (tl_if_ne (tgt := 48) dL_undoes_26 (by decide) (fun c13 => ?_) (fun c13 => ?_))))))))
        · replace h := tl_in h c13
          refine tl_iconst (v := 0) dL_undoes_48 ic_0 (tl_istore_n dL_undoes_49 (Nat.le_of_ble_eq_true rfl) (tz_iincK dL_undoes_50 rfl (ii_m60 _) (Nat.le_of_ble_eq_true rfl) (fun x14 e => ?_)))
          have h := tl_leteq e h
          clear e
          refine tl_goto (tgt := 5) dL_undoes_53 (by decide) (?_)
          exact tz_fg (ls2 := [some (.ref a1), some (.ref a2), none, some (.int 0), some (.int x14)]) (And.intro rfl (And.intro rfl (And.intro rfl (And.intro rfl trivial)))) (tz_wd (k2 := k + 2) (by omega) (ih _ _ _ _ _ _ (k + 2) h1 h2 h (by omega) hE kk))
        · replace h := tl_ip h c13
          obtain ⟨x14, u16, e15, h⟩ := tl_b2i h
          obtain ⟨x17, u19, e18, h⟩ := tl_b2i h
          refine tl_aload_n dL_undoes_29 rfl (tl_bipush (v := 18) dL_undoes_30 bp_18 (tl_iconst (v := 0) dL_undoes_32 ic_0 (tl_iconst (v := 0) dL_undoes_33 ic_0 (tl_iconst (v := 0) dL_undoes_34 ic_0 (tz_cS5 (lL_call h2 e15) dL_undoes_35 cs_L_undoes_189 (c := 1) ⟨rfl, rfl⟩ (k2 := (k + 2)) (by omega) (CM := 10) ⟨Nat.le_of_ble_eq_true rfl, Nat.le_of_ble_eq_true rfl⟩ (by omega : (k + 2) ≤ 10) (Nat.le_of_ble_eq_true rfl) (tz_cS1 (lL_thrown  e18) dL_undoes_38 cs_L_undoes_243 (c := 0) ⟨rfl, rfl⟩ (k2 := (k + 2)) (by omega) (CM := 10) ⟨Nat.le_of_ble_eq_true rfl, Nat.le_of_ble_eq_true rfl⟩ (by omega : (k + 2) ≤ 10) (Nat.le_of_ble_eq_true rfl) (tl_if_ne (tgt := 48) dL_undoes_41 (by decide) (fun c20 => ?_) (fun c20 => ?_))))))))
          · replace h := tl_in h c20
            refine tl_iconst (v := 0) dL_undoes_48 ic_0 (tl_istore_n dL_undoes_49 (Nat.le_of_ble_eq_true rfl) (tz_iincK dL_undoes_50 rfl (ii_m60 _) (Nat.le_of_ble_eq_true rfl) (fun x21 e => ?_)))
            have h := tl_leteq e h
            clear e
            refine tl_goto (tgt := 5) dL_undoes_53 (by decide) (?_)
            exact tz_fg (ls2 := [some (.ref a1), some (.ref a2), none, some (.int 0), some (.int x21)]) (And.intro rfl (And.intro rfl (And.intro rfl (And.intro rfl trivial)))) (tz_wd (k2 := k + 2) (by omega) (ih _ _ _ _ _ _ (k + 2) h1 h2 h (by omega) hE kk))
          · replace h := tl_ip h c20
            refine tl_iconst (v := 1) dL_undoes_44 ic_1 (tl_goto (tgt := 49) dL_undoes_45 (by decide) (tl_istore_n dL_undoes_49 (Nat.le_of_ble_eq_true rfl) (tz_iincK dL_undoes_50 rfl (ii_m60 _) (Nat.le_of_ble_eq_true rfl) (fun x21 e => ?_))))
            have h := tl_leteq e h
            clear e
            refine tl_goto (tgt := 5) dL_undoes_53 (by decide) (?_)
            exact tz_fg (ls2 := [some (.ref a1), some (.ref a2), none, some (.int 1), some (.int x21)]) (And.intro rfl (And.intro rfl (And.intro rfl (And.intro rfl trivial)))) (tz_wd (k2 := k + 2) (by omega) (ih _ _ _ _ _ _ (k + 2) h1 h2 h (by omega) hE kk))

theorem lL_undoes {E : tl_E} {a1 : Nat} {a2 : Nat} {x3 : Int32} {u : tz_U} {r : Int32} {v : tz_U} (h1 : tz_on E a1) (h2 : tz_on E a2) (h : fL_undoes a1 a2 x3 u = some (r, v)) : tz_ML E mL_undoes [.ref a1, .ref a2, .int x3] u r v := by
  unfold fL_undoes at h
  refine tl_start [some (.ref a1), some (.ref a2), some (.int x3), none, none] rfl rfl rfl (Nat.le_of_ble_eq_true rfl) (tz_st (tz_fg (ls2 := [some (.ref a1), some (.ref a2), some (.int x3), none, none]) (And.intro rfl (And.intro rfl (And.intro rfl trivial))) ?_))
  refine tl_iconst (v := 1) dL_undoes_0 ic_1 (tl_istore_n dL_undoes_1 (Nat.le_of_ble_eq_true rfl) (tl_iload_n dL_undoes_2 rfl (tl_istore dL_undoes_3 (Nat.le_of_ble_eq_true rfl) (?_))))
  refine tz_fg (ls2 := [some (.ref a1), some (.ref a2), none, some (.int 1), some (.int x3)]) (And.intro rfl (And.intro rfl (And.intro rfl (And.intro rfl trivial)))) ?_
  obtain ⟨w4, e5, h⟩ := tl_bi h
  refine lL_undoes_p5 5 _ _ _ _ _ w4 0 h1 h2 e5 (kE := 10) (Nat.le_of_ble_eq_true rfl) (Nat.le_of_ble_eq_true rfl) ?_
  obtain ⟨g6, h⟩ := tl_gi h
  exact tl_iload_n dL_undoes_56 rfl (tz_ret dL_undoes_57 rfl (tl_nB g6).1 (CM := 10) ⟨Nat.le_of_ble_eq_true rfl, Nat.le_of_ble_eq_true rfl⟩ (Nat.le_of_ble_eq_true rfl) h)

