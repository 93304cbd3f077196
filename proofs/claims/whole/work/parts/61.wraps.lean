/-! The law's wrappers, one by one. -/
theorem tl_T9 {z : Nat} : tl_T z z = some 9 := by
  unfold tl_T
  rw [if_pos (Nat.le_refl _), Nat.sub_self]; rfl
theorem tl_x21 : tl_xn 2 ≠ tl_xn 1 := by decide +kernel
theorem tl_x31 : tl_xn 3 ≠ tl_xn 1 := by decide +kernel
theorem tl_x32 : tl_xn 3 ≠ tl_xn 2 := by decide +kernel
theorem i9_1 : Int32.ofInt 1 = nI 1 := by decide
theorem i9_2 : Int32.ofInt 2 = nI 2 := by decide
theorem i9_3 : Int32.ofInt 3 = nI 3 := by decide
theorem dL_append_0 : decode cL_append 0 = .ok (.aload_n 2, 1) := by decide +kernel
theorem dL_append_1 : decode cL_append 1 = .ok (.iconst 0, 1) := by decide +kernel
theorem dL_append_2 : decode cL_append 2 = .ok (.aload_n 0, 1) := by decide +kernel
theorem dL_append_3 : decode cL_append 3 = .ok (.iload_n 1, 1) := by decide +kernel
theorem dL_append_4 : decode cL_append 4 = .ok (.invokevirtual 7, 3) := by decide +kernel
theorem dL_append_7 : decode cL_append 7 = .ok (.i2l, 1) := by decide +kernel
theorem dL_append_8 : decode cL_append 8 = .ok (.lastore, 1) := by decide +kernel
theorem dL_append_9 : decode cL_append 9 = .ok (.goto 9, 3) := by decide +kernel
theorem dL_append_12 : decode cL_append 12 = .ok (.astore_n 3, 1) := by decide +kernel
theorem dL_append_13 : decode cL_append 13 = .ok (.iconst 1, 1) := by decide +kernel
theorem dL_append_14 : decode cL_append 14 = .ok (.ireturn, 1) := by decide +kernel
theorem dL_append_15 : decode cL_append 15 = .ok (.astore_n 3, 1) := by decide +kernel
theorem dL_append_16 : decode cL_append 16 = .ok (.iconst 2, 1) := by decide +kernel
theorem dL_append_17 : decode cL_append 17 = .ok (.ireturn, 1) := by decide +kernel
theorem dL_append_18 : decode cL_append 18 = .ok (.iconst 0, 1) := by decide +kernel
theorem dL_append_19 : decode cL_append 19 = .ok (.ireturn, 1) := by decide +kernel
abbrev hL_append : tl_hs := [(0, 9, 12, 13), (0, 9, 15, 15)]
abbrev mL_append : tl_M := (yL_append, cL_append, 4, some .int, tl_rm 9 1 6)
theorem cw_L_append : tl_w9 mL_append hL_append ∈ tl_GW := tl_inGW (tl_in3 (List.mem_of_getElem? (i := 57) rfl)) rfl
theorem cs_L_append : tl_cV mL_append mX9_append 7 1 := ⟨cd_X9_append, ml_L_7, im_X9_append, se_X9_append, in_X9, ⟨by decide, by decide, by decide +kernel⟩, Nat.le_of_ble_eq_true rfl, Nat.le_of_ble_eq_true rfl⟩
theorem lL_append {E : tl_E} {p0 : Int32} {u v : tl_S} {t : Nat} {r : Int32} (h : f9_append E.2.1 p0 u = some (t, r, v)) (hl : t = 0 ∨ t ∈ [2, 3]) : tl_MetH E mL_append hL_append [.ref E.2.1, .int p0, .ref (E.2.1 + 566)] (tl_HB E u) (fun q H => ∃ w, tl_Qw E [2, 3] t r v q w ∧ tl_HB E w H) := by
  refine tl_startH [some (.ref E.2.1), some (.int p0), some (.ref (E.2.1 + 566)), none] rfl rfl rfl (Nat.le_of_ble_eq_true rfl) ?_
  refine tl_aload_n (q := 2) dL_append_0 rfl (tl_iconst dL_append_1 ic_0 (tl_aload_n (q := 0) dL_append_2 rfl (tl_iload_n (q := 1) dL_append_3 rfl ?_)))
  exact tl_wtail (As := [.int p0]) (l := [2, 3]) (tgt := 18) (l9_append tl_T9 h) hl (by decide) rfl rfl dL_append_4 cs_L_append ⟨Nat.le_of_ble_eq_true rfl, Nat.le_of_ble_eq_true rfl⟩ dL_append_7 dL_append_8 dL_append_9 (by decide) dL_append_18 dL_append_19 (List.forall_mem_cons.mpr ⟨⟨12, ⟨[], [(0, 9, 15, 15)], 0, 9, 13, rfl, ⟨Nat.le_of_ble_eq_true rfl, Nat.le_of_ble_eq_true rfl⟩, by decide, kk_L_13, fun _ h => absurd h List.not_mem_nil⟩, ⟨13, 1, Or.inl ⟨3, dL_append_12, by decide, rfl⟩, dL_append_13, i9_1, dL_append_14⟩⟩, List.forall_mem_cons.mpr ⟨⟨15, ⟨[(0, 9, 12, 13)], [], 0, 9, 15, rfl, ⟨Nat.le_of_ble_eq_true rfl, Nat.le_of_ble_eq_true rfl⟩, by decide, kk_L_15, List.forall_mem_cons.mpr ⟨⟨by decide, tl_xn 2, tl_xnC 2, kk_L_13, tl_x32⟩, fun _ h => absurd h List.not_mem_nil⟩⟩, ⟨16, 2, Or.inl ⟨3, dL_append_15, by decide, rfl⟩, dL_append_16, i9_2, dL_append_17⟩⟩, fun _ h => absurd h List.not_mem_nil⟩⟩)
theorem dL_load_0 : decode cL_load 0 = .ok (.aload_n 1, 1) := by decide +kernel
theorem dL_load_1 : decode cL_load 1 = .ok (.iconst 0, 1) := by decide +kernel
theorem dL_load_2 : decode cL_load 2 = .ok (.aload_n 0, 1) := by decide +kernel
theorem dL_load_3 : decode cL_load 3 = .ok (.invokevirtual 17, 3) := by decide +kernel
theorem dL_load_6 : decode cL_load 6 = .ok (.i2l, 1) := by decide +kernel
theorem dL_load_7 : decode cL_load 7 = .ok (.lastore, 1) := by decide +kernel
theorem dL_load_8 : decode cL_load 8 = .ok (.goto 6, 3) := by decide +kernel
theorem dL_load_11 : decode cL_load 11 = .ok (.astore_n 2, 1) := by decide +kernel
theorem dL_load_12 : decode cL_load 12 = .ok (.iconst 1, 1) := by decide +kernel
theorem dL_load_13 : decode cL_load 13 = .ok (.ireturn, 1) := by decide +kernel
theorem dL_load_14 : decode cL_load 14 = .ok (.iconst 0, 1) := by decide +kernel
theorem dL_load_15 : decode cL_load 15 = .ok (.ireturn, 1) := by decide +kernel
abbrev hL_load : tl_hs := [(0, 8, 11, 15)]
abbrev mL_load : tl_M := (yL_load, cL_load, 3, some .int, tl_rm 9 1 6)
theorem cw_L_load : tl_w9 mL_load hL_load ∈ tl_GW := tl_inGW (tl_in3 (List.mem_of_getElem? (i := 184) rfl)) rfl
theorem cs_L_load : tl_cV mL_load mX9_load 17 0 := ⟨cd_X9_load, ml_L_17, im_X9_load, se_X9_load, in_X9, ⟨by decide, by decide, by decide +kernel⟩, Nat.le_of_ble_eq_true rfl, Nat.le_of_ble_eq_true rfl⟩
theorem lL_load {E : tl_E}  {u v : tl_S} {t : Nat} {r : Int32} (h : f9_load E.2.1 u = some (t, r, v)) (hl : t = 0 ∨ t ∈ [3]) : tl_MetH E mL_load hL_load [.ref E.2.1, .ref (E.2.1 + 566)] (tl_HB E u) (fun q H => ∃ w, tl_Qw E [3] t r v q w ∧ tl_HB E w H) := by
  refine tl_startH [some (.ref E.2.1), some (.ref (E.2.1 + 566)), none] rfl rfl rfl (Nat.le_of_ble_eq_true rfl) ?_
  refine tl_aload_n (q := 1) dL_load_0 rfl (tl_iconst dL_load_1 ic_0 (tl_aload_n (q := 0) dL_load_2 rfl ?_))
  exact tl_wtail (As := []) (l := [3]) (tgt := 14) (l9_load tl_T9 h) hl (by decide) rfl rfl dL_load_3 cs_L_load ⟨Nat.le_of_ble_eq_true rfl, Nat.le_of_ble_eq_true rfl⟩ dL_load_6 dL_load_7 dL_load_8 (by decide) dL_load_14 dL_load_15 (List.forall_mem_cons.mpr ⟨⟨11, ⟨[], [], 0, 8, 15, rfl, ⟨Nat.le_of_ble_eq_true rfl, Nat.le_of_ble_eq_true rfl⟩, by decide, kk_L_15, fun _ h => absurd h List.not_mem_nil⟩, ⟨12, 1, Or.inl ⟨2, dL_load_11, by decide, rfl⟩, dL_load_12, i9_1, dL_load_13⟩⟩, fun _ h => absurd h List.not_mem_nil⟩)
theorem dL_about_0 : decode cL_about 0 = .ok (.aload_n 2, 1) := by decide +kernel
theorem dL_about_1 : decode cL_about 1 = .ok (.iconst 0, 1) := by decide +kernel
theorem dL_about_2 : decode cL_about 2 = .ok (.aload_n 0, 1) := by decide +kernel
theorem dL_about_3 : decode cL_about 3 = .ok (.iload_n 1, 1) := by decide +kernel
theorem dL_about_4 : decode cL_about 4 = .ok (.invokevirtual 21, 3) := by decide +kernel
theorem dL_about_7 : decode cL_about 7 = .ok (.i2l, 1) := by decide +kernel
theorem dL_about_8 : decode cL_about 8 = .ok (.lastore, 1) := by decide +kernel
theorem dL_about_9 : decode cL_about 9 = .ok (.goto 6, 3) := by decide +kernel
theorem dL_about_12 : decode cL_about 12 = .ok (.astore_n 3, 1) := by decide +kernel
theorem dL_about_13 : decode cL_about 13 = .ok (.iconst 1, 1) := by decide +kernel
theorem dL_about_14 : decode cL_about 14 = .ok (.ireturn, 1) := by decide +kernel
theorem dL_about_15 : decode cL_about 15 = .ok (.iconst 0, 1) := by decide +kernel
theorem dL_about_16 : decode cL_about 16 = .ok (.ireturn, 1) := by decide +kernel
abbrev hL_about : tl_hs := [(0, 9, 12, 13)]
abbrev mL_about : tl_M := (yL_about, cL_about, 4, some .int, tl_rm 9 1 6)
theorem cw_L_about : tl_w9 mL_about hL_about ∈ tl_GW := tl_inGW (tl_in4 (List.mem_of_getElem? (i := 20) rfl)) rfl
theorem cs_L_about : tl_cV mL_about mX9_about 21 1 := ⟨cd_X9_about, ml_L_21, im_X9_about, se_X9_about, in_X9, ⟨by decide, by decide, by decide +kernel⟩, Nat.le_of_ble_eq_true rfl, Nat.le_of_ble_eq_true rfl⟩
theorem lL_about {E : tl_E} {p0 : Int32} {u v : tl_S} {t : Nat} {r : Int32} (h : f9_about E.2.1 p0 u = some (t, r, v)) (hl : t = 0 ∨ t ∈ [2]) : tl_MetH E mL_about hL_about [.ref E.2.1, .int p0, .ref (E.2.1 + 566)] (tl_HB E u) (fun q H => ∃ w, tl_Qw E [2] t r v q w ∧ tl_HB E w H) := by
  refine tl_startH [some (.ref E.2.1), some (.int p0), some (.ref (E.2.1 + 566)), none] rfl rfl rfl (Nat.le_of_ble_eq_true rfl) ?_
  refine tl_aload_n (q := 2) dL_about_0 rfl (tl_iconst dL_about_1 ic_0 (tl_aload_n (q := 0) dL_about_2 rfl (tl_iload_n (q := 1) dL_about_3 rfl ?_)))
  exact tl_wtail (As := [.int p0]) (l := [2]) (tgt := 15) (l9_about tl_T9 h) hl (by decide) rfl rfl dL_about_4 cs_L_about ⟨Nat.le_of_ble_eq_true rfl, Nat.le_of_ble_eq_true rfl⟩ dL_about_7 dL_about_8 dL_about_9 (by decide) dL_about_15 dL_about_16 (List.forall_mem_cons.mpr ⟨⟨12, ⟨[], [], 0, 9, 13, rfl, ⟨Nat.le_of_ble_eq_true rfl, Nat.le_of_ble_eq_true rfl⟩, by decide, kk_L_13, fun _ h => absurd h List.not_mem_nil⟩, ⟨13, 1, Or.inl ⟨3, dL_about_12, by decide, rfl⟩, dL_about_13, i9_1, dL_about_14⟩⟩, fun _ h => absurd h List.not_mem_nil⟩)
theorem dL_galleryOf_0 : decode cL_galleryOf 0 = .ok (.aload_n 3, 1) := by decide +kernel
theorem dL_galleryOf_1 : decode cL_galleryOf 1 = .ok (.iconst 0, 1) := by decide +kernel
theorem dL_galleryOf_2 : decode cL_galleryOf 2 = .ok (.aload_n 0, 1) := by decide +kernel
theorem dL_galleryOf_3 : decode cL_galleryOf 3 = .ok (.iload_n 1, 1) := by decide +kernel
theorem dL_galleryOf_4 : decode cL_galleryOf 4 = .ok (.iload_n 2, 1) := by decide +kernel
theorem dL_galleryOf_5 : decode cL_galleryOf 5 = .ok (.invokevirtual 24, 3) := by decide +kernel
theorem dL_galleryOf_8 : decode cL_galleryOf 8 = .ok (.i2l, 1) := by decide +kernel
theorem dL_galleryOf_9 : decode cL_galleryOf 9 = .ok (.lastore, 1) := by decide +kernel
theorem dL_galleryOf_10 : decode cL_galleryOf 10 = .ok (.goto 11, 3) := by decide +kernel
theorem dL_galleryOf_13 : decode cL_galleryOf 13 = .ok (.astore 4, 2) := by decide +kernel
theorem dL_galleryOf_15 : decode cL_galleryOf 15 = .ok (.iconst 1, 1) := by decide +kernel
theorem dL_galleryOf_16 : decode cL_galleryOf 16 = .ok (.ireturn, 1) := by decide +kernel
theorem dL_galleryOf_17 : decode cL_galleryOf 17 = .ok (.astore 4, 2) := by decide +kernel
theorem dL_galleryOf_19 : decode cL_galleryOf 19 = .ok (.iconst 2, 1) := by decide +kernel
theorem dL_galleryOf_20 : decode cL_galleryOf 20 = .ok (.ireturn, 1) := by decide +kernel
theorem dL_galleryOf_21 : decode cL_galleryOf 21 = .ok (.iconst 0, 1) := by decide +kernel
theorem dL_galleryOf_22 : decode cL_galleryOf 22 = .ok (.ireturn, 1) := by decide +kernel
abbrev hL_galleryOf : tl_hs := [(0, 10, 13, 28), (0, 10, 17, 13)]
abbrev mL_galleryOf : tl_M := (yL_galleryOf, cL_galleryOf, 5, some .int, tl_rm 9 1 6)
theorem cw_L_galleryOf : tl_w9 mL_galleryOf hL_galleryOf ∈ tl_GW := tl_inGW (tl_in4 (List.mem_of_getElem? (i := 31) rfl)) rfl
theorem cs_L_galleryOf : tl_cV mL_galleryOf mX9_galleryOf 24 2 := ⟨cd_X9_galleryOf, ml_L_24, im_X9_galleryOf, se_X9_galleryOf, in_X9, ⟨by decide, by decide, by decide +kernel⟩, Nat.le_of_ble_eq_true rfl, Nat.le_of_ble_eq_true rfl⟩
theorem lL_galleryOf {E : tl_E} {p0 : Int32} {p1 : Int32} {u v : tl_S} {t : Nat} {r : Int32} (h : f9_galleryOf E.2.1 p0 p1 u = some (t, r, v)) (hl : t = 0 ∨ t ∈ [1, 2]) : tl_MetH E mL_galleryOf hL_galleryOf [.ref E.2.1, .int p0, .int p1, .ref (E.2.1 + 566)] (tl_HB E u) (fun q H => ∃ w, tl_Qw E [1, 2] t r v q w ∧ tl_HB E w H) := by
  refine tl_startH [some (.ref E.2.1), some (.int p0), some (.int p1), some (.ref (E.2.1 + 566)), none] rfl rfl rfl (Nat.le_of_ble_eq_true rfl) ?_
  refine tl_aload_n (q := 3) dL_galleryOf_0 rfl (tl_iconst dL_galleryOf_1 ic_0 (tl_aload_n (q := 0) dL_galleryOf_2 rfl (tl_iload_n (q := 1) dL_galleryOf_3 rfl (tl_iload_n (q := 2) dL_galleryOf_4 rfl ?_))))
  exact tl_wtail (As := [.int p0, .int p1]) (l := [1, 2]) (tgt := 21) (l9_galleryOf tl_T9 h) hl (by decide) rfl rfl dL_galleryOf_5 cs_L_galleryOf ⟨Nat.le_of_ble_eq_true rfl, Nat.le_of_ble_eq_true rfl⟩ dL_galleryOf_8 dL_galleryOf_9 dL_galleryOf_10 (by decide) dL_galleryOf_21 dL_galleryOf_22 (List.forall_mem_cons.mpr ⟨⟨13, ⟨[], [(0, 10, 17, 13)], 0, 10, 28, rfl, ⟨Nat.le_of_ble_eq_true rfl, Nat.le_of_ble_eq_true rfl⟩, by decide, kk_L_28, fun _ h => absurd h List.not_mem_nil⟩, ⟨15, 1, Or.inr ⟨4, dL_galleryOf_13, by decide, rfl⟩, dL_galleryOf_15, i9_1, dL_galleryOf_16⟩⟩, List.forall_mem_cons.mpr ⟨⟨17, ⟨[(0, 10, 13, 28)], [], 0, 10, 13, rfl, ⟨Nat.le_of_ble_eq_true rfl, Nat.le_of_ble_eq_true rfl⟩, by decide, kk_L_13, List.forall_mem_cons.mpr ⟨⟨by decide, tl_xn 1, tl_xnC 1, kk_L_28, tl_x21⟩, fun _ h => absurd h List.not_mem_nil⟩⟩, ⟨19, 2, Or.inr ⟨4, dL_galleryOf_17, by decide, rfl⟩, dL_galleryOf_19, i9_2, dL_galleryOf_20⟩⟩, fun _ h => absurd h List.not_mem_nil⟩⟩)
theorem dL_minerOf_0 : decode cL_minerOf 0 = .ok (.aload_n 3, 1) := by decide +kernel
theorem dL_minerOf_1 : decode cL_minerOf 1 = .ok (.iconst 0, 1) := by decide +kernel
theorem dL_minerOf_2 : decode cL_minerOf 2 = .ok (.aload_n 0, 1) := by decide +kernel
theorem dL_minerOf_3 : decode cL_minerOf 3 = .ok (.iload_n 1, 1) := by decide +kernel
theorem dL_minerOf_4 : decode cL_minerOf 4 = .ok (.iload_n 2, 1) := by decide +kernel
theorem dL_minerOf_5 : decode cL_minerOf 5 = .ok (.invokevirtual 30, 3) := by decide +kernel
theorem dL_minerOf_8 : decode cL_minerOf 8 = .ok (.i2l, 1) := by decide +kernel
theorem dL_minerOf_9 : decode cL_minerOf 9 = .ok (.lastore, 1) := by decide +kernel
theorem dL_minerOf_10 : decode cL_minerOf 10 = .ok (.goto 11, 3) := by decide +kernel
theorem dL_minerOf_13 : decode cL_minerOf 13 = .ok (.astore 4, 2) := by decide +kernel
theorem dL_minerOf_15 : decode cL_minerOf 15 = .ok (.iconst 1, 1) := by decide +kernel
theorem dL_minerOf_16 : decode cL_minerOf 16 = .ok (.ireturn, 1) := by decide +kernel
theorem dL_minerOf_17 : decode cL_minerOf 17 = .ok (.astore 4, 2) := by decide +kernel
theorem dL_minerOf_19 : decode cL_minerOf 19 = .ok (.iconst 2, 1) := by decide +kernel
theorem dL_minerOf_20 : decode cL_minerOf 20 = .ok (.ireturn, 1) := by decide +kernel
theorem dL_minerOf_21 : decode cL_minerOf 21 = .ok (.iconst 0, 1) := by decide +kernel
theorem dL_minerOf_22 : decode cL_minerOf 22 = .ok (.ireturn, 1) := by decide +kernel
abbrev hL_minerOf : tl_hs := [(0, 10, 13, 28), (0, 10, 17, 13)]
abbrev mL_minerOf : tl_M := (yL_minerOf, cL_minerOf, 5, some .int, tl_rm 9 1 6)
theorem cw_L_minerOf : tl_w9 mL_minerOf hL_minerOf ∈ tl_GW := tl_inGW (tl_in4 (List.mem_of_getElem? (i := 47) rfl)) rfl
theorem cs_L_minerOf : tl_cV mL_minerOf mX9_minerOf 30 2 := ⟨cd_X9_minerOf, ml_L_30, im_X9_minerOf, se_X9_minerOf, in_X9, ⟨by decide, by decide, by decide +kernel⟩, Nat.le_of_ble_eq_true rfl, Nat.le_of_ble_eq_true rfl⟩
theorem lL_minerOf {E : tl_E} {p0 : Int32} {p1 : Int32} {u v : tl_S} {t : Nat} {r : Int32} (h : f9_minerOf E.2.1 p0 p1 u = some (t, r, v)) (hl : t = 0 ∨ t ∈ [1, 2]) : tl_MetH E mL_minerOf hL_minerOf [.ref E.2.1, .int p0, .int p1, .ref (E.2.1 + 566)] (tl_HB E u) (fun q H => ∃ w, tl_Qw E [1, 2] t r v q w ∧ tl_HB E w H) := by
  refine tl_startH [some (.ref E.2.1), some (.int p0), some (.int p1), some (.ref (E.2.1 + 566)), none] rfl rfl rfl (Nat.le_of_ble_eq_true rfl) ?_
  refine tl_aload_n (q := 3) dL_minerOf_0 rfl (tl_iconst dL_minerOf_1 ic_0 (tl_aload_n (q := 0) dL_minerOf_2 rfl (tl_iload_n (q := 1) dL_minerOf_3 rfl (tl_iload_n (q := 2) dL_minerOf_4 rfl ?_))))
  exact tl_wtail (As := [.int p0, .int p1]) (l := [1, 2]) (tgt := 21) (l9_minerOf tl_T9 h) hl (by decide) rfl rfl dL_minerOf_5 cs_L_minerOf ⟨Nat.le_of_ble_eq_true rfl, Nat.le_of_ble_eq_true rfl⟩ dL_minerOf_8 dL_minerOf_9 dL_minerOf_10 (by decide) dL_minerOf_21 dL_minerOf_22 (List.forall_mem_cons.mpr ⟨⟨13, ⟨[], [(0, 10, 17, 13)], 0, 10, 28, rfl, ⟨Nat.le_of_ble_eq_true rfl, Nat.le_of_ble_eq_true rfl⟩, by decide, kk_L_28, fun _ h => absurd h List.not_mem_nil⟩, ⟨15, 1, Or.inr ⟨4, dL_minerOf_13, by decide, rfl⟩, dL_minerOf_15, i9_1, dL_minerOf_16⟩⟩, List.forall_mem_cons.mpr ⟨⟨17, ⟨[(0, 10, 13, 28)], [], 0, 10, 13, rfl, ⟨Nat.le_of_ble_eq_true rfl, Nat.le_of_ble_eq_true rfl⟩, by decide, kk_L_13, List.forall_mem_cons.mpr ⟨⟨by decide, tl_xn 1, tl_xnC 1, kk_L_28, tl_x21⟩, fun _ h => absurd h List.not_mem_nil⟩⟩, ⟨19, 2, Or.inr ⟨4, dL_minerOf_17, by decide, rfl⟩, dL_minerOf_19, i9_2, dL_minerOf_20⟩⟩, fun _ h => absurd h List.not_mem_nil⟩⟩)
theorem dL_lampOf_0 : decode cL_lampOf 0 = .ok (.aload_n 3, 1) := by decide +kernel
theorem dL_lampOf_1 : decode cL_lampOf 1 = .ok (.iconst 0, 1) := by decide +kernel
theorem dL_lampOf_2 : decode cL_lampOf 2 = .ok (.aload_n 0, 1) := by decide +kernel
theorem dL_lampOf_3 : decode cL_lampOf 3 = .ok (.iload_n 1, 1) := by decide +kernel
theorem dL_lampOf_4 : decode cL_lampOf 4 = .ok (.iload_n 2, 1) := by decide +kernel
theorem dL_lampOf_5 : decode cL_lampOf 5 = .ok (.invokevirtual 33, 3) := by decide +kernel
theorem dL_lampOf_8 : decode cL_lampOf 8 = .ok (.i2l, 1) := by decide +kernel
theorem dL_lampOf_9 : decode cL_lampOf 9 = .ok (.lastore, 1) := by decide +kernel
theorem dL_lampOf_10 : decode cL_lampOf 10 = .ok (.goto 11, 3) := by decide +kernel
theorem dL_lampOf_13 : decode cL_lampOf 13 = .ok (.astore 4, 2) := by decide +kernel
theorem dL_lampOf_15 : decode cL_lampOf 15 = .ok (.iconst 1, 1) := by decide +kernel
theorem dL_lampOf_16 : decode cL_lampOf 16 = .ok (.ireturn, 1) := by decide +kernel
theorem dL_lampOf_17 : decode cL_lampOf 17 = .ok (.astore 4, 2) := by decide +kernel
theorem dL_lampOf_19 : decode cL_lampOf 19 = .ok (.iconst 2, 1) := by decide +kernel
theorem dL_lampOf_20 : decode cL_lampOf 20 = .ok (.ireturn, 1) := by decide +kernel
theorem dL_lampOf_21 : decode cL_lampOf 21 = .ok (.iconst 0, 1) := by decide +kernel
theorem dL_lampOf_22 : decode cL_lampOf 22 = .ok (.ireturn, 1) := by decide +kernel
abbrev hL_lampOf : tl_hs := [(0, 10, 13, 28), (0, 10, 17, 13)]
abbrev mL_lampOf : tl_M := (yL_lampOf, cL_lampOf, 5, some .int, tl_rm 9 1 6)
theorem cw_L_lampOf : tl_w9 mL_lampOf hL_lampOf ∈ tl_GW := tl_inGW (tl_in4 (List.mem_of_getElem? (i := 55) rfl)) rfl
theorem cs_L_lampOf : tl_cV mL_lampOf mX9_lampOf 33 2 := ⟨cd_X9_lampOf, ml_L_33, im_X9_lampOf, se_X9_lampOf, in_X9, ⟨by decide, by decide, by decide +kernel⟩, Nat.le_of_ble_eq_true rfl, Nat.le_of_ble_eq_true rfl⟩
theorem lL_lampOf {E : tl_E} {p0 : Int32} {p1 : Int32} {u v : tl_S} {t : Nat} {r : Int32} (h : f9_lampOf E.2.1 p0 p1 u = some (t, r, v)) (hl : t = 0 ∨ t ∈ [1, 2]) : tl_MetH E mL_lampOf hL_lampOf [.ref E.2.1, .int p0, .int p1, .ref (E.2.1 + 566)] (tl_HB E u) (fun q H => ∃ w, tl_Qw E [1, 2] t r v q w ∧ tl_HB E w H) := by
  refine tl_startH [some (.ref E.2.1), some (.int p0), some (.int p1), some (.ref (E.2.1 + 566)), none] rfl rfl rfl (Nat.le_of_ble_eq_true rfl) ?_
  refine tl_aload_n (q := 3) dL_lampOf_0 rfl (tl_iconst dL_lampOf_1 ic_0 (tl_aload_n (q := 0) dL_lampOf_2 rfl (tl_iload_n (q := 1) dL_lampOf_3 rfl (tl_iload_n (q := 2) dL_lampOf_4 rfl ?_))))
  exact tl_wtail (As := [.int p0, .int p1]) (l := [1, 2]) (tgt := 21) (l9_lampOf tl_T9 h) hl (by decide) rfl rfl dL_lampOf_5 cs_L_lampOf ⟨Nat.le_of_ble_eq_true rfl, Nat.le_of_ble_eq_true rfl⟩ dL_lampOf_8 dL_lampOf_9 dL_lampOf_10 (by decide) dL_lampOf_21 dL_lampOf_22 (List.forall_mem_cons.mpr ⟨⟨13, ⟨[], [(0, 10, 17, 13)], 0, 10, 28, rfl, ⟨Nat.le_of_ble_eq_true rfl, Nat.le_of_ble_eq_true rfl⟩, by decide, kk_L_28, fun _ h => absurd h List.not_mem_nil⟩, ⟨15, 1, Or.inr ⟨4, dL_lampOf_13, by decide, rfl⟩, dL_lampOf_15, i9_1, dL_lampOf_16⟩⟩, List.forall_mem_cons.mpr ⟨⟨17, ⟨[(0, 10, 13, 28)], [], 0, 10, 13, rfl, ⟨Nat.le_of_ble_eq_true rfl, Nat.le_of_ble_eq_true rfl⟩, by decide, kk_L_13, List.forall_mem_cons.mpr ⟨⟨by decide, tl_xn 1, tl_xnC 1, kk_L_28, tl_x21⟩, fun _ h => absurd h List.not_mem_nil⟩⟩, ⟨19, 2, Or.inr ⟨4, dL_lampOf_17, by decide, rfl⟩, dL_lampOf_19, i9_2, dL_lampOf_20⟩⟩, fun _ h => absurd h List.not_mem_nil⟩⟩)
theorem dL_lad_0 : decode cL_lad 0 = .ok (.aload_n 2, 1) := by decide +kernel
theorem dL_lad_1 : decode cL_lad 1 = .ok (.iconst 0, 1) := by decide +kernel
theorem dL_lad_2 : decode cL_lad 2 = .ok (.aload_n 0, 1) := by decide +kernel
theorem dL_lad_3 : decode cL_lad 3 = .ok (.iload_n 1, 1) := by decide +kernel
theorem dL_lad_4 : decode cL_lad 4 = .ok (.invokevirtual 36, 3) := by decide +kernel
theorem dL_lad_7 : decode cL_lad 7 = .ok (.i2l, 1) := by decide +kernel
theorem dL_lad_8 : decode cL_lad 8 = .ok (.lastore, 1) := by decide +kernel
theorem dL_lad_9 : decode cL_lad 9 = .ok (.goto 6, 3) := by decide +kernel
theorem dL_lad_12 : decode cL_lad 12 = .ok (.astore_n 3, 1) := by decide +kernel
theorem dL_lad_13 : decode cL_lad 13 = .ok (.iconst 1, 1) := by decide +kernel
theorem dL_lad_14 : decode cL_lad 14 = .ok (.ireturn, 1) := by decide +kernel
theorem dL_lad_15 : decode cL_lad 15 = .ok (.iconst 0, 1) := by decide +kernel
theorem dL_lad_16 : decode cL_lad 16 = .ok (.ireturn, 1) := by decide +kernel
abbrev hL_lad : tl_hs := [(0, 9, 12, 13)]
abbrev mL_lad : tl_M := (yL_lad, cL_lad, 4, some .int, tl_rm 9 1 6)
theorem cw_L_lad : tl_w9 mL_lad hL_lad ∈ tl_GW := tl_inGW (tl_in4 (List.mem_of_getElem? (i := 63) rfl)) rfl
theorem cs_L_lad : tl_cV mL_lad mX9_lad 36 1 := ⟨cd_X9_lad, ml_L_36, im_X9_lad, se_X9_lad, in_X9, ⟨by decide, by decide, by decide +kernel⟩, Nat.le_of_ble_eq_true rfl, Nat.le_of_ble_eq_true rfl⟩
theorem lL_lad {E : tl_E} {p0 : Int32} {u v : tl_S} {t : Nat} {r : Int32} (h : f9_lad E.2.1 p0 u = some (t, r, v)) (hl : t = 0 ∨ t ∈ [2]) : tl_MetH E mL_lad hL_lad [.ref E.2.1, .int p0, .ref (E.2.1 + 566)] (tl_HB E u) (fun q H => ∃ w, tl_Qw E [2] t r v q w ∧ tl_HB E w H) := by
  refine tl_startH [some (.ref E.2.1), some (.int p0), some (.ref (E.2.1 + 566)), none] rfl rfl rfl (Nat.le_of_ble_eq_true rfl) ?_
  refine tl_aload_n (q := 2) dL_lad_0 rfl (tl_iconst dL_lad_1 ic_0 (tl_aload_n (q := 0) dL_lad_2 rfl (tl_iload_n (q := 1) dL_lad_3 rfl ?_)))
  exact tl_wtail (As := [.int p0]) (l := [2]) (tgt := 15) (l9_lad tl_T9 h) hl (by decide) rfl rfl dL_lad_4 cs_L_lad ⟨Nat.le_of_ble_eq_true rfl, Nat.le_of_ble_eq_true rfl⟩ dL_lad_7 dL_lad_8 dL_lad_9 (by decide) dL_lad_15 dL_lad_16 (List.forall_mem_cons.mpr ⟨⟨12, ⟨[], [], 0, 9, 13, rfl, ⟨Nat.le_of_ble_eq_true rfl, Nat.le_of_ble_eq_true rfl⟩, by decide, kk_L_13, fun _ h => absurd h List.not_mem_nil⟩, ⟨13, 1, Or.inl ⟨3, dL_lad_12, by decide, rfl⟩, dL_lad_13, i9_1, dL_lad_14⟩⟩, fun _ h => absurd h List.not_mem_nil⟩)
theorem dL_orderOf_0 : decode cL_orderOf 0 = .ok (.aload_n 3, 1) := by decide +kernel
theorem dL_orderOf_1 : decode cL_orderOf 1 = .ok (.iconst 0, 1) := by decide +kernel
theorem dL_orderOf_2 : decode cL_orderOf 2 = .ok (.aload_n 0, 1) := by decide +kernel
theorem dL_orderOf_3 : decode cL_orderOf 3 = .ok (.iload_n 1, 1) := by decide +kernel
theorem dL_orderOf_4 : decode cL_orderOf 4 = .ok (.iload_n 2, 1) := by decide +kernel
theorem dL_orderOf_5 : decode cL_orderOf 5 = .ok (.invokevirtual 39, 3) := by decide +kernel
theorem dL_orderOf_8 : decode cL_orderOf 8 = .ok (.i2l, 1) := by decide +kernel
theorem dL_orderOf_9 : decode cL_orderOf 9 = .ok (.lastore, 1) := by decide +kernel
theorem dL_orderOf_10 : decode cL_orderOf 10 = .ok (.goto 11, 3) := by decide +kernel
theorem dL_orderOf_13 : decode cL_orderOf 13 = .ok (.astore 4, 2) := by decide +kernel
theorem dL_orderOf_15 : decode cL_orderOf 15 = .ok (.iconst 1, 1) := by decide +kernel
theorem dL_orderOf_16 : decode cL_orderOf 16 = .ok (.ireturn, 1) := by decide +kernel
theorem dL_orderOf_17 : decode cL_orderOf 17 = .ok (.astore 4, 2) := by decide +kernel
theorem dL_orderOf_19 : decode cL_orderOf 19 = .ok (.iconst 2, 1) := by decide +kernel
theorem dL_orderOf_20 : decode cL_orderOf 20 = .ok (.ireturn, 1) := by decide +kernel
theorem dL_orderOf_21 : decode cL_orderOf 21 = .ok (.iconst 0, 1) := by decide +kernel
theorem dL_orderOf_22 : decode cL_orderOf 22 = .ok (.ireturn, 1) := by decide +kernel
abbrev hL_orderOf : tl_hs := [(0, 10, 13, 28), (0, 10, 17, 13)]
abbrev mL_orderOf : tl_M := (yL_orderOf, cL_orderOf, 5, some .int, tl_rm 9 1 6)
theorem cw_L_orderOf : tl_w9 mL_orderOf hL_orderOf ∈ tl_GW := tl_inGW (tl_in4 (List.mem_of_getElem? (i := 71) rfl)) rfl
theorem cs_L_orderOf : tl_cV mL_orderOf mX9_orderOf 39 2 := ⟨cd_X9_orderOf, ml_L_39, im_X9_orderOf, se_X9_orderOf, in_X9, ⟨by decide, by decide, by decide +kernel⟩, Nat.le_of_ble_eq_true rfl, Nat.le_of_ble_eq_true rfl⟩
theorem lL_orderOf {E : tl_E} {p0 : Int32} {p1 : Int32} {u v : tl_S} {t : Nat} {r : Int32} (h : f9_orderOf E.2.1 p0 p1 u = some (t, r, v)) (hl : t = 0 ∨ t ∈ [1, 2]) : tl_MetH E mL_orderOf hL_orderOf [.ref E.2.1, .int p0, .int p1, .ref (E.2.1 + 566)] (tl_HB E u) (fun q H => ∃ w, tl_Qw E [1, 2] t r v q w ∧ tl_HB E w H) := by
  refine tl_startH [some (.ref E.2.1), some (.int p0), some (.int p1), some (.ref (E.2.1 + 566)), none] rfl rfl rfl (Nat.le_of_ble_eq_true rfl) ?_
  refine tl_aload_n (q := 3) dL_orderOf_0 rfl (tl_iconst dL_orderOf_1 ic_0 (tl_aload_n (q := 0) dL_orderOf_2 rfl (tl_iload_n (q := 1) dL_orderOf_3 rfl (tl_iload_n (q := 2) dL_orderOf_4 rfl ?_))))
  exact tl_wtail (As := [.int p0, .int p1]) (l := [1, 2]) (tgt := 21) (l9_orderOf tl_T9 h) hl (by decide) rfl rfl dL_orderOf_5 cs_L_orderOf ⟨Nat.le_of_ble_eq_true rfl, Nat.le_of_ble_eq_true rfl⟩ dL_orderOf_8 dL_orderOf_9 dL_orderOf_10 (by decide) dL_orderOf_21 dL_orderOf_22 (List.forall_mem_cons.mpr ⟨⟨13, ⟨[], [(0, 10, 17, 13)], 0, 10, 28, rfl, ⟨Nat.le_of_ble_eq_true rfl, Nat.le_of_ble_eq_true rfl⟩, by decide, kk_L_28, fun _ h => absurd h List.not_mem_nil⟩, ⟨15, 1, Or.inr ⟨4, dL_orderOf_13, by decide, rfl⟩, dL_orderOf_15, i9_1, dL_orderOf_16⟩⟩, List.forall_mem_cons.mpr ⟨⟨17, ⟨[(0, 10, 13, 28)], [], 0, 10, 13, rfl, ⟨Nat.le_of_ble_eq_true rfl, Nat.le_of_ble_eq_true rfl⟩, by decide, kk_L_13, List.forall_mem_cons.mpr ⟨⟨by decide, tl_xn 1, tl_xnC 1, kk_L_28, tl_x21⟩, fun _ h => absurd h List.not_mem_nil⟩⟩, ⟨19, 2, Or.inr ⟨4, dL_orderOf_17, by decide, rfl⟩, dL_orderOf_19, i9_2, dL_orderOf_20⟩⟩, fun _ h => absurd h List.not_mem_nil⟩⟩)
theorem dL_lit_0 : decode cL_lit 0 = .ok (.aload_n 3, 1) := by decide +kernel
theorem dL_lit_1 : decode cL_lit 1 = .ok (.iconst 0, 1) := by decide +kernel
theorem dL_lit_2 : decode cL_lit 2 = .ok (.aload_n 0, 1) := by decide +kernel
theorem dL_lit_3 : decode cL_lit 3 = .ok (.iload_n 1, 1) := by decide +kernel
theorem dL_lit_4 : decode cL_lit 4 = .ok (.iload_n 2, 1) := by decide +kernel
theorem dL_lit_5 : decode cL_lit 5 = .ok (.invokevirtual 42, 3) := by decide +kernel
theorem dL_lit_8 : decode cL_lit 8 = .ok (.i2l, 1) := by decide +kernel
theorem dL_lit_9 : decode cL_lit 9 = .ok (.lastore, 1) := by decide +kernel
theorem dL_lit_10 : decode cL_lit 10 = .ok (.goto 11, 3) := by decide +kernel
theorem dL_lit_13 : decode cL_lit 13 = .ok (.astore 4, 2) := by decide +kernel
theorem dL_lit_15 : decode cL_lit 15 = .ok (.iconst 1, 1) := by decide +kernel
theorem dL_lit_16 : decode cL_lit 16 = .ok (.ireturn, 1) := by decide +kernel
theorem dL_lit_17 : decode cL_lit 17 = .ok (.astore 4, 2) := by decide +kernel
theorem dL_lit_19 : decode cL_lit 19 = .ok (.iconst 2, 1) := by decide +kernel
theorem dL_lit_20 : decode cL_lit 20 = .ok (.ireturn, 1) := by decide +kernel
theorem dL_lit_21 : decode cL_lit 21 = .ok (.iconst 0, 1) := by decide +kernel
theorem dL_lit_22 : decode cL_lit 22 = .ok (.ireturn, 1) := by decide +kernel
abbrev hL_lit : tl_hs := [(0, 10, 13, 28), (0, 10, 17, 13)]
abbrev mL_lit : tl_M := (yL_lit, cL_lit, 5, some .int, tl_rm 9 1 6)
theorem cw_L_lit : tl_w9 mL_lit hL_lit ∈ tl_GW := tl_inGW (tl_in4 (List.mem_of_getElem? (i := 79) rfl)) rfl
theorem cs_L_lit : tl_cV mL_lit mX9_lit 42 2 := ⟨cd_X9_lit, ml_L_42, im_X9_lit, se_X9_lit, in_X9, ⟨by decide, by decide, by decide +kernel⟩, Nat.le_of_ble_eq_true rfl, Nat.le_of_ble_eq_true rfl⟩
theorem lL_lit {E : tl_E} {p0 : Int32} {p1 : Int32} {u v : tl_S} {t : Nat} {r : Int32} (h : f9_lit E.2.1 p0 p1 u = some (t, r, v)) (hl : t = 0 ∨ t ∈ [1, 2]) : tl_MetH E mL_lit hL_lit [.ref E.2.1, .int p0, .int p1, .ref (E.2.1 + 566)] (tl_HB E u) (fun q H => ∃ w, tl_Qw E [1, 2] t r v q w ∧ tl_HB E w H) := by
  refine tl_startH [some (.ref E.2.1), some (.int p0), some (.int p1), some (.ref (E.2.1 + 566)), none] rfl rfl rfl (Nat.le_of_ble_eq_true rfl) ?_
  refine tl_aload_n (q := 3) dL_lit_0 rfl (tl_iconst dL_lit_1 ic_0 (tl_aload_n (q := 0) dL_lit_2 rfl (tl_iload_n (q := 1) dL_lit_3 rfl (tl_iload_n (q := 2) dL_lit_4 rfl ?_))))
  exact tl_wtail (As := [.int p0, .int p1]) (l := [1, 2]) (tgt := 21) (l9_lit tl_T9 h) hl (by decide) rfl rfl dL_lit_5 cs_L_lit ⟨Nat.le_of_ble_eq_true rfl, Nat.le_of_ble_eq_true rfl⟩ dL_lit_8 dL_lit_9 dL_lit_10 (by decide) dL_lit_21 dL_lit_22 (List.forall_mem_cons.mpr ⟨⟨13, ⟨[], [(0, 10, 17, 13)], 0, 10, 28, rfl, ⟨Nat.le_of_ble_eq_true rfl, Nat.le_of_ble_eq_true rfl⟩, by decide, kk_L_28, fun _ h => absurd h List.not_mem_nil⟩, ⟨15, 1, Or.inr ⟨4, dL_lit_13, by decide, rfl⟩, dL_lit_15, i9_1, dL_lit_16⟩⟩, List.forall_mem_cons.mpr ⟨⟨17, ⟨[(0, 10, 13, 28)], [], 0, 10, 13, rfl, ⟨Nat.le_of_ble_eq_true rfl, Nat.le_of_ble_eq_true rfl⟩, by decide, kk_L_13, List.forall_mem_cons.mpr ⟨⟨by decide, tl_xn 1, tl_xnC 1, kk_L_28, tl_x21⟩, fun _ h => absurd h List.not_mem_nil⟩⟩, ⟨19, 2, Or.inr ⟨4, dL_lit_17, by decide, rfl⟩, dL_lit_19, i9_2, dL_lit_20⟩⟩, fun _ h => absurd h List.not_mem_nil⟩⟩)
theorem dL_gallery_0 : decode cL_gallery 0 = .ok (.aload_n 2, 1) := by decide +kernel
theorem dL_gallery_1 : decode cL_gallery 1 = .ok (.iconst 0, 1) := by decide +kernel
theorem dL_gallery_2 : decode cL_gallery 2 = .ok (.aload_n 0, 1) := by decide +kernel
theorem dL_gallery_3 : decode cL_gallery 3 = .ok (.iload_n 1, 1) := by decide +kernel
theorem dL_gallery_4 : decode cL_gallery 4 = .ok (.invokevirtual 45, 3) := by decide +kernel
theorem dL_gallery_7 : decode cL_gallery 7 = .ok (.i2l, 1) := by decide +kernel
theorem dL_gallery_8 : decode cL_gallery 8 = .ok (.lastore, 1) := by decide +kernel
theorem dL_gallery_9 : decode cL_gallery 9 = .ok (.goto 9, 3) := by decide +kernel
theorem dL_gallery_12 : decode cL_gallery 12 = .ok (.astore_n 3, 1) := by decide +kernel
theorem dL_gallery_13 : decode cL_gallery 13 = .ok (.iconst 1, 1) := by decide +kernel
theorem dL_gallery_14 : decode cL_gallery 14 = .ok (.ireturn, 1) := by decide +kernel
theorem dL_gallery_15 : decode cL_gallery 15 = .ok (.astore_n 3, 1) := by decide +kernel
theorem dL_gallery_16 : decode cL_gallery 16 = .ok (.iconst 2, 1) := by decide +kernel
theorem dL_gallery_17 : decode cL_gallery 17 = .ok (.ireturn, 1) := by decide +kernel
theorem dL_gallery_18 : decode cL_gallery 18 = .ok (.iconst 0, 1) := by decide +kernel
theorem dL_gallery_19 : decode cL_gallery 19 = .ok (.ireturn, 1) := by decide +kernel
abbrev hL_gallery : tl_hs := [(0, 9, 12, 13), (0, 9, 15, 15)]
abbrev mL_gallery : tl_M := (yL_gallery, cL_gallery, 4, some .int, tl_rm 9 1 6)
theorem cw_L_gallery : tl_w9 mL_gallery hL_gallery ∈ tl_GW := tl_inGW (tl_in4 (List.mem_of_getElem? (i := 97) rfl)) rfl
theorem cs_L_gallery : tl_cV mL_gallery mX9_gallery 45 1 := ⟨cd_X9_gallery, ml_L_45, im_X9_gallery, se_X9_gallery, in_X9, ⟨by decide, by decide, by decide +kernel⟩, Nat.le_of_ble_eq_true rfl, Nat.le_of_ble_eq_true rfl⟩
theorem lL_gallery {E : tl_E} {p0 : Int32} {u v : tl_S} {t : Nat} {r : Int32} (h : f9_gallery E.2.1 p0 u = some (t, r, v)) (hl : t = 0 ∨ t ∈ [2, 3]) : tl_MetH E mL_gallery hL_gallery [.ref E.2.1, .int p0, .ref (E.2.1 + 566)] (tl_HB E u) (fun q H => ∃ w, tl_Qw E [2, 3] t r v q w ∧ tl_HB E w H) := by
  refine tl_startH [some (.ref E.2.1), some (.int p0), some (.ref (E.2.1 + 566)), none] rfl rfl rfl (Nat.le_of_ble_eq_true rfl) ?_
  refine tl_aload_n (q := 2) dL_gallery_0 rfl (tl_iconst dL_gallery_1 ic_0 (tl_aload_n (q := 0) dL_gallery_2 rfl (tl_iload_n (q := 1) dL_gallery_3 rfl ?_)))
  exact tl_wtail (As := [.int p0]) (l := [2, 3]) (tgt := 18) (l9_gallery tl_T9 h) hl (by decide) rfl rfl dL_gallery_4 cs_L_gallery ⟨Nat.le_of_ble_eq_true rfl, Nat.le_of_ble_eq_true rfl⟩ dL_gallery_7 dL_gallery_8 dL_gallery_9 (by decide) dL_gallery_18 dL_gallery_19 (List.forall_mem_cons.mpr ⟨⟨12, ⟨[], [(0, 9, 15, 15)], 0, 9, 13, rfl, ⟨Nat.le_of_ble_eq_true rfl, Nat.le_of_ble_eq_true rfl⟩, by decide, kk_L_13, fun _ h => absurd h List.not_mem_nil⟩, ⟨13, 1, Or.inl ⟨3, dL_gallery_12, by decide, rfl⟩, dL_gallery_13, i9_1, dL_gallery_14⟩⟩, List.forall_mem_cons.mpr ⟨⟨15, ⟨[(0, 9, 12, 13)], [], 0, 9, 15, rfl, ⟨Nat.le_of_ble_eq_true rfl, Nat.le_of_ble_eq_true rfl⟩, by decide, kk_L_15, List.forall_mem_cons.mpr ⟨⟨by decide, tl_xn 2, tl_xnC 2, kk_L_13, tl_x32⟩, fun _ h => absurd h List.not_mem_nil⟩⟩, ⟨16, 2, Or.inl ⟨3, dL_gallery_15, by decide, rfl⟩, dL_gallery_16, i9_2, dL_gallery_17⟩⟩, fun _ h => absurd h List.not_mem_nil⟩⟩)
theorem dL_miner_0 : decode cL_miner 0 = .ok (.aload_n 3, 1) := by decide +kernel
theorem dL_miner_1 : decode cL_miner 1 = .ok (.iconst 0, 1) := by decide +kernel
theorem dL_miner_2 : decode cL_miner 2 = .ok (.aload_n 0, 1) := by decide +kernel
theorem dL_miner_3 : decode cL_miner 3 = .ok (.iload_n 1, 1) := by decide +kernel
theorem dL_miner_4 : decode cL_miner 4 = .ok (.iload_n 2, 1) := by decide +kernel
theorem dL_miner_5 : decode cL_miner 5 = .ok (.invokevirtual 48, 3) := by decide +kernel
theorem dL_miner_8 : decode cL_miner 8 = .ok (.i2l, 1) := by decide +kernel
theorem dL_miner_9 : decode cL_miner 9 = .ok (.lastore, 1) := by decide +kernel
theorem dL_miner_10 : decode cL_miner 10 = .ok (.goto 15, 3) := by decide +kernel
theorem dL_miner_13 : decode cL_miner 13 = .ok (.astore 4, 2) := by decide +kernel
theorem dL_miner_15 : decode cL_miner 15 = .ok (.iconst 1, 1) := by decide +kernel
theorem dL_miner_16 : decode cL_miner 16 = .ok (.ireturn, 1) := by decide +kernel
theorem dL_miner_17 : decode cL_miner 17 = .ok (.astore 4, 2) := by decide +kernel
theorem dL_miner_19 : decode cL_miner 19 = .ok (.iconst 2, 1) := by decide +kernel
theorem dL_miner_20 : decode cL_miner 20 = .ok (.ireturn, 1) := by decide +kernel
theorem dL_miner_21 : decode cL_miner 21 = .ok (.astore 4, 2) := by decide +kernel
theorem dL_miner_23 : decode cL_miner 23 = .ok (.iconst 3, 1) := by decide +kernel
theorem dL_miner_24 : decode cL_miner 24 = .ok (.ireturn, 1) := by decide +kernel
theorem dL_miner_25 : decode cL_miner 25 = .ok (.iconst 0, 1) := by decide +kernel
theorem dL_miner_26 : decode cL_miner 26 = .ok (.ireturn, 1) := by decide +kernel
abbrev hL_miner : tl_hs := [(0, 10, 13, 28), (0, 10, 17, 13), (0, 10, 21, 15)]
abbrev mL_miner : tl_M := (yL_miner, cL_miner, 5, some .int, tl_rm 9 1 6)
theorem cw_L_miner : tl_w9 mL_miner hL_miner ∈ tl_GW := tl_inGW (tl_in4 (List.mem_of_getElem? (i := 116) rfl)) rfl
theorem cs_L_miner : tl_cV mL_miner mX9_miner 48 2 := ⟨cd_X9_miner, ml_L_48, im_X9_miner, se_X9_miner, in_X9, ⟨by decide, by decide, by decide +kernel⟩, Nat.le_of_ble_eq_true rfl, Nat.le_of_ble_eq_true rfl⟩
theorem lL_miner {E : tl_E} {p0 : Int32} {p1 : Int32} {u v : tl_S} {t : Nat} {r : Int32} (h : f9_miner E.2.1 p0 p1 u = some (t, r, v)) (hl : t = 0 ∨ t ∈ [1, 2, 3]) : tl_MetH E mL_miner hL_miner [.ref E.2.1, .int p0, .int p1, .ref (E.2.1 + 566)] (tl_HB E u) (fun q H => ∃ w, tl_Qw E [1, 2, 3] t r v q w ∧ tl_HB E w H) := by
  refine tl_startH [some (.ref E.2.1), some (.int p0), some (.int p1), some (.ref (E.2.1 + 566)), none] rfl rfl rfl (Nat.le_of_ble_eq_true rfl) ?_
  refine tl_aload_n (q := 3) dL_miner_0 rfl (tl_iconst dL_miner_1 ic_0 (tl_aload_n (q := 0) dL_miner_2 rfl (tl_iload_n (q := 1) dL_miner_3 rfl (tl_iload_n (q := 2) dL_miner_4 rfl ?_))))
  exact tl_wtail (As := [.int p0, .int p1]) (l := [1, 2, 3]) (tgt := 25) (l9_miner tl_T9 h) hl (by decide) rfl rfl dL_miner_5 cs_L_miner ⟨Nat.le_of_ble_eq_true rfl, Nat.le_of_ble_eq_true rfl⟩ dL_miner_8 dL_miner_9 dL_miner_10 (by decide) dL_miner_25 dL_miner_26 (List.forall_mem_cons.mpr ⟨⟨13, ⟨[], [(0, 10, 17, 13), (0, 10, 21, 15)], 0, 10, 28, rfl, ⟨Nat.le_of_ble_eq_true rfl, Nat.le_of_ble_eq_true rfl⟩, by decide, kk_L_28, fun _ h => absurd h List.not_mem_nil⟩, ⟨15, 1, Or.inr ⟨4, dL_miner_13, by decide, rfl⟩, dL_miner_15, i9_1, dL_miner_16⟩⟩, List.forall_mem_cons.mpr ⟨⟨17, ⟨[(0, 10, 13, 28)], [(0, 10, 21, 15)], 0, 10, 13, rfl, ⟨Nat.le_of_ble_eq_true rfl, Nat.le_of_ble_eq_true rfl⟩, by decide, kk_L_13, List.forall_mem_cons.mpr ⟨⟨by decide, tl_xn 1, tl_xnC 1, kk_L_28, tl_x21⟩, fun _ h => absurd h List.not_mem_nil⟩⟩, ⟨19, 2, Or.inr ⟨4, dL_miner_17, by decide, rfl⟩, dL_miner_19, i9_2, dL_miner_20⟩⟩, List.forall_mem_cons.mpr ⟨⟨21, ⟨[(0, 10, 13, 28), (0, 10, 17, 13)], [], 0, 10, 15, rfl, ⟨Nat.le_of_ble_eq_true rfl, Nat.le_of_ble_eq_true rfl⟩, by decide, kk_L_15, List.forall_mem_cons.mpr ⟨⟨by decide, tl_xn 1, tl_xnC 1, kk_L_28, tl_x31⟩, List.forall_mem_cons.mpr ⟨⟨by decide, tl_xn 2, tl_xnC 2, kk_L_13, tl_x32⟩, fun _ h => absurd h List.not_mem_nil⟩⟩⟩, ⟨23, 3, Or.inr ⟨4, dL_miner_21, by decide, rfl⟩, dL_miner_23, i9_3, dL_miner_24⟩⟩, fun _ h => absurd h List.not_mem_nil⟩⟩⟩)
theorem dL_send_0 : decode cL_send 0 = .ok (.aload_n 3, 1) := by decide +kernel
theorem dL_send_1 : decode cL_send 1 = .ok (.iconst 0, 1) := by decide +kernel
theorem dL_send_2 : decode cL_send 2 = .ok (.aload_n 0, 1) := by decide +kernel
theorem dL_send_3 : decode cL_send 3 = .ok (.iload_n 1, 1) := by decide +kernel
theorem dL_send_4 : decode cL_send 4 = .ok (.iload_n 2, 1) := by decide +kernel
theorem dL_send_5 : decode cL_send 5 = .ok (.invokevirtual 51, 3) := by decide +kernel
theorem dL_send_8 : decode cL_send 8 = .ok (.i2l, 1) := by decide +kernel
theorem dL_send_9 : decode cL_send 9 = .ok (.lastore, 1) := by decide +kernel
theorem dL_send_10 : decode cL_send 10 = .ok (.goto 7, 3) := by decide +kernel
theorem dL_send_13 : decode cL_send 13 = .ok (.astore 4, 2) := by decide +kernel
theorem dL_send_15 : decode cL_send 15 = .ok (.iconst 1, 1) := by decide +kernel
theorem dL_send_16 : decode cL_send 16 = .ok (.ireturn, 1) := by decide +kernel
theorem dL_send_17 : decode cL_send 17 = .ok (.iconst 0, 1) := by decide +kernel
theorem dL_send_18 : decode cL_send 18 = .ok (.ireturn, 1) := by decide +kernel
abbrev hL_send : tl_hs := [(0, 10, 13, 28)]
abbrev mL_send : tl_M := (yL_send, cL_send, 5, some .int, tl_rm 9 1 6)
theorem cw_L_send : tl_w9 mL_send hL_send ∈ tl_GW := tl_inGW (tl_in4 (List.mem_of_getElem? (i := 123) rfl)) rfl
theorem cs_L_send : tl_cV mL_send mX9_send 51 2 := ⟨cd_X9_send, ml_L_51, im_X9_send, se_X9_send, in_X9, ⟨by decide, by decide, by decide +kernel⟩, Nat.le_of_ble_eq_true rfl, Nat.le_of_ble_eq_true rfl⟩
theorem lL_send {E : tl_E} {p0 : Int32} {p1 : Int32} {u v : tl_S} {t : Nat} {r : Int32} (h : f9_send E.2.1 p0 p1 u = some (t, r, v)) (hl : t = 0 ∨ t ∈ [1]) : tl_MetH E mL_send hL_send [.ref E.2.1, .int p0, .int p1, .ref (E.2.1 + 566)] (tl_HB E u) (fun q H => ∃ w, tl_Qw E [1] t r v q w ∧ tl_HB E w H) := by
  refine tl_startH [some (.ref E.2.1), some (.int p0), some (.int p1), some (.ref (E.2.1 + 566)), none] rfl rfl rfl (Nat.le_of_ble_eq_true rfl) ?_
  refine tl_aload_n (q := 3) dL_send_0 rfl (tl_iconst dL_send_1 ic_0 (tl_aload_n (q := 0) dL_send_2 rfl (tl_iload_n (q := 1) dL_send_3 rfl (tl_iload_n (q := 2) dL_send_4 rfl ?_))))
  exact tl_wtail (As := [.int p0, .int p1]) (l := [1]) (tgt := 17) (l9_send tl_T9 h) hl (by decide) rfl rfl dL_send_5 cs_L_send ⟨Nat.le_of_ble_eq_true rfl, Nat.le_of_ble_eq_true rfl⟩ dL_send_8 dL_send_9 dL_send_10 (by decide) dL_send_17 dL_send_18 (List.forall_mem_cons.mpr ⟨⟨13, ⟨[], [], 0, 10, 28, rfl, ⟨Nat.le_of_ble_eq_true rfl, Nat.le_of_ble_eq_true rfl⟩, by decide, kk_L_28, fun _ h => absurd h List.not_mem_nil⟩, ⟨15, 1, Or.inr ⟨4, dL_send_13, by decide, rfl⟩, dL_send_15, i9_1, dL_send_16⟩⟩, fun _ h => absurd h List.not_mem_nil⟩)
theorem dL_lamp_0 : decode cL_lamp 0 = .ok (.aload 5, 2) := by decide +kernel
theorem dL_lamp_2 : decode cL_lamp 2 = .ok (.iconst 0, 1) := by decide +kernel
theorem dL_lamp_3 : decode cL_lamp 3 = .ok (.aload_n 0, 1) := by decide +kernel
theorem dL_lamp_4 : decode cL_lamp 4 = .ok (.iload_n 1, 1) := by decide +kernel
theorem dL_lamp_5 : decode cL_lamp 5 = .ok (.iload_n 2, 1) := by decide +kernel
theorem dL_lamp_6 : decode cL_lamp 6 = .ok (.iload_n 3, 1) := by decide +kernel
theorem dL_lamp_7 : decode cL_lamp 7 = .ok (.iload 4, 2) := by decide +kernel
theorem dL_lamp_9 : decode cL_lamp 9 = .ok (.invokevirtual 54, 3) := by decide +kernel
theorem dL_lamp_12 : decode cL_lamp 12 = .ok (.i2l, 1) := by decide +kernel
theorem dL_lamp_13 : decode cL_lamp 13 = .ok (.lastore, 1) := by decide +kernel
theorem dL_lamp_14 : decode cL_lamp 14 = .ok (.goto 15, 3) := by decide +kernel
theorem dL_lamp_17 : decode cL_lamp 17 = .ok (.astore 6, 2) := by decide +kernel
theorem dL_lamp_19 : decode cL_lamp 19 = .ok (.iconst 1, 1) := by decide +kernel
theorem dL_lamp_20 : decode cL_lamp 20 = .ok (.ireturn, 1) := by decide +kernel
theorem dL_lamp_21 : decode cL_lamp 21 = .ok (.astore 6, 2) := by decide +kernel
theorem dL_lamp_23 : decode cL_lamp 23 = .ok (.iconst 2, 1) := by decide +kernel
theorem dL_lamp_24 : decode cL_lamp 24 = .ok (.ireturn, 1) := by decide +kernel
theorem dL_lamp_25 : decode cL_lamp 25 = .ok (.astore 6, 2) := by decide +kernel
theorem dL_lamp_27 : decode cL_lamp 27 = .ok (.iconst 3, 1) := by decide +kernel
theorem dL_lamp_28 : decode cL_lamp 28 = .ok (.ireturn, 1) := by decide +kernel
theorem dL_lamp_29 : decode cL_lamp 29 = .ok (.iconst 0, 1) := by decide +kernel
theorem dL_lamp_30 : decode cL_lamp 30 = .ok (.ireturn, 1) := by decide +kernel
abbrev hL_lamp : tl_hs := [(0, 14, 17, 28), (0, 14, 21, 13), (0, 14, 25, 15)]
abbrev mL_lamp : tl_M := (yL_lamp, cL_lamp, 7, some .int, tl_rm 9 1 6)
theorem cw_L_lamp : tl_w9 mL_lamp hL_lamp ∈ tl_GW := tl_inGW (tl_in4 (List.mem_of_getElem? (i := 130) rfl)) rfl
theorem cs_L_lamp : tl_cV mL_lamp mX9_lamp 54 4 := ⟨cd_X9_lamp, ml_L_54, im_X9_lamp, se_X9_lamp, in_X9, ⟨by decide, by decide, by decide +kernel⟩, Nat.le_of_ble_eq_true rfl, Nat.le_of_ble_eq_true rfl⟩
theorem lL_lamp {E : tl_E} {p0 : Int32} {p1 : Int32} {p2 : Int32} {p3 : Int32} {u v : tl_S} {t : Nat} {r : Int32} (h : f9_lamp E.2.1 p0 p1 p2 p3 u = some (t, r, v)) (hl : t = 0 ∨ t ∈ [1, 2, 3]) : tl_MetH E mL_lamp hL_lamp [.ref E.2.1, .int p0, .int p1, .int p2, .int p3, .ref (E.2.1 + 566)] (tl_HB E u) (fun q H => ∃ w, tl_Qw E [1, 2, 3] t r v q w ∧ tl_HB E w H) := by
  refine tl_startH [some (.ref E.2.1), some (.int p0), some (.int p1), some (.int p2), some (.int p3), some (.ref (E.2.1 + 566)), none] rfl rfl rfl (Nat.le_of_ble_eq_true rfl) ?_
  refine tl_aload dL_lamp_0 rfl (tl_iconst dL_lamp_2 ic_0 (tl_aload_n (q := 0) dL_lamp_3 rfl (tl_iload_n (q := 1) dL_lamp_4 rfl (tl_iload_n (q := 2) dL_lamp_5 rfl (tl_iload_n (q := 3) dL_lamp_6 rfl (tl_iload dL_lamp_7 rfl ?_))))))
  exact tl_wtail (As := [.int p0, .int p1, .int p2, .int p3]) (l := [1, 2, 3]) (tgt := 29) (l9_lamp tl_T9 h) hl (by decide) rfl rfl dL_lamp_9 cs_L_lamp ⟨Nat.le_of_ble_eq_true rfl, Nat.le_of_ble_eq_true rfl⟩ dL_lamp_12 dL_lamp_13 dL_lamp_14 (by decide) dL_lamp_29 dL_lamp_30 (List.forall_mem_cons.mpr ⟨⟨17, ⟨[], [(0, 14, 21, 13), (0, 14, 25, 15)], 0, 14, 28, rfl, ⟨Nat.le_of_ble_eq_true rfl, Nat.le_of_ble_eq_true rfl⟩, by decide, kk_L_28, fun _ h => absurd h List.not_mem_nil⟩, ⟨19, 1, Or.inr ⟨6, dL_lamp_17, by decide, rfl⟩, dL_lamp_19, i9_1, dL_lamp_20⟩⟩, List.forall_mem_cons.mpr ⟨⟨21, ⟨[(0, 14, 17, 28)], [(0, 14, 25, 15)], 0, 14, 13, rfl, ⟨Nat.le_of_ble_eq_true rfl, Nat.le_of_ble_eq_true rfl⟩, by decide, kk_L_13, List.forall_mem_cons.mpr ⟨⟨by decide, tl_xn 1, tl_xnC 1, kk_L_28, tl_x21⟩, fun _ h => absurd h List.not_mem_nil⟩⟩, ⟨23, 2, Or.inr ⟨6, dL_lamp_21, by decide, rfl⟩, dL_lamp_23, i9_2, dL_lamp_24⟩⟩, List.forall_mem_cons.mpr ⟨⟨25, ⟨[(0, 14, 17, 28), (0, 14, 21, 13)], [], 0, 14, 15, rfl, ⟨Nat.le_of_ble_eq_true rfl, Nat.le_of_ble_eq_true rfl⟩, by decide, kk_L_15, List.forall_mem_cons.mpr ⟨⟨by decide, tl_xn 1, tl_xnC 1, kk_L_28, tl_x31⟩, List.forall_mem_cons.mpr ⟨⟨by decide, tl_xn 2, tl_xnC 2, kk_L_13, tl_x32⟩, fun _ h => absurd h List.not_mem_nil⟩⟩⟩, ⟨27, 3, Or.inr ⟨6, dL_lamp_25, by decide, rfl⟩, dL_lamp_27, i9_3, dL_lamp_28⟩⟩, fun _ h => absurd h List.not_mem_nil⟩⟩⟩)
theorem dL_store_0 : decode cL_store 0 = .ok (.aload_n 2, 1) := by decide +kernel
theorem dL_store_1 : decode cL_store 1 = .ok (.iconst 0, 1) := by decide +kernel
theorem dL_store_2 : decode cL_store 2 = .ok (.aload_n 0, 1) := by decide +kernel
theorem dL_store_3 : decode cL_store 3 = .ok (.iload_n 1, 1) := by decide +kernel
theorem dL_store_4 : decode cL_store 4 = .ok (.invokevirtual 58, 3) := by decide +kernel
theorem dL_store_7 : decode cL_store 7 = .ok (.i2l, 1) := by decide +kernel
theorem dL_store_8 : decode cL_store 8 = .ok (.lastore, 1) := by decide +kernel
theorem dL_store_9 : decode cL_store 9 = .ok (.goto 9, 3) := by decide +kernel
theorem dL_store_12 : decode cL_store 12 = .ok (.astore_n 3, 1) := by decide +kernel
theorem dL_store_13 : decode cL_store 13 = .ok (.iconst 1, 1) := by decide +kernel
theorem dL_store_14 : decode cL_store 14 = .ok (.ireturn, 1) := by decide +kernel
theorem dL_store_15 : decode cL_store 15 = .ok (.astore_n 3, 1) := by decide +kernel
theorem dL_store_16 : decode cL_store 16 = .ok (.iconst 2, 1) := by decide +kernel
theorem dL_store_17 : decode cL_store 17 = .ok (.ireturn, 1) := by decide +kernel
theorem dL_store_18 : decode cL_store 18 = .ok (.iconst 0, 1) := by decide +kernel
theorem dL_store_19 : decode cL_store 19 = .ok (.ireturn, 1) := by decide +kernel
abbrev hL_store : tl_hs := [(0, 9, 12, 13), (0, 9, 15, 15)]
abbrev mL_store : tl_M := (yL_store, cL_store, 4, some .int, tl_rm 9 1 6)
theorem cw_L_store : tl_w9 mL_store hL_store ∈ tl_GW := tl_inGW (tl_in4 (List.mem_of_getElem? (i := 137) rfl)) rfl
theorem cs_L_store : tl_cV mL_store mX9_store 58 1 := ⟨cd_X9_store, ml_L_58, im_X9_store, se_X9_store, in_X9, ⟨by decide, by decide, by decide +kernel⟩, Nat.le_of_ble_eq_true rfl, Nat.le_of_ble_eq_true rfl⟩
theorem lL_store {E : tl_E} {p0 : Int32} {u v : tl_S} {t : Nat} {r : Int32} (h : f9_store E.2.1 p0 u = some (t, r, v)) (hl : t = 0 ∨ t ∈ [2, 3]) : tl_MetH E mL_store hL_store [.ref E.2.1, .int p0, .ref (E.2.1 + 566)] (tl_HB E u) (fun q H => ∃ w, tl_Qw E [2, 3] t r v q w ∧ tl_HB E w H) := by
  refine tl_startH [some (.ref E.2.1), some (.int p0), some (.ref (E.2.1 + 566)), none] rfl rfl rfl (Nat.le_of_ble_eq_true rfl) ?_
  refine tl_aload_n (q := 2) dL_store_0 rfl (tl_iconst dL_store_1 ic_0 (tl_aload_n (q := 0) dL_store_2 rfl (tl_iload_n (q := 1) dL_store_3 rfl ?_)))
  exact tl_wtail (As := [.int p0]) (l := [2, 3]) (tgt := 18) (l9_store tl_T9 h) hl (by decide) rfl rfl dL_store_4 cs_L_store ⟨Nat.le_of_ble_eq_true rfl, Nat.le_of_ble_eq_true rfl⟩ dL_store_7 dL_store_8 dL_store_9 (by decide) dL_store_18 dL_store_19 (List.forall_mem_cons.mpr ⟨⟨12, ⟨[], [(0, 9, 15, 15)], 0, 9, 13, rfl, ⟨Nat.le_of_ble_eq_true rfl, Nat.le_of_ble_eq_true rfl⟩, by decide, kk_L_13, fun _ h => absurd h List.not_mem_nil⟩, ⟨13, 1, Or.inl ⟨3, dL_store_12, by decide, rfl⟩, dL_store_13, i9_1, dL_store_14⟩⟩, List.forall_mem_cons.mpr ⟨⟨15, ⟨[(0, 9, 12, 13)], [], 0, 9, 15, rfl, ⟨Nat.le_of_ble_eq_true rfl, Nat.le_of_ble_eq_true rfl⟩, by decide, kk_L_15, List.forall_mem_cons.mpr ⟨⟨by decide, tl_xn 2, tl_xnC 2, kk_L_13, tl_x32⟩, fun _ h => absurd h List.not_mem_nil⟩⟩, ⟨16, 2, Or.inl ⟨3, dL_store_15, by decide, rfl⟩, dL_store_16, i9_2, dL_store_17⟩⟩, fun _ h => absurd h List.not_mem_nil⟩⟩)
theorem dL_hang_0 : decode cL_hang 0 = .ok (.aload 4, 2) := by decide +kernel
theorem dL_hang_2 : decode cL_hang 2 = .ok (.iconst 0, 1) := by decide +kernel
theorem dL_hang_3 : decode cL_hang 3 = .ok (.aload_n 0, 1) := by decide +kernel
theorem dL_hang_4 : decode cL_hang 4 = .ok (.iload_n 1, 1) := by decide +kernel
theorem dL_hang_5 : decode cL_hang 5 = .ok (.iload_n 2, 1) := by decide +kernel
theorem dL_hang_6 : decode cL_hang 6 = .ok (.iload_n 3, 1) := by decide +kernel
theorem dL_hang_7 : decode cL_hang 7 = .ok (.invokevirtual 61, 3) := by decide +kernel
theorem dL_hang_10 : decode cL_hang 10 = .ok (.i2l, 1) := by decide +kernel
theorem dL_hang_11 : decode cL_hang 11 = .ok (.lastore, 1) := by decide +kernel
theorem dL_hang_12 : decode cL_hang 12 = .ok (.goto 11, 3) := by decide +kernel
theorem dL_hang_15 : decode cL_hang 15 = .ok (.astore 5, 2) := by decide +kernel
theorem dL_hang_17 : decode cL_hang 17 = .ok (.iconst 1, 1) := by decide +kernel
theorem dL_hang_18 : decode cL_hang 18 = .ok (.ireturn, 1) := by decide +kernel
theorem dL_hang_19 : decode cL_hang 19 = .ok (.astore 5, 2) := by decide +kernel
theorem dL_hang_21 : decode cL_hang 21 = .ok (.iconst 2, 1) := by decide +kernel
theorem dL_hang_22 : decode cL_hang 22 = .ok (.ireturn, 1) := by decide +kernel
theorem dL_hang_23 : decode cL_hang 23 = .ok (.iconst 0, 1) := by decide +kernel
theorem dL_hang_24 : decode cL_hang 24 = .ok (.ireturn, 1) := by decide +kernel
abbrev hL_hang : tl_hs := [(0, 12, 15, 28), (0, 12, 19, 15)]
abbrev mL_hang : tl_M := (yL_hang, cL_hang, 6, some .int, tl_rm 9 1 6)
theorem cw_L_hang : tl_w9 mL_hang hL_hang ∈ tl_GW := tl_inGW (tl_in4 (List.mem_of_getElem? (i := 144) rfl)) rfl
theorem cs_L_hang : tl_cV mL_hang mX9_hang 61 3 := ⟨cd_X9_hang, ml_L_61, im_X9_hang, se_X9_hang, in_X9, ⟨by decide, by decide, by decide +kernel⟩, Nat.le_of_ble_eq_true rfl, Nat.le_of_ble_eq_true rfl⟩
theorem lL_hang {E : tl_E} {p0 : Int32} {p1 : Int32} {p2 : Int32} {u v : tl_S} {t : Nat} {r : Int32} (h : f9_hang E.2.1 p0 p1 p2 u = some (t, r, v)) (hl : t = 0 ∨ t ∈ [1, 3]) : tl_MetH E mL_hang hL_hang [.ref E.2.1, .int p0, .int p1, .int p2, .ref (E.2.1 + 566)] (tl_HB E u) (fun q H => ∃ w, tl_Qw E [1, 3] t r v q w ∧ tl_HB E w H) := by
  refine tl_startH [some (.ref E.2.1), some (.int p0), some (.int p1), some (.int p2), some (.ref (E.2.1 + 566)), none] rfl rfl rfl (Nat.le_of_ble_eq_true rfl) ?_
  refine tl_aload dL_hang_0 rfl (tl_iconst dL_hang_2 ic_0 (tl_aload_n (q := 0) dL_hang_3 rfl (tl_iload_n (q := 1) dL_hang_4 rfl (tl_iload_n (q := 2) dL_hang_5 rfl (tl_iload_n (q := 3) dL_hang_6 rfl ?_)))))
  exact tl_wtail (As := [.int p0, .int p1, .int p2]) (l := [1, 3]) (tgt := 23) (l9_hang tl_T9 h) hl (by decide) rfl rfl dL_hang_7 cs_L_hang ⟨Nat.le_of_ble_eq_true rfl, Nat.le_of_ble_eq_true rfl⟩ dL_hang_10 dL_hang_11 dL_hang_12 (by decide) dL_hang_23 dL_hang_24 (List.forall_mem_cons.mpr ⟨⟨15, ⟨[], [(0, 12, 19, 15)], 0, 12, 28, rfl, ⟨Nat.le_of_ble_eq_true rfl, Nat.le_of_ble_eq_true rfl⟩, by decide, kk_L_28, fun _ h => absurd h List.not_mem_nil⟩, ⟨17, 1, Or.inr ⟨5, dL_hang_15, by decide, rfl⟩, dL_hang_17, i9_1, dL_hang_18⟩⟩, List.forall_mem_cons.mpr ⟨⟨19, ⟨[(0, 12, 15, 28)], [], 0, 12, 15, rfl, ⟨Nat.le_of_ble_eq_true rfl, Nat.le_of_ble_eq_true rfl⟩, by decide, kk_L_15, List.forall_mem_cons.mpr ⟨⟨by decide, tl_xn 1, tl_xnC 1, kk_L_28, tl_x31⟩, fun _ h => absurd h List.not_mem_nil⟩⟩, ⟨21, 2, Or.inr ⟨5, dL_hang_19, by decide, rfl⟩, dL_hang_21, i9_2, dL_hang_22⟩⟩, fun _ h => absurd h List.not_mem_nil⟩⟩)
theorem dL_fill_0 : decode cL_fill 0 = .ok (.aload_n 3, 1) := by decide +kernel
theorem dL_fill_1 : decode cL_fill 1 = .ok (.iconst 0, 1) := by decide +kernel
theorem dL_fill_2 : decode cL_fill 2 = .ok (.aload_n 0, 1) := by decide +kernel
theorem dL_fill_3 : decode cL_fill 3 = .ok (.iload_n 1, 1) := by decide +kernel
theorem dL_fill_4 : decode cL_fill 4 = .ok (.iload_n 2, 1) := by decide +kernel
theorem dL_fill_5 : decode cL_fill 5 = .ok (.invokevirtual 65, 3) := by decide +kernel
theorem dL_fill_8 : decode cL_fill 8 = .ok (.i2l, 1) := by decide +kernel
theorem dL_fill_9 : decode cL_fill 9 = .ok (.lastore, 1) := by decide +kernel
theorem dL_fill_10 : decode cL_fill 10 = .ok (.goto 15, 3) := by decide +kernel
theorem dL_fill_13 : decode cL_fill 13 = .ok (.astore 4, 2) := by decide +kernel
theorem dL_fill_15 : decode cL_fill 15 = .ok (.iconst 1, 1) := by decide +kernel
theorem dL_fill_16 : decode cL_fill 16 = .ok (.ireturn, 1) := by decide +kernel
theorem dL_fill_17 : decode cL_fill 17 = .ok (.astore 4, 2) := by decide +kernel
theorem dL_fill_19 : decode cL_fill 19 = .ok (.iconst 2, 1) := by decide +kernel
theorem dL_fill_20 : decode cL_fill 20 = .ok (.ireturn, 1) := by decide +kernel
theorem dL_fill_21 : decode cL_fill 21 = .ok (.astore 4, 2) := by decide +kernel
theorem dL_fill_23 : decode cL_fill 23 = .ok (.iconst 3, 1) := by decide +kernel
theorem dL_fill_24 : decode cL_fill 24 = .ok (.ireturn, 1) := by decide +kernel
theorem dL_fill_25 : decode cL_fill 25 = .ok (.iconst 0, 1) := by decide +kernel
theorem dL_fill_26 : decode cL_fill 26 = .ok (.ireturn, 1) := by decide +kernel
abbrev hL_fill : tl_hs := [(0, 10, 13, 28), (0, 10, 17, 13), (0, 10, 21, 15)]
abbrev mL_fill : tl_M := (yL_fill, cL_fill, 5, some .int, tl_rm 9 1 6)
theorem cw_L_fill : tl_w9 mL_fill hL_fill ∈ tl_GW := tl_inGW (tl_in4 (List.mem_of_getElem? (i := 151) rfl)) rfl
theorem cs_L_fill : tl_cV mL_fill mX9_fill 65 2 := ⟨cd_X9_fill, ml_L_65, im_X9_fill, se_X9_fill, in_X9, ⟨by decide, by decide, by decide +kernel⟩, Nat.le_of_ble_eq_true rfl, Nat.le_of_ble_eq_true rfl⟩
theorem lL_fill {E : tl_E} {p0 : Int32} {p1 : Int32} {u v : tl_S} {t : Nat} {r : Int32} (h : f9_fill E.2.1 p0 p1 u = some (t, r, v)) (hl : t = 0 ∨ t ∈ [1, 2, 3]) : tl_MetH E mL_fill hL_fill [.ref E.2.1, .int p0, .int p1, .ref (E.2.1 + 566)] (tl_HB E u) (fun q H => ∃ w, tl_Qw E [1, 2, 3] t r v q w ∧ tl_HB E w H) := by
  refine tl_startH [some (.ref E.2.1), some (.int p0), some (.int p1), some (.ref (E.2.1 + 566)), none] rfl rfl rfl (Nat.le_of_ble_eq_true rfl) ?_
  refine tl_aload_n (q := 3) dL_fill_0 rfl (tl_iconst dL_fill_1 ic_0 (tl_aload_n (q := 0) dL_fill_2 rfl (tl_iload_n (q := 1) dL_fill_3 rfl (tl_iload_n (q := 2) dL_fill_4 rfl ?_))))
  exact tl_wtail (As := [.int p0, .int p1]) (l := [1, 2, 3]) (tgt := 25) (l9_fill tl_T9 h) hl (by decide) rfl rfl dL_fill_5 cs_L_fill ⟨Nat.le_of_ble_eq_true rfl, Nat.le_of_ble_eq_true rfl⟩ dL_fill_8 dL_fill_9 dL_fill_10 (by decide) dL_fill_25 dL_fill_26 (List.forall_mem_cons.mpr ⟨⟨13, ⟨[], [(0, 10, 17, 13), (0, 10, 21, 15)], 0, 10, 28, rfl, ⟨Nat.le_of_ble_eq_true rfl, Nat.le_of_ble_eq_true rfl⟩, by decide, kk_L_28, fun _ h => absurd h List.not_mem_nil⟩, ⟨15, 1, Or.inr ⟨4, dL_fill_13, by decide, rfl⟩, dL_fill_15, i9_1, dL_fill_16⟩⟩, List.forall_mem_cons.mpr ⟨⟨17, ⟨[(0, 10, 13, 28)], [(0, 10, 21, 15)], 0, 10, 13, rfl, ⟨Nat.le_of_ble_eq_true rfl, Nat.le_of_ble_eq_true rfl⟩, by decide, kk_L_13, List.forall_mem_cons.mpr ⟨⟨by decide, tl_xn 1, tl_xnC 1, kk_L_28, tl_x21⟩, fun _ h => absurd h List.not_mem_nil⟩⟩, ⟨19, 2, Or.inr ⟨4, dL_fill_17, by decide, rfl⟩, dL_fill_19, i9_2, dL_fill_20⟩⟩, List.forall_mem_cons.mpr ⟨⟨21, ⟨[(0, 10, 13, 28), (0, 10, 17, 13)], [], 0, 10, 15, rfl, ⟨Nat.le_of_ble_eq_true rfl, Nat.le_of_ble_eq_true rfl⟩, by decide, kk_L_15, List.forall_mem_cons.mpr ⟨⟨by decide, tl_xn 1, tl_xnC 1, kk_L_28, tl_x31⟩, List.forall_mem_cons.mpr ⟨⟨by decide, tl_xn 2, tl_xnC 2, kk_L_13, tl_x32⟩, fun _ h => absurd h List.not_mem_nil⟩⟩⟩, ⟨23, 3, Or.inr ⟨4, dL_fill_21, by decide, rfl⟩, dL_fill_23, i9_3, dL_fill_24⟩⟩, fun _ h => absurd h List.not_mem_nil⟩⟩⟩)
theorem dL_drop_0 : decode cL_drop 0 = .ok (.aload_n 2, 1) := by decide +kernel
theorem dL_drop_1 : decode cL_drop 1 = .ok (.iconst 0, 1) := by decide +kernel
theorem dL_drop_2 : decode cL_drop 2 = .ok (.aload_n 0, 1) := by decide +kernel
theorem dL_drop_3 : decode cL_drop 3 = .ok (.iload_n 1, 1) := by decide +kernel
theorem dL_drop_4 : decode cL_drop 4 = .ok (.invokevirtual 68, 3) := by decide +kernel
theorem dL_drop_7 : decode cL_drop 7 = .ok (.i2l, 1) := by decide +kernel
theorem dL_drop_8 : decode cL_drop 8 = .ok (.lastore, 1) := by decide +kernel
theorem dL_drop_9 : decode cL_drop 9 = .ok (.goto 9, 3) := by decide +kernel
theorem dL_drop_12 : decode cL_drop 12 = .ok (.astore_n 3, 1) := by decide +kernel
theorem dL_drop_13 : decode cL_drop 13 = .ok (.iconst 1, 1) := by decide +kernel
theorem dL_drop_14 : decode cL_drop 14 = .ok (.ireturn, 1) := by decide +kernel
theorem dL_drop_15 : decode cL_drop 15 = .ok (.astore_n 3, 1) := by decide +kernel
theorem dL_drop_16 : decode cL_drop 16 = .ok (.iconst 2, 1) := by decide +kernel
theorem dL_drop_17 : decode cL_drop 17 = .ok (.ireturn, 1) := by decide +kernel
theorem dL_drop_18 : decode cL_drop 18 = .ok (.iconst 0, 1) := by decide +kernel
theorem dL_drop_19 : decode cL_drop 19 = .ok (.ireturn, 1) := by decide +kernel
abbrev hL_drop : tl_hs := [(0, 9, 12, 28), (0, 9, 15, 15)]
abbrev mL_drop : tl_M := (yL_drop, cL_drop, 4, some .int, tl_rm 9 1 6)
theorem cw_L_drop : tl_w9 mL_drop hL_drop ∈ tl_GW := tl_inGW (tl_in4 (List.mem_of_getElem? (i := 158) rfl)) rfl
theorem cs_L_drop : tl_cV mL_drop mX9_drop 68 1 := ⟨cd_X9_drop, ml_L_68, im_X9_drop, se_X9_drop, in_X9, ⟨by decide, by decide, by decide +kernel⟩, Nat.le_of_ble_eq_true rfl, Nat.le_of_ble_eq_true rfl⟩
theorem lL_drop {E : tl_E} {p0 : Int32} {u v : tl_S} {t : Nat} {r : Int32} (h : f9_drop E.2.1 p0 u = some (t, r, v)) (hl : t = 0 ∨ t ∈ [1, 3]) : tl_MetH E mL_drop hL_drop [.ref E.2.1, .int p0, .ref (E.2.1 + 566)] (tl_HB E u) (fun q H => ∃ w, tl_Qw E [1, 3] t r v q w ∧ tl_HB E w H) := by
  refine tl_startH [some (.ref E.2.1), some (.int p0), some (.ref (E.2.1 + 566)), none] rfl rfl rfl (Nat.le_of_ble_eq_true rfl) ?_
  refine tl_aload_n (q := 2) dL_drop_0 rfl (tl_iconst dL_drop_1 ic_0 (tl_aload_n (q := 0) dL_drop_2 rfl (tl_iload_n (q := 1) dL_drop_3 rfl ?_)))
  exact tl_wtail (As := [.int p0]) (l := [1, 3]) (tgt := 18) (l9_drop tl_T9 h) hl (by decide) rfl rfl dL_drop_4 cs_L_drop ⟨Nat.le_of_ble_eq_true rfl, Nat.le_of_ble_eq_true rfl⟩ dL_drop_7 dL_drop_8 dL_drop_9 (by decide) dL_drop_18 dL_drop_19 (List.forall_mem_cons.mpr ⟨⟨12, ⟨[], [(0, 9, 15, 15)], 0, 9, 28, rfl, ⟨Nat.le_of_ble_eq_true rfl, Nat.le_of_ble_eq_true rfl⟩, by decide, kk_L_28, fun _ h => absurd h List.not_mem_nil⟩, ⟨13, 1, Or.inl ⟨3, dL_drop_12, by decide, rfl⟩, dL_drop_13, i9_1, dL_drop_14⟩⟩, List.forall_mem_cons.mpr ⟨⟨15, ⟨[(0, 9, 12, 28)], [], 0, 9, 15, rfl, ⟨Nat.le_of_ble_eq_true rfl, Nat.le_of_ble_eq_true rfl⟩, by decide, kk_L_15, List.forall_mem_cons.mpr ⟨⟨by decide, tl_xn 1, tl_xnC 1, kk_L_28, tl_x31⟩, fun _ h => absurd h List.not_mem_nil⟩⟩, ⟨16, 2, Or.inl ⟨3, dL_drop_15, by decide, rfl⟩, dL_drop_16, i9_2, dL_drop_17⟩⟩, fun _ h => absurd h List.not_mem_nil⟩⟩)
theorem dL_set_0 : decode cL_set 0 = .ok (.aload_n 3, 1) := by decide +kernel
theorem dL_set_1 : decode cL_set 1 = .ok (.iconst 0, 1) := by decide +kernel
theorem dL_set_2 : decode cL_set 2 = .ok (.aload_n 0, 1) := by decide +kernel
theorem dL_set_3 : decode cL_set 3 = .ok (.iload_n 1, 1) := by decide +kernel
theorem dL_set_4 : decode cL_set 4 = .ok (.iload_n 2, 1) := by decide +kernel
theorem dL_set_5 : decode cL_set 5 = .ok (.invokevirtual 71, 3) := by decide +kernel
theorem dL_set_8 : decode cL_set 8 = .ok (.i2l, 1) := by decide +kernel
theorem dL_set_9 : decode cL_set 9 = .ok (.lastore, 1) := by decide +kernel
theorem dL_set_10 : decode cL_set 10 = .ok (.goto 7, 3) := by decide +kernel
theorem dL_set_13 : decode cL_set 13 = .ok (.astore 4, 2) := by decide +kernel
theorem dL_set_15 : decode cL_set 15 = .ok (.iconst 1, 1) := by decide +kernel
theorem dL_set_16 : decode cL_set 16 = .ok (.ireturn, 1) := by decide +kernel
theorem dL_set_17 : decode cL_set 17 = .ok (.iconst 0, 1) := by decide +kernel
theorem dL_set_18 : decode cL_set 18 = .ok (.ireturn, 1) := by decide +kernel
abbrev hL_set : tl_hs := [(0, 10, 13, 13)]
abbrev mL_set : tl_M := (yL_set, cL_set, 5, some .int, tl_rm 9 1 6)
theorem cw_L_set : tl_w9 mL_set hL_set ∈ tl_GW := tl_inGW (tl_in4 (List.mem_of_getElem? (i := 165) rfl)) rfl
theorem cs_L_set : tl_cV mL_set mX9_set 71 2 := ⟨cd_X9_set, ml_L_71, im_X9_set, se_X9_set, in_X9, ⟨by decide, by decide, by decide +kernel⟩, Nat.le_of_ble_eq_true rfl, Nat.le_of_ble_eq_true rfl⟩
theorem lL_set {E : tl_E} {p0 : Int32} {p1 : Int32} {u v : tl_S} {t : Nat} {r : Int32} (h : f9_set E.2.1 p0 p1 u = some (t, r, v)) (hl : t = 0 ∨ t ∈ [2]) : tl_MetH E mL_set hL_set [.ref E.2.1, .int p0, .int p1, .ref (E.2.1 + 566)] (tl_HB E u) (fun q H => ∃ w, tl_Qw E [2] t r v q w ∧ tl_HB E w H) := by
  refine tl_startH [some (.ref E.2.1), some (.int p0), some (.int p1), some (.ref (E.2.1 + 566)), none] rfl rfl rfl (Nat.le_of_ble_eq_true rfl) ?_
  refine tl_aload_n (q := 3) dL_set_0 rfl (tl_iconst dL_set_1 ic_0 (tl_aload_n (q := 0) dL_set_2 rfl (tl_iload_n (q := 1) dL_set_3 rfl (tl_iload_n (q := 2) dL_set_4 rfl ?_))))
  exact tl_wtail (As := [.int p0, .int p1]) (l := [2]) (tgt := 17) (l9_set tl_T9 h) hl (by decide) rfl rfl dL_set_5 cs_L_set ⟨Nat.le_of_ble_eq_true rfl, Nat.le_of_ble_eq_true rfl⟩ dL_set_8 dL_set_9 dL_set_10 (by decide) dL_set_17 dL_set_18 (List.forall_mem_cons.mpr ⟨⟨13, ⟨[], [], 0, 10, 13, rfl, ⟨Nat.le_of_ble_eq_true rfl, Nat.le_of_ble_eq_true rfl⟩, by decide, kk_L_13, fun _ h => absurd h List.not_mem_nil⟩, ⟨15, 1, Or.inr ⟨4, dL_set_13, by decide, rfl⟩, dL_set_15, i9_1, dL_set_16⟩⟩, fun _ h => absurd h List.not_mem_nil⟩)
theorem dL_hours_0 : decode cL_hours 0 = .ok (.aload_n 2, 1) := by decide +kernel
theorem dL_hours_1 : decode cL_hours 1 = .ok (.iconst 0, 1) := by decide +kernel
theorem dL_hours_2 : decode cL_hours 2 = .ok (.aload_n 0, 1) := by decide +kernel
theorem dL_hours_3 : decode cL_hours 3 = .ok (.iload_n 1, 1) := by decide +kernel
theorem dL_hours_4 : decode cL_hours 4 = .ok (.invokevirtual 74, 3) := by decide +kernel
theorem dL_hours_7 : decode cL_hours 7 = .ok (.i2l, 1) := by decide +kernel
theorem dL_hours_8 : decode cL_hours 8 = .ok (.lastore, 1) := by decide +kernel
theorem dL_hours_9 : decode cL_hours 9 = .ok (.goto 6, 3) := by decide +kernel
theorem dL_hours_12 : decode cL_hours 12 = .ok (.astore_n 3, 1) := by decide +kernel
theorem dL_hours_13 : decode cL_hours 13 = .ok (.iconst 1, 1) := by decide +kernel
theorem dL_hours_14 : decode cL_hours 14 = .ok (.ireturn, 1) := by decide +kernel
theorem dL_hours_15 : decode cL_hours 15 = .ok (.iconst 0, 1) := by decide +kernel
theorem dL_hours_16 : decode cL_hours 16 = .ok (.ireturn, 1) := by decide +kernel
abbrev hL_hours : tl_hs := [(0, 9, 12, 13)]
abbrev mL_hours : tl_M := (yL_hours, cL_hours, 4, some .int, tl_rm 9 1 6)
theorem cw_L_hours : tl_w9 mL_hours hL_hours ∈ tl_GW := tl_inGW (tl_in4 (List.mem_of_getElem? (i := 172) rfl)) rfl
theorem cs_L_hours : tl_cV mL_hours mX9_hours 74 1 := ⟨cd_X9_hours, ml_L_74, im_X9_hours, se_X9_hours, in_X9, ⟨by decide, by decide, by decide +kernel⟩, Nat.le_of_ble_eq_true rfl, Nat.le_of_ble_eq_true rfl⟩
theorem lL_hours {E : tl_E} {p0 : Int32} {u v : tl_S} {t : Nat} {r : Int32} (h : f9_hours E.2.1 p0 u = some (t, r, v)) (hl : t = 0 ∨ t ∈ [2]) : tl_MetH E mL_hours hL_hours [.ref E.2.1, .int p0, .ref (E.2.1 + 566)] (tl_HB E u) (fun q H => ∃ w, tl_Qw E [2] t r v q w ∧ tl_HB E w H) := by
  refine tl_startH [some (.ref E.2.1), some (.int p0), some (.ref (E.2.1 + 566)), none] rfl rfl rfl (Nat.le_of_ble_eq_true rfl) ?_
  refine tl_aload_n (q := 2) dL_hours_0 rfl (tl_iconst dL_hours_1 ic_0 (tl_aload_n (q := 0) dL_hours_2 rfl (tl_iload_n (q := 1) dL_hours_3 rfl ?_)))
  exact tl_wtail (As := [.int p0]) (l := [2]) (tgt := 15) (l9_hours tl_T9 h) hl (by decide) rfl rfl dL_hours_4 cs_L_hours ⟨Nat.le_of_ble_eq_true rfl, Nat.le_of_ble_eq_true rfl⟩ dL_hours_7 dL_hours_8 dL_hours_9 (by decide) dL_hours_15 dL_hours_16 (List.forall_mem_cons.mpr ⟨⟨12, ⟨[], [], 0, 9, 13, rfl, ⟨Nat.le_of_ble_eq_true rfl, Nat.le_of_ble_eq_true rfl⟩, by decide, kk_L_13, fun _ h => absurd h List.not_mem_nil⟩, ⟨13, 1, Or.inl ⟨3, dL_hours_12, by decide, rfl⟩, dL_hours_13, i9_1, dL_hours_14⟩⟩, fun _ h => absurd h List.not_mem_nil⟩)
theorem dL_undo_0 : decode cL_undo 0 = .ok (.aload_n 1, 1) := by decide +kernel
theorem dL_undo_1 : decode cL_undo 1 = .ok (.iconst 0, 1) := by decide +kernel
theorem dL_undo_2 : decode cL_undo 2 = .ok (.aload_n 0, 1) := by decide +kernel
theorem dL_undo_3 : decode cL_undo 3 = .ok (.invokevirtual 77, 3) := by decide +kernel
theorem dL_undo_6 : decode cL_undo 6 = .ok (.i2l, 1) := by decide +kernel
theorem dL_undo_7 : decode cL_undo 7 = .ok (.lastore, 1) := by decide +kernel
theorem dL_undo_8 : decode cL_undo 8 = .ok (.goto 6, 3) := by decide +kernel
theorem dL_undo_11 : decode cL_undo 11 = .ok (.astore_n 2, 1) := by decide +kernel
theorem dL_undo_12 : decode cL_undo 12 = .ok (.iconst 1, 1) := by decide +kernel
theorem dL_undo_13 : decode cL_undo 13 = .ok (.ireturn, 1) := by decide +kernel
theorem dL_undo_14 : decode cL_undo 14 = .ok (.iconst 0, 1) := by decide +kernel
theorem dL_undo_15 : decode cL_undo 15 = .ok (.ireturn, 1) := by decide +kernel
abbrev hL_undo : tl_hs := [(0, 8, 11, 15)]
abbrev mL_undo : tl_M := (yL_undo, cL_undo, 3, some .int, tl_rm 9 1 6)
theorem cw_L_undo : tl_w9 mL_undo hL_undo ∈ tl_GW := tl_inGW (tl_in4 (List.mem_of_getElem? (i := 179) rfl)) rfl
theorem cs_L_undo : tl_cV mL_undo mX9_undo 77 0 := ⟨cd_X9_undo, ml_L_77, im_X9_undo, se_X9_undo, in_X9, ⟨by decide, by decide, by decide +kernel⟩, Nat.le_of_ble_eq_true rfl, Nat.le_of_ble_eq_true rfl⟩
theorem lL_undo {E : tl_E}  {u v : tl_S} {t : Nat} {r : Int32} (h : f9_undo E.2.1 u = some (t, r, v)) (hl : t = 0 ∨ t ∈ [3]) : tl_MetH E mL_undo hL_undo [.ref E.2.1, .ref (E.2.1 + 566)] (tl_HB E u) (fun q H => ∃ w, tl_Qw E [3] t r v q w ∧ tl_HB E w H) := by
  refine tl_startH [some (.ref E.2.1), some (.ref (E.2.1 + 566)), none] rfl rfl rfl (Nat.le_of_ble_eq_true rfl) ?_
  refine tl_aload_n (q := 1) dL_undo_0 rfl (tl_iconst dL_undo_1 ic_0 (tl_aload_n (q := 0) dL_undo_2 rfl ?_))
  exact tl_wtail (As := []) (l := [3]) (tgt := 14) (l9_undo tl_T9 h) hl (by decide) rfl rfl dL_undo_3 cs_L_undo ⟨Nat.le_of_ble_eq_true rfl, Nat.le_of_ble_eq_true rfl⟩ dL_undo_6 dL_undo_7 dL_undo_8 (by decide) dL_undo_14 dL_undo_15 (List.forall_mem_cons.mpr ⟨⟨11, ⟨[], [], 0, 8, 15, rfl, ⟨Nat.le_of_ble_eq_true rfl, Nat.le_of_ble_eq_true rfl⟩, by decide, kk_L_15, fun _ h => absurd h List.not_mem_nil⟩, ⟨12, 1, Or.inl ⟨2, dL_undo_11, by decide, rfl⟩, dL_undo_12, i9_1, dL_undo_13⟩⟩, fun _ h => absurd h List.not_mem_nil⟩)
theorem dL_darkIn_0 : decode cL_darkIn 0 = .ok (.aload_n 2, 1) := by decide +kernel
theorem dL_darkIn_1 : decode cL_darkIn 1 = .ok (.iconst 0, 1) := by decide +kernel
theorem dL_darkIn_2 : decode cL_darkIn 2 = .ok (.aload_n 0, 1) := by decide +kernel
theorem dL_darkIn_3 : decode cL_darkIn 3 = .ok (.iload_n 1, 1) := by decide +kernel
theorem dL_darkIn_4 : decode cL_darkIn 4 = .ok (.invokevirtual 80, 3) := by decide +kernel
theorem dL_darkIn_7 : decode cL_darkIn 7 = .ok (.i2l, 1) := by decide +kernel
theorem dL_darkIn_8 : decode cL_darkIn 8 = .ok (.lastore, 1) := by decide +kernel
theorem dL_darkIn_9 : decode cL_darkIn 9 = .ok (.goto 6, 3) := by decide +kernel
theorem dL_darkIn_12 : decode cL_darkIn 12 = .ok (.astore_n 3, 1) := by decide +kernel
theorem dL_darkIn_13 : decode cL_darkIn 13 = .ok (.iconst 1, 1) := by decide +kernel
theorem dL_darkIn_14 : decode cL_darkIn 14 = .ok (.ireturn, 1) := by decide +kernel
theorem dL_darkIn_15 : decode cL_darkIn 15 = .ok (.iconst 0, 1) := by decide +kernel
theorem dL_darkIn_16 : decode cL_darkIn 16 = .ok (.ireturn, 1) := by decide +kernel
abbrev hL_darkIn : tl_hs := [(0, 9, 12, 28)]
abbrev mL_darkIn : tl_M := (yL_darkIn, cL_darkIn, 4, some .int, tl_rm 9 1 6)
theorem cw_L_darkIn : tl_w9 mL_darkIn hL_darkIn ∈ tl_GW := tl_inGW (tl_in4 (List.mem_of_getElem? (i := 190) rfl)) rfl
theorem cs_L_darkIn : tl_cV mL_darkIn mX9_darkIn 80 1 := ⟨cd_X9_darkIn, ml_L_80, im_X9_darkIn, se_X9_darkIn, in_X9, ⟨by decide, by decide, by decide +kernel⟩, Nat.le_of_ble_eq_true rfl, Nat.le_of_ble_eq_true rfl⟩
theorem lL_darkIn {E : tl_E} {p0 : Int32} {u v : tl_S} {t : Nat} {r : Int32} (h : f9_darkIn E.2.1 p0 u = some (t, r, v)) (hl : t = 0 ∨ t ∈ [1]) : tl_MetH E mL_darkIn hL_darkIn [.ref E.2.1, .int p0, .ref (E.2.1 + 566)] (tl_HB E u) (fun q H => ∃ w, tl_Qw E [1] t r v q w ∧ tl_HB E w H) := by
  refine tl_startH [some (.ref E.2.1), some (.int p0), some (.ref (E.2.1 + 566)), none] rfl rfl rfl (Nat.le_of_ble_eq_true rfl) ?_
  refine tl_aload_n (q := 2) dL_darkIn_0 rfl (tl_iconst dL_darkIn_1 ic_0 (tl_aload_n (q := 0) dL_darkIn_2 rfl (tl_iload_n (q := 1) dL_darkIn_3 rfl ?_)))
  exact tl_wtail (As := [.int p0]) (l := [1]) (tgt := 15) (l9_darkIn tl_T9 h) hl (by decide) rfl rfl dL_darkIn_4 cs_L_darkIn ⟨Nat.le_of_ble_eq_true rfl, Nat.le_of_ble_eq_true rfl⟩ dL_darkIn_7 dL_darkIn_8 dL_darkIn_9 (by decide) dL_darkIn_15 dL_darkIn_16 (List.forall_mem_cons.mpr ⟨⟨12, ⟨[], [], 0, 9, 28, rfl, ⟨Nat.le_of_ble_eq_true rfl, Nat.le_of_ble_eq_true rfl⟩, by decide, kk_L_28, fun _ h => absurd h List.not_mem_nil⟩, ⟨13, 1, Or.inl ⟨3, dL_darkIn_12, by decide, rfl⟩, dL_darkIn_13, i9_1, dL_darkIn_14⟩⟩, fun _ h => absurd h List.not_mem_nil⟩)
theorem dL_depthIn_0 : decode cL_depthIn 0 = .ok (.aload_n 3, 1) := by decide +kernel
theorem dL_depthIn_1 : decode cL_depthIn 1 = .ok (.iconst 0, 1) := by decide +kernel
theorem dL_depthIn_2 : decode cL_depthIn 2 = .ok (.aload_n 0, 1) := by decide +kernel
theorem dL_depthIn_3 : decode cL_depthIn 3 = .ok (.iload_n 1, 1) := by decide +kernel
theorem dL_depthIn_4 : decode cL_depthIn 4 = .ok (.iload_n 2, 1) := by decide +kernel
theorem dL_depthIn_5 : decode cL_depthIn 5 = .ok (.invokevirtual 83, 3) := by decide +kernel
theorem dL_depthIn_8 : decode cL_depthIn 8 = .ok (.i2l, 1) := by decide +kernel
theorem dL_depthIn_9 : decode cL_depthIn 9 = .ok (.lastore, 1) := by decide +kernel
theorem dL_depthIn_10 : decode cL_depthIn 10 = .ok (.goto 11, 3) := by decide +kernel
theorem dL_depthIn_13 : decode cL_depthIn 13 = .ok (.astore 4, 2) := by decide +kernel
theorem dL_depthIn_15 : decode cL_depthIn 15 = .ok (.iconst 1, 1) := by decide +kernel
theorem dL_depthIn_16 : decode cL_depthIn 16 = .ok (.ireturn, 1) := by decide +kernel
theorem dL_depthIn_17 : decode cL_depthIn 17 = .ok (.astore 4, 2) := by decide +kernel
theorem dL_depthIn_19 : decode cL_depthIn 19 = .ok (.iconst 2, 1) := by decide +kernel
theorem dL_depthIn_20 : decode cL_depthIn 20 = .ok (.ireturn, 1) := by decide +kernel
theorem dL_depthIn_21 : decode cL_depthIn 21 = .ok (.iconst 0, 1) := by decide +kernel
theorem dL_depthIn_22 : decode cL_depthIn 22 = .ok (.ireturn, 1) := by decide +kernel
abbrev hL_depthIn : tl_hs := [(0, 10, 13, 28), (0, 10, 17, 13)]
abbrev mL_depthIn : tl_M := (yL_depthIn, cL_depthIn, 5, some .int, tl_rm 9 1 6)
theorem cw_L_depthIn : tl_w9 mL_depthIn hL_depthIn ∈ tl_GW := tl_inGW (tl_in4 (List.mem_of_getElem? (i := 197) rfl)) rfl
theorem cs_L_depthIn : tl_cV mL_depthIn mX9_depthIn 83 2 := ⟨cd_X9_depthIn, ml_L_83, im_X9_depthIn, se_X9_depthIn, in_X9, ⟨by decide, by decide, by decide +kernel⟩, Nat.le_of_ble_eq_true rfl, Nat.le_of_ble_eq_true rfl⟩
theorem lL_depthIn {E : tl_E} {p0 : Int32} {p1 : Int32} {u v : tl_S} {t : Nat} {r : Int32} (h : f9_depthIn E.2.1 p0 p1 u = some (t, r, v)) (hl : t = 0 ∨ t ∈ [1, 2]) : tl_MetH E mL_depthIn hL_depthIn [.ref E.2.1, .int p0, .int p1, .ref (E.2.1 + 566)] (tl_HB E u) (fun q H => ∃ w, tl_Qw E [1, 2] t r v q w ∧ tl_HB E w H) := by
  refine tl_startH [some (.ref E.2.1), some (.int p0), some (.int p1), some (.ref (E.2.1 + 566)), none] rfl rfl rfl (Nat.le_of_ble_eq_true rfl) ?_
  refine tl_aload_n (q := 3) dL_depthIn_0 rfl (tl_iconst dL_depthIn_1 ic_0 (tl_aload_n (q := 0) dL_depthIn_2 rfl (tl_iload_n (q := 1) dL_depthIn_3 rfl (tl_iload_n (q := 2) dL_depthIn_4 rfl ?_))))
  exact tl_wtail (As := [.int p0, .int p1]) (l := [1, 2]) (tgt := 21) (l9_depthIn tl_T9 h) hl (by decide) rfl rfl dL_depthIn_5 cs_L_depthIn ⟨Nat.le_of_ble_eq_true rfl, Nat.le_of_ble_eq_true rfl⟩ dL_depthIn_8 dL_depthIn_9 dL_depthIn_10 (by decide) dL_depthIn_21 dL_depthIn_22 (List.forall_mem_cons.mpr ⟨⟨13, ⟨[], [(0, 10, 17, 13)], 0, 10, 28, rfl, ⟨Nat.le_of_ble_eq_true rfl, Nat.le_of_ble_eq_true rfl⟩, by decide, kk_L_28, fun _ h => absurd h List.not_mem_nil⟩, ⟨15, 1, Or.inr ⟨4, dL_depthIn_13, by decide, rfl⟩, dL_depthIn_15, i9_1, dL_depthIn_16⟩⟩, List.forall_mem_cons.mpr ⟨⟨17, ⟨[(0, 10, 13, 28)], [], 0, 10, 13, rfl, ⟨Nat.le_of_ble_eq_true rfl, Nat.le_of_ble_eq_true rfl⟩, by decide, kk_L_13, List.forall_mem_cons.mpr ⟨⟨by decide, tl_xn 1, tl_xnC 1, kk_L_28, tl_x21⟩, fun _ h => absurd h List.not_mem_nil⟩⟩, ⟨19, 2, Or.inr ⟨4, dL_depthIn_17, by decide, rfl⟩, dL_depthIn_19, i9_2, dL_depthIn_20⟩⟩, fun _ h => absurd h List.not_mem_nil⟩⟩)
theorem dL_bestCell_0 : decode cL_bestCell 0 = .ok (.aload 4, 2) := by decide +kernel
theorem dL_bestCell_2 : decode cL_bestCell 2 = .ok (.iconst 0, 1) := by decide +kernel
theorem dL_bestCell_3 : decode cL_bestCell 3 = .ok (.aload_n 0, 1) := by decide +kernel
theorem dL_bestCell_4 : decode cL_bestCell 4 = .ok (.iload_n 1, 1) := by decide +kernel
theorem dL_bestCell_5 : decode cL_bestCell 5 = .ok (.iload_n 2, 1) := by decide +kernel
theorem dL_bestCell_6 : decode cL_bestCell 6 = .ok (.iload_n 3, 1) := by decide +kernel
theorem dL_bestCell_7 : decode cL_bestCell 7 = .ok (.invokevirtual 86, 3) := by decide +kernel
theorem dL_bestCell_10 : decode cL_bestCell 10 = .ok (.i2l, 1) := by decide +kernel
theorem dL_bestCell_11 : decode cL_bestCell 11 = .ok (.lastore, 1) := by decide +kernel
theorem dL_bestCell_12 : decode cL_bestCell 12 = .ok (.goto 15, 3) := by decide +kernel
theorem dL_bestCell_15 : decode cL_bestCell 15 = .ok (.astore 5, 2) := by decide +kernel
theorem dL_bestCell_17 : decode cL_bestCell 17 = .ok (.iconst 1, 1) := by decide +kernel
theorem dL_bestCell_18 : decode cL_bestCell 18 = .ok (.ireturn, 1) := by decide +kernel
theorem dL_bestCell_19 : decode cL_bestCell 19 = .ok (.astore 5, 2) := by decide +kernel
theorem dL_bestCell_21 : decode cL_bestCell 21 = .ok (.iconst 2, 1) := by decide +kernel
theorem dL_bestCell_22 : decode cL_bestCell 22 = .ok (.ireturn, 1) := by decide +kernel
theorem dL_bestCell_23 : decode cL_bestCell 23 = .ok (.astore 5, 2) := by decide +kernel
theorem dL_bestCell_25 : decode cL_bestCell 25 = .ok (.iconst 3, 1) := by decide +kernel
theorem dL_bestCell_26 : decode cL_bestCell 26 = .ok (.ireturn, 1) := by decide +kernel
theorem dL_bestCell_27 : decode cL_bestCell 27 = .ok (.iconst 0, 1) := by decide +kernel
theorem dL_bestCell_28 : decode cL_bestCell 28 = .ok (.ireturn, 1) := by decide +kernel
abbrev hL_bestCell : tl_hs := [(0, 12, 15, 28), (0, 12, 19, 13), (0, 12, 23, 15)]
abbrev mL_bestCell : tl_M := (yL_bestCell, cL_bestCell, 6, some .int, tl_rm 9 1 6)
theorem cw_L_bestCell : tl_w9 mL_bestCell hL_bestCell ∈ tl_GW := tl_inGW (tl_in4 (List.mem_of_getElem? (i := 204) rfl)) rfl
theorem cs_L_bestCell : tl_cV mL_bestCell mX9_bestCell 86 3 := ⟨cd_X9_bestCell, ml_L_86, im_X9_bestCell, se_X9_bestCell, in_X9, ⟨by decide, by decide, by decide +kernel⟩, Nat.le_of_ble_eq_true rfl, Nat.le_of_ble_eq_true rfl⟩
theorem lL_bestCell {E : tl_E} {p0 : Int32} {p1 : Int32} {p2 : Int32} {u v : tl_S} {t : Nat} {r : Int32} (h : f9_bestCell E.2.1 p0 p1 p2 u = some (t, r, v)) (hl : t = 0 ∨ t ∈ [1, 2, 3]) : tl_MetH E mL_bestCell hL_bestCell [.ref E.2.1, .int p0, .int p1, .int p2, .ref (E.2.1 + 566)] (tl_HB E u) (fun q H => ∃ w, tl_Qw E [1, 2, 3] t r v q w ∧ tl_HB E w H) := by
  refine tl_startH [some (.ref E.2.1), some (.int p0), some (.int p1), some (.int p2), some (.ref (E.2.1 + 566)), none] rfl rfl rfl (Nat.le_of_ble_eq_true rfl) ?_
  refine tl_aload dL_bestCell_0 rfl (tl_iconst dL_bestCell_2 ic_0 (tl_aload_n (q := 0) dL_bestCell_3 rfl (tl_iload_n (q := 1) dL_bestCell_4 rfl (tl_iload_n (q := 2) dL_bestCell_5 rfl (tl_iload_n (q := 3) dL_bestCell_6 rfl ?_)))))
  exact tl_wtail (As := [.int p0, .int p1, .int p2]) (l := [1, 2, 3]) (tgt := 27) (l9_bestCell tl_T9 h) hl (by decide) rfl rfl dL_bestCell_7 cs_L_bestCell ⟨Nat.le_of_ble_eq_true rfl, Nat.le_of_ble_eq_true rfl⟩ dL_bestCell_10 dL_bestCell_11 dL_bestCell_12 (by decide) dL_bestCell_27 dL_bestCell_28 (List.forall_mem_cons.mpr ⟨⟨15, ⟨[], [(0, 12, 19, 13), (0, 12, 23, 15)], 0, 12, 28, rfl, ⟨Nat.le_of_ble_eq_true rfl, Nat.le_of_ble_eq_true rfl⟩, by decide, kk_L_28, fun _ h => absurd h List.not_mem_nil⟩, ⟨17, 1, Or.inr ⟨5, dL_bestCell_15, by decide, rfl⟩, dL_bestCell_17, i9_1, dL_bestCell_18⟩⟩, List.forall_mem_cons.mpr ⟨⟨19, ⟨[(0, 12, 15, 28)], [(0, 12, 23, 15)], 0, 12, 13, rfl, ⟨Nat.le_of_ble_eq_true rfl, Nat.le_of_ble_eq_true rfl⟩, by decide, kk_L_13, List.forall_mem_cons.mpr ⟨⟨by decide, tl_xn 1, tl_xnC 1, kk_L_28, tl_x21⟩, fun _ h => absurd h List.not_mem_nil⟩⟩, ⟨21, 2, Or.inr ⟨5, dL_bestCell_19, by decide, rfl⟩, dL_bestCell_21, i9_2, dL_bestCell_22⟩⟩, List.forall_mem_cons.mpr ⟨⟨23, ⟨[(0, 12, 15, 28), (0, 12, 19, 13)], [], 0, 12, 15, rfl, ⟨Nat.le_of_ble_eq_true rfl, Nat.le_of_ble_eq_true rfl⟩, by decide, kk_L_15, List.forall_mem_cons.mpr ⟨⟨by decide, tl_xn 1, tl_xnC 1, kk_L_28, tl_x31⟩, List.forall_mem_cons.mpr ⟨⟨by decide, tl_xn 2, tl_xnC 2, kk_L_13, tl_x32⟩, fun _ h => absurd h List.not_mem_nil⟩⟩⟩, ⟨25, 3, Or.inr ⟨5, dL_bestCell_23, by decide, rfl⟩, dL_bestCell_25, i9_3, dL_bestCell_26⟩⟩, fun _ h => absurd h List.not_mem_nil⟩⟩⟩)
theorem dL_steps_0 : decode cL_steps 0 = .ok (.aload 5, 2) := by decide +kernel
theorem dL_steps_2 : decode cL_steps 2 = .ok (.iconst 0, 1) := by decide +kernel
theorem dL_steps_3 : decode cL_steps 3 = .ok (.aload_n 0, 1) := by decide +kernel
theorem dL_steps_4 : decode cL_steps 4 = .ok (.iload_n 1, 1) := by decide +kernel
theorem dL_steps_5 : decode cL_steps 5 = .ok (.iload_n 2, 1) := by decide +kernel
theorem dL_steps_6 : decode cL_steps 6 = .ok (.iload_n 3, 1) := by decide +kernel
theorem dL_steps_7 : decode cL_steps 7 = .ok (.iload 4, 2) := by decide +kernel
theorem dL_steps_9 : decode cL_steps 9 = .ok (.invokevirtual 89, 3) := by decide +kernel
theorem dL_steps_12 : decode cL_steps 12 = .ok (.i2l, 1) := by decide +kernel
theorem dL_steps_13 : decode cL_steps 13 = .ok (.lastore, 1) := by decide +kernel
theorem dL_steps_14 : decode cL_steps 14 = .ok (.goto 7, 3) := by decide +kernel
theorem dL_steps_17 : decode cL_steps 17 = .ok (.astore 6, 2) := by decide +kernel
theorem dL_steps_19 : decode cL_steps 19 = .ok (.iconst 1, 1) := by decide +kernel
theorem dL_steps_20 : decode cL_steps 20 = .ok (.ireturn, 1) := by decide +kernel
theorem dL_steps_21 : decode cL_steps 21 = .ok (.iconst 0, 1) := by decide +kernel
theorem dL_steps_22 : decode cL_steps 22 = .ok (.ireturn, 1) := by decide +kernel
abbrev hL_steps : tl_hs := [(0, 14, 17, 28)]
abbrev mL_steps : tl_M := (yL_steps, cL_steps, 7, some .int, tl_rm 9 1 6)
theorem cw_L_steps : tl_w9 mL_steps hL_steps ∈ tl_GW := tl_inGW (tl_in4 (List.mem_of_getElem? (i := 213) rfl)) rfl
theorem cs_L_steps : tl_cV mL_steps mX9_steps 89 4 := ⟨cd_X9_steps, ml_L_89, im_X9_steps, se_X9_steps, in_X9, ⟨by decide, by decide, by decide +kernel⟩, Nat.le_of_ble_eq_true rfl, Nat.le_of_ble_eq_true rfl⟩
theorem lL_steps {E : tl_E} {p0 : Int32} {p1 : Int32} {p2 : Int32} {p3 : Int32} {u v : tl_S} {t : Nat} {r : Int32} (h : f9_steps E.2.1 p0 p1 p2 p3 u = some (t, r, v)) (hl : t = 0 ∨ t ∈ [1]) : tl_MetH E mL_steps hL_steps [.ref E.2.1, .int p0, .int p1, .int p2, .int p3, .ref (E.2.1 + 566)] (tl_HB E u) (fun q H => ∃ w, tl_Qw E [1] t r v q w ∧ tl_HB E w H) := by
  refine tl_startH [some (.ref E.2.1), some (.int p0), some (.int p1), some (.int p2), some (.int p3), some (.ref (E.2.1 + 566)), none] rfl rfl rfl (Nat.le_of_ble_eq_true rfl) ?_
  refine tl_aload dL_steps_0 rfl (tl_iconst dL_steps_2 ic_0 (tl_aload_n (q := 0) dL_steps_3 rfl (tl_iload_n (q := 1) dL_steps_4 rfl (tl_iload_n (q := 2) dL_steps_5 rfl (tl_iload_n (q := 3) dL_steps_6 rfl (tl_iload dL_steps_7 rfl ?_))))))
  exact tl_wtail (As := [.int p0, .int p1, .int p2, .int p3]) (l := [1]) (tgt := 21) (l9_steps tl_T9 h) hl (by decide) rfl rfl dL_steps_9 cs_L_steps ⟨Nat.le_of_ble_eq_true rfl, Nat.le_of_ble_eq_true rfl⟩ dL_steps_12 dL_steps_13 dL_steps_14 (by decide) dL_steps_21 dL_steps_22 (List.forall_mem_cons.mpr ⟨⟨17, ⟨[], [], 0, 14, 28, rfl, ⟨Nat.le_of_ble_eq_true rfl, Nat.le_of_ble_eq_true rfl⟩, by decide, kk_L_28, fun _ h => absurd h List.not_mem_nil⟩, ⟨19, 1, Or.inr ⟨6, dL_steps_17, by decide, rfl⟩, dL_steps_19, i9_1, dL_steps_20⟩⟩, fun _ h => absurd h List.not_mem_nil⟩)
theorem dL_runScript_0 : decode cL_runScript 0 = .ok (.aload 4, 2) := by decide +kernel
theorem dL_runScript_2 : decode cL_runScript 2 = .ok (.iconst 0, 1) := by decide +kernel
theorem dL_runScript_3 : decode cL_runScript 3 = .ok (.aload_n 0, 1) := by decide +kernel
theorem dL_runScript_4 : decode cL_runScript 4 = .ok (.iload_n 1, 1) := by decide +kernel
theorem dL_runScript_5 : decode cL_runScript 5 = .ok (.lload_n 2, 1) := by decide +kernel
theorem dL_runScript_6 : decode cL_runScript 6 = .ok (.invokevirtual 92, 3) := by decide +kernel
theorem dL_runScript_9 : decode cL_runScript 9 = .ok (.i2l, 1) := by decide +kernel
theorem dL_runScript_10 : decode cL_runScript 10 = .ok (.lastore, 1) := by decide +kernel
theorem dL_runScript_11 : decode cL_runScript 11 = .ok (.goto 7, 3) := by decide +kernel
theorem dL_runScript_14 : decode cL_runScript 14 = .ok (.astore 5, 2) := by decide +kernel
theorem dL_runScript_16 : decode cL_runScript 16 = .ok (.iconst 1, 1) := by decide +kernel
theorem dL_runScript_17 : decode cL_runScript 17 = .ok (.ireturn, 1) := by decide +kernel
theorem dL_runScript_18 : decode cL_runScript 18 = .ok (.iconst 0, 1) := by decide +kernel
theorem dL_runScript_19 : decode cL_runScript 19 = .ok (.ireturn, 1) := by decide +kernel
abbrev hL_runScript : tl_hs := [(0, 11, 14, 13)]
abbrev mL_runScript : tl_M := (yL_runScript, cL_runScript, 6, some .int, tl_rm 9 1 6)
theorem cw_L_runScript : tl_w9 mL_runScript hL_runScript ∈ tl_GW := tl_inGW (tl_in4 (List.mem_of_getElem? (i := 224) rfl)) rfl
theorem cs_L_runScript : tl_cV mL_runScript mX9_runScript 92 2 := ⟨cd_X9_runScript, ml_L_92, im_X9_runScript, se_X9_runScript, in_X9, ⟨by decide, by decide, by decide +kernel⟩, Nat.le_of_ble_eq_true rfl, Nat.le_of_ble_eq_true rfl⟩
theorem lL_runScript {E : tl_E} {p0 : Int32} {p1 : Int64} {u v : tl_S} {t : Nat} {r : Int32} (h : f9_runScript E.2.1 p0 p1 u = some (t, r, v)) (hl : t = 0 ∨ t ∈ [2]) : tl_MetH E mL_runScript hL_runScript [.ref E.2.1, .int p0, .long p1, .ref (E.2.1 + 566)] (tl_HB E u) (fun q H => ∃ w, tl_Qw E [2] t r v q w ∧ tl_HB E w H) := by
  refine tl_startH [some (.ref E.2.1), some (.int p0), some (.long p1), none, some (.ref (E.2.1 + 566)), none] rfl rfl rfl (Nat.le_of_ble_eq_true rfl) ?_
  refine tl_aload dL_runScript_0 rfl (tl_iconst dL_runScript_2 ic_0 (tl_aload_n (q := 0) dL_runScript_3 rfl (tl_iload_n (q := 1) dL_runScript_4 rfl (tl_lload_n (q := 2) dL_runScript_5 rfl ?_))))
  exact tl_wtail (As := [.int p0, .long p1]) (l := [2]) (tgt := 18) (l9_runScript tl_T9 h) hl (by decide) rfl rfl dL_runScript_6 cs_L_runScript ⟨Nat.le_of_ble_eq_true rfl, Nat.le_of_ble_eq_true rfl⟩ dL_runScript_9 dL_runScript_10 dL_runScript_11 (by decide) dL_runScript_18 dL_runScript_19 (List.forall_mem_cons.mpr ⟨⟨14, ⟨[], [], 0, 11, 13, rfl, ⟨Nat.le_of_ble_eq_true rfl, Nat.le_of_ble_eq_true rfl⟩, by decide, kk_L_13, fun _ h => absurd h List.not_mem_nil⟩, ⟨16, 1, Or.inr ⟨5, dL_runScript_14, by decide, rfl⟩, dL_runScript_16, i9_1, dL_runScript_17⟩⟩, fun _ h => absurd h List.not_mem_nil⟩)
theorem dL_simulate_0 : decode cL_simulate 0 = .ok (.aload 4, 2) := by decide +kernel
theorem dL_simulate_2 : decode cL_simulate 2 = .ok (.iconst 0, 1) := by decide +kernel
theorem dL_simulate_3 : decode cL_simulate 3 = .ok (.aload_n 0, 1) := by decide +kernel
theorem dL_simulate_4 : decode cL_simulate 4 = .ok (.lload_n 1, 1) := by decide +kernel
theorem dL_simulate_5 : decode cL_simulate 5 = .ok (.iload_n 3, 1) := by decide +kernel
theorem dL_simulate_6 : decode cL_simulate 6 = .ok (.invokevirtual 96, 3) := by decide +kernel
theorem dL_simulate_9 : decode cL_simulate 9 = .ok (.i2l, 1) := by decide +kernel
theorem dL_simulate_10 : decode cL_simulate 10 = .ok (.lastore, 1) := by decide +kernel
theorem dL_simulate_11 : decode cL_simulate 11 = .ok (.goto 7, 3) := by decide +kernel
theorem dL_simulate_14 : decode cL_simulate 14 = .ok (.astore 5, 2) := by decide +kernel
theorem dL_simulate_16 : decode cL_simulate 16 = .ok (.iconst 1, 1) := by decide +kernel
theorem dL_simulate_17 : decode cL_simulate 17 = .ok (.ireturn, 1) := by decide +kernel
theorem dL_simulate_18 : decode cL_simulate 18 = .ok (.iconst 0, 1) := by decide +kernel
theorem dL_simulate_19 : decode cL_simulate 19 = .ok (.ireturn, 1) := by decide +kernel
abbrev hL_simulate : tl_hs := [(0, 11, 14, 13)]
abbrev mL_simulate : tl_M := (yL_simulate, cL_simulate, 6, some .int, tl_rm 9 1 6)
theorem cw_L_simulate : tl_w9 mL_simulate hL_simulate ∈ tl_GW := tl_inGW (tl_in5 (List.mem_of_getElem? (i := 11) rfl)) rfl
theorem cs_L_simulate : tl_cV mL_simulate mX9_simulate 96 2 := ⟨cd_X9_simulate, ml_L_96, im_X9_simulate, se_X9_simulate, in_X9, ⟨by decide, by decide, by decide +kernel⟩, Nat.le_of_ble_eq_true rfl, Nat.le_of_ble_eq_true rfl⟩
theorem lL_simulate {E : tl_E} {p0 : Int64} {p1 : Int32} {u v : tl_S} {t : Nat} {r : Int32} (h : f9_simulate E.2.1 p0 p1 u = some (t, r, v)) (hl : t = 0 ∨ t ∈ [2]) : tl_MetH E mL_simulate hL_simulate [.ref E.2.1, .long p0, .int p1, .ref (E.2.1 + 566)] (tl_HB E u) (fun q H => ∃ w, tl_Qw E [2] t r v q w ∧ tl_HB E w H) := by
  refine tl_startH [some (.ref E.2.1), some (.long p0), none, some (.int p1), some (.ref (E.2.1 + 566)), none] rfl rfl rfl (Nat.le_of_ble_eq_true rfl) ?_
  refine tl_aload dL_simulate_0 rfl (tl_iconst dL_simulate_2 ic_0 (tl_aload_n (q := 0) dL_simulate_3 rfl (tl_lload_n (q := 1) dL_simulate_4 rfl (tl_iload_n (q := 3) dL_simulate_5 rfl ?_))))
  exact tl_wtail (As := [.long p0, .int p1]) (l := [2]) (tgt := 18) (l9_simulate tl_T9 h) hl (by decide) rfl rfl dL_simulate_6 cs_L_simulate ⟨Nat.le_of_ble_eq_true rfl, Nat.le_of_ble_eq_true rfl⟩ dL_simulate_9 dL_simulate_10 dL_simulate_11 (by decide) dL_simulate_18 dL_simulate_19 (List.forall_mem_cons.mpr ⟨⟨14, ⟨[], [], 0, 11, 13, rfl, ⟨Nat.le_of_ble_eq_true rfl, Nat.le_of_ble_eq_true rfl⟩, by decide, kk_L_13, fun _ h => absurd h List.not_mem_nil⟩, ⟨16, 1, Or.inr ⟨5, dL_simulate_14, by decide, rfl⟩, dL_simulate_16, i9_1, dL_simulate_17⟩⟩, fun _ h => absurd h List.not_mem_nil⟩)
theorem dL_save_0 : decode cL_save 0 = .ok (.aload_n 2, 1) := by decide +kernel
theorem dL_save_1 : decode cL_save 1 = .ok (.iconst 0, 1) := by decide +kernel
theorem dL_save_2 : decode cL_save 2 = .ok (.aload_n 0, 1) := by decide +kernel
theorem dL_save_3 : decode cL_save 3 = .ok (.iload_n 1, 1) := by decide +kernel
theorem dL_save_4 : decode cL_save 4 = .ok (.invokevirtual 100, 3) := by decide +kernel
theorem dL_save_7 : decode cL_save 7 = .ok (.i2l, 1) := by decide +kernel
theorem dL_save_8 : decode cL_save 8 = .ok (.lastore, 1) := by decide +kernel
theorem dL_save_9 : decode cL_save 9 = .ok (.goto 6, 3) := by decide +kernel
theorem dL_save_12 : decode cL_save 12 = .ok (.astore_n 3, 1) := by decide +kernel
theorem dL_save_13 : decode cL_save 13 = .ok (.iconst 1, 1) := by decide +kernel
theorem dL_save_14 : decode cL_save 14 = .ok (.ireturn, 1) := by decide +kernel
theorem dL_save_15 : decode cL_save 15 = .ok (.iconst 0, 1) := by decide +kernel
theorem dL_save_16 : decode cL_save 16 = .ok (.ireturn, 1) := by decide +kernel
abbrev hL_save : tl_hs := [(0, 9, 12, 28)]
abbrev mL_save : tl_M := (yL_save, cL_save, 4, some .int, tl_rm 9 1 6)
theorem cw_L_save : tl_w9 mL_save hL_save ∈ tl_GW := tl_inGW (tl_in5 (List.mem_of_getElem? (i := 25) rfl)) rfl
theorem cs_L_save : tl_cV mL_save mX9_save 100 1 := ⟨cd_X9_save, ml_L_100, im_X9_save, se_X9_save, in_X9, ⟨by decide, by decide, by decide +kernel⟩, Nat.le_of_ble_eq_true rfl, Nat.le_of_ble_eq_true rfl⟩
theorem lL_save {E : tl_E} {p0 : Int32} {u v : tl_S} {t : Nat} {r : Int32} (h : f9_save E.2.1 p0 u = some (t, r, v)) (hl : t = 0 ∨ t ∈ [1]) : tl_MetH E mL_save hL_save [.ref E.2.1, .int p0, .ref (E.2.1 + 566)] (tl_HB E u) (fun q H => ∃ w, tl_Qw E [1] t r v q w ∧ tl_HB E w H) := by
  refine tl_startH [some (.ref E.2.1), some (.int p0), some (.ref (E.2.1 + 566)), none] rfl rfl rfl (Nat.le_of_ble_eq_true rfl) ?_
  refine tl_aload_n (q := 2) dL_save_0 rfl (tl_iconst dL_save_1 ic_0 (tl_aload_n (q := 0) dL_save_2 rfl (tl_iload_n (q := 1) dL_save_3 rfl ?_)))
  exact tl_wtail (As := [.int p0]) (l := [1]) (tgt := 15) (l9_save tl_T9 h) hl (by decide) rfl rfl dL_save_4 cs_L_save ⟨Nat.le_of_ble_eq_true rfl, Nat.le_of_ble_eq_true rfl⟩ dL_save_7 dL_save_8 dL_save_9 (by decide) dL_save_15 dL_save_16 (List.forall_mem_cons.mpr ⟨⟨12, ⟨[], [], 0, 9, 28, rfl, ⟨Nat.le_of_ble_eq_true rfl, Nat.le_of_ble_eq_true rfl⟩, by decide, kk_L_28, fun _ h => absurd h List.not_mem_nil⟩, ⟨13, 1, Or.inl ⟨3, dL_save_12, by decide, rfl⟩, dL_save_13, i9_1, dL_save_14⟩⟩, fun _ h => absurd h List.not_mem_nil⟩)
theorem dL_restore_0 : decode cL_restore 0 = .ok (.aload_n 2, 1) := by decide +kernel
theorem dL_restore_1 : decode cL_restore 1 = .ok (.iconst 0, 1) := by decide +kernel
theorem dL_restore_2 : decode cL_restore 2 = .ok (.aload_n 0, 1) := by decide +kernel
theorem dL_restore_3 : decode cL_restore 3 = .ok (.iload_n 1, 1) := by decide +kernel
theorem dL_restore_4 : decode cL_restore 4 = .ok (.invokevirtual 103, 3) := by decide +kernel
theorem dL_restore_7 : decode cL_restore 7 = .ok (.i2l, 1) := by decide +kernel
theorem dL_restore_8 : decode cL_restore 8 = .ok (.lastore, 1) := by decide +kernel
theorem dL_restore_9 : decode cL_restore 9 = .ok (.goto 9, 3) := by decide +kernel
theorem dL_restore_12 : decode cL_restore 12 = .ok (.astore_n 3, 1) := by decide +kernel
theorem dL_restore_13 : decode cL_restore 13 = .ok (.iconst 1, 1) := by decide +kernel
theorem dL_restore_14 : decode cL_restore 14 = .ok (.ireturn, 1) := by decide +kernel
theorem dL_restore_15 : decode cL_restore 15 = .ok (.astore_n 3, 1) := by decide +kernel
theorem dL_restore_16 : decode cL_restore 16 = .ok (.iconst 2, 1) := by decide +kernel
theorem dL_restore_17 : decode cL_restore 17 = .ok (.ireturn, 1) := by decide +kernel
theorem dL_restore_18 : decode cL_restore 18 = .ok (.iconst 0, 1) := by decide +kernel
theorem dL_restore_19 : decode cL_restore 19 = .ok (.ireturn, 1) := by decide +kernel
abbrev hL_restore : tl_hs := [(0, 9, 12, 28), (0, 9, 15, 15)]
abbrev mL_restore : tl_M := (yL_restore, cL_restore, 4, some .int, tl_rm 9 1 6)
theorem cw_L_restore : tl_w9 mL_restore hL_restore ∈ tl_GW := tl_inGW (tl_in5 (List.mem_of_getElem? (i := 32) rfl)) rfl
theorem cs_L_restore : tl_cV mL_restore mX9_restore 103 1 := ⟨cd_X9_restore, ml_L_103, im_X9_restore, se_X9_restore, in_X9, ⟨by decide, by decide, by decide +kernel⟩, Nat.le_of_ble_eq_true rfl, Nat.le_of_ble_eq_true rfl⟩
theorem lL_restore {E : tl_E} {p0 : Int32} {u v : tl_S} {t : Nat} {r : Int32} (h : f9_restore E.2.1 p0 u = some (t, r, v)) (hl : t = 0 ∨ t ∈ [1, 3]) : tl_MetH E mL_restore hL_restore [.ref E.2.1, .int p0, .ref (E.2.1 + 566)] (tl_HB E u) (fun q H => ∃ w, tl_Qw E [1, 3] t r v q w ∧ tl_HB E w H) := by
  refine tl_startH [some (.ref E.2.1), some (.int p0), some (.ref (E.2.1 + 566)), none] rfl rfl rfl (Nat.le_of_ble_eq_true rfl) ?_
  refine tl_aload_n (q := 2) dL_restore_0 rfl (tl_iconst dL_restore_1 ic_0 (tl_aload_n (q := 0) dL_restore_2 rfl (tl_iload_n (q := 1) dL_restore_3 rfl ?_)))
  exact tl_wtail (As := [.int p0]) (l := [1, 3]) (tgt := 18) (l9_restore tl_T9 h) hl (by decide) rfl rfl dL_restore_4 cs_L_restore ⟨Nat.le_of_ble_eq_true rfl, Nat.le_of_ble_eq_true rfl⟩ dL_restore_7 dL_restore_8 dL_restore_9 (by decide) dL_restore_18 dL_restore_19 (List.forall_mem_cons.mpr ⟨⟨12, ⟨[], [(0, 9, 15, 15)], 0, 9, 28, rfl, ⟨Nat.le_of_ble_eq_true rfl, Nat.le_of_ble_eq_true rfl⟩, by decide, kk_L_28, fun _ h => absurd h List.not_mem_nil⟩, ⟨13, 1, Or.inl ⟨3, dL_restore_12, by decide, rfl⟩, dL_restore_13, i9_1, dL_restore_14⟩⟩, List.forall_mem_cons.mpr ⟨⟨15, ⟨[(0, 9, 12, 28)], [], 0, 9, 15, rfl, ⟨Nat.le_of_ble_eq_true rfl, Nat.le_of_ble_eq_true rfl⟩, by decide, kk_L_15, List.forall_mem_cons.mpr ⟨⟨by decide, tl_xn 1, tl_xnC 1, kk_L_28, tl_x31⟩, fun _ h => absurd h List.not_mem_nil⟩⟩, ⟨16, 2, Or.inl ⟨3, dL_restore_15, by decide, rfl⟩, dL_restore_16, i9_2, dL_restore_17⟩⟩, fun _ h => absurd h List.not_mem_nil⟩⟩)
