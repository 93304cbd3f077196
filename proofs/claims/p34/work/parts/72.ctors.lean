/-! The constructors. -/
theorem ci_X3_X8 : tl_cIN mX3_init mX8_init 21 0 := ⟨cd_X8_init, by decide, im_X8_init, in_X8, rfl, rfl, ⟨by decide, by decide, by decide +kernel⟩, Nat.le_of_ble_eq_true rfl, Nat.le_of_ble_eq_true rfl⟩
theorem ci_X5_X1 : tl_cIN mX5_init mX1_init 40 0 := ⟨cd_X1_init, by decide, im_X1_init, in_X1, rfl, rfl, ⟨by decide, by decide, by decide +kernel⟩, Nat.le_of_ble_eq_true rfl, Nat.le_of_ble_eq_true rfl⟩
theorem ci_X5_X7 : tl_cIN mX5_init mX7_init 41 0 := ⟨cd_X7_init, by decide, im_X7_init, in_X7, rfl, rfl, ⟨by decide, by decide, by decide +kernel⟩, Nat.le_of_ble_eq_true rfl, Nat.le_of_ble_eq_true rfl⟩
theorem ci_X5_X4 : tl_cIN mX5_init mX4_init 42 0 := ⟨cd_X4_init, by decide, im_X4_init, in_X4, rfl, rfl, ⟨by decide, by decide, by decide +kernel⟩, Nat.le_of_ble_eq_true rfl, Nat.le_of_ble_eq_true rfl⟩
theorem ci_X5_X3 : tl_cI mX5_init mX3_init 31 0 := ⟨cd_X3_init, ml_X5_31, im_X3_init, in_X3, rfl, rfl, ⟨by decide, by decide, by decide +kernel⟩, Nat.le_of_ble_eq_true rfl, Nat.le_of_ble_eq_true rfl⟩
theorem ci_X2_X5 : tl_cI mX2_init mX5_init 17 0 := ⟨cd_X5_init, ml_X2_17, im_X5_init, in_X5, rfl, rfl, ⟨by decide, by decide, by decide +kernel⟩, Nat.le_of_ble_eq_true rfl, Nat.le_of_ble_eq_true rfl⟩
theorem ci_X9_X6 : tl_cIN mX9_init mX6_init 11 0 := ⟨cd_X6_init, by decide, im_X6_init, in_X6, rfl, rfl, ⟨by decide, by decide, by decide +kernel⟩, Nat.le_of_ble_eq_true rfl, Nat.le_of_ble_eq_true rfl⟩
theorem ci_X9_X0 : tl_cIN mX9_init mX0_init 18 0 := ⟨cd_X0_init, by decide, im_X0_init, in_X0, rfl, rfl, ⟨by decide, by decide, by decide +kernel⟩, Nat.le_of_ble_eq_true rfl, Nat.le_of_ble_eq_true rfl⟩
theorem ci_X9_X5 : tl_cI mX9_init mX5_init 25 0 := ⟨cd_X5_init, ml_X9_25, im_X5_init, in_X5, rfl, rfl, ⟨by decide, by decide, by decide +kernel⟩, Nat.le_of_ble_eq_true rfl, Nat.le_of_ble_eq_true rfl⟩
theorem ci_X9_X2 : tl_cI mX9_init mX2_init 38 0 := ⟨cd_X2_init, ml_X9_38, im_X2_init, in_X2, rfl, rfl, ⟨by decide, by decide, by decide +kernel⟩, Nat.le_of_ble_eq_true rfl, Nat.le_of_ble_eq_true rfl⟩
section TLM
variable {E : tl_E}
theorem tg_retE {M : tl_M} {X : State → Array Value → Code → Prop} {k n pc sz : Nat} {F F1 : Nat → va_E} {ls : List (Option Value)} (hd : decode M.2.1 pc = .ok (.return_, 1)) (hr : M.2.2.2.1 = none) (hk : k ≤ M.2.2.2.2.cells) (hn2 : n ≤ M.2.2.2.2.slots) (e : ∀ q, E.2.1 ≤ q → q < sz → tl_eqv (F q) (F1 q)) : tl_R E M X (tl_Z E M (tl_GQ E F1 sz)) k n (tl_G E F sz) pc ls [] :=
  tl_vret hd hr hk hn2 (fun H hH => ⟨rfl, hH.1, fun q h1 h2 => e q h1 h2 _ _ _ (hH.2 q h1 h2)⟩)
theorem tl_ov1 {F : Nat → va_E} {b K : Nat} (h : tl_T E.2.1 b = some K) (hK : K < 10) (ho : ∀ k, tl_off K k = none) (h3 : K ≠ 3) (h5 : K ≠ 5) (hF : F b = .inr (K, List.replicate (tl_n K) (.int 0))) : tl_ov E F b (b + 1) = F := by
  funext q
  by_cases c : q = b
  · rw [tl_ovi (by omega), c, tl_g0_0 h hK ho h3 h5, hF]
  · rw [tl_ovo (by omega)]
theorem ct_X0 : tl_Ct E mX0_init 0 1 (List.replicate 5 (.int 0)) := by
  intro F b hb hT hF
  rw [tl_ov1 hT (by decide) (fun k => rfl) (by decide) (by decide) hF]
  refine tl_start [some (.ref b)] rfl rfl rfl (Nat.le_of_ble_eq_true rfl) ?_
  exact tl_aload_n (q := 0) dX0_init_0 rfl (tg_obj dX0_init_1 ml_X0_1 (Nat.le_of_ble_eq_true rfl) (Nat.le_of_ble_eq_true rfl) (tg_ret dX0_init_4 rfl (Nat.zero_le _) (Nat.zero_le _) rfl))
theorem ct_X1 : tl_Ct E mX1_init 1 1 (List.replicate 2 (.int 0)) := by
  intro F b hb hT hF
  rw [tl_ov1 hT (by decide) (fun k => rfl) (by decide) (by decide) hF]
  refine tl_start [some (.ref b)] rfl rfl rfl (Nat.le_of_ble_eq_true rfl) ?_
  exact tl_aload_n (q := 0) dX1_init_0 rfl (tg_obj dX1_init_1 ml_X1_3 (Nat.le_of_ble_eq_true rfl) (Nat.le_of_ble_eq_true rfl) (tg_ret dX1_init_4 rfl (Nat.zero_le _) (Nat.zero_le _) rfl))
theorem ct_X4 : tl_Ct E mX4_init 4 1 (List.replicate 4 (.int 0)) := by
  intro F b hb hT hF
  rw [tl_ov1 hT (by decide) (fun k => rfl) (by decide) (by decide) hF]
  refine tl_start [some (.ref b)] rfl rfl rfl (Nat.le_of_ble_eq_true rfl) ?_
  exact tl_aload_n (q := 0) dX4_init_0 rfl (tg_obj dX4_init_1 ml_X4_1 (Nat.le_of_ble_eq_true rfl) (Nat.le_of_ble_eq_true rfl) (tg_ret dX4_init_4 rfl (Nat.zero_le _) (Nat.zero_le _) rfl))
theorem ct_X7 : tl_Ct E mX7_init 7 1 (List.replicate 4 (.int 0)) := by
  intro F b hb hT hF
  rw [tl_ov1 hT (by decide) (fun k => rfl) (by decide) (by decide) hF]
  refine tl_start [some (.ref b)] rfl rfl rfl (Nat.le_of_ble_eq_true rfl) ?_
  exact tl_aload_n (q := 0) dX7_init_0 rfl (tg_obj dX7_init_1 ml_X7_1 (Nat.le_of_ble_eq_true rfl) (Nat.le_of_ble_eq_true rfl) (tg_ret dX7_init_4 rfl (Nat.zero_le _) (Nat.zero_le _) rfl))
theorem ct_X8 : tl_Ct E mX8_init 8 1 (List.replicate 5 (.int 0)) := by
  intro F b hb hT hF
  rw [tl_ov1 hT (by decide) (fun k => rfl) (by decide) (by decide) hF]
  refine tl_start [some (.ref b)] rfl rfl rfl (Nat.le_of_ble_eq_true rfl) ?_
  exact tl_aload_n (q := 0) dX8_init_0 rfl (tg_obj dX8_init_1 ml_X8_1 (Nat.le_of_ble_eq_true rfl) (Nat.le_of_ble_eq_true rfl) (tg_ret dX8_init_4 rfl (Nat.zero_le _) (Nat.zero_le _) rfl))
theorem tl_g0_3 {a : Nat} (h : tl_T E.2.1 a = some 3) : tl_g0 E a = .inr (3, [.ref (a + 1), .int 0, .int 0, .int 0, .int (-1), .int 0, .int 0]) := by
  rw [tl_g0_k h, tl_ce_obj (by decide)]
  have e : ∀ k, (tl_u0 E.2.1).1 a k = if k = 4 then -1 else 0 := fun k => tl_u0_3 h
  show (.inr (3, [tl_fv 3 a (tl_u0 E.2.1).1 0, tl_fv 3 a (tl_u0 E.2.1).1 1, tl_fv 3 a (tl_u0 E.2.1).1 2, tl_fv 3 a (tl_u0 E.2.1).1 3, tl_fv 3 a (tl_u0 E.2.1).1 4, tl_fv 3 a (tl_u0 E.2.1).1 5, tl_fv 3 a (tl_u0 E.2.1).1 6]) : va_E) = _
  show (.inr (3, [.ref (a + 1), .int ((tl_u0 E.2.1).1 a 1), .int ((tl_u0 E.2.1).1 a 2), .int ((tl_u0 E.2.1).1 a 3), .int ((tl_u0 E.2.1).1 a 4), .int ((tl_u0 E.2.1).1 a 5), .int ((tl_u0 E.2.1).1 a 6)]) : va_E) = _
  rw [e, e, e, e, e, e]; rfl
theorem tl_g0_5 {a : Nat} (h : tl_T E.2.1 a = some 5) : tl_g0 E a = .inr (5, [.ref (a + 1), .ref (a + 2), .ref (a + 3), .ref (a + 4), .int 0, .int 0, .int 0, .int 0, .int 0, .int 0, .int 0, .int 0, .int 0, .int 0, .int 4, .int 0]) := by
  rw [tl_g0_k h, tl_ce_obj (by decide)]
  have e : ∀ k, (tl_u0 E.2.1).1 a k = if k = 14 then 4 else 0 := fun k => tl_u0_5 h
  show (.inr (5, [.ref (a + 1), .ref (a + 2), .ref (a + 3), .ref (a + 4), .int ((tl_u0 E.2.1).1 a 4), .int ((tl_u0 E.2.1).1 a 5), .int ((tl_u0 E.2.1).1 a 6), .int ((tl_u0 E.2.1).1 a 7), .int ((tl_u0 E.2.1).1 a 8), .int ((tl_u0 E.2.1).1 a 9), .int ((tl_u0 E.2.1).1 a 10), .int ((tl_u0 E.2.1).1 a 11), .int ((tl_u0 E.2.1).1 a 12), .int ((tl_u0 E.2.1).1 a 13), .int ((tl_u0 E.2.1).1 a 14), .int ((tl_u0 E.2.1).1 a 15)]) : va_E) = _
  rw [e, e, e, e, e, e, e, e, e, e, e, e]; rfl
theorem tl_g0_6 {a : Nat} (h : tl_T E.2.1 a = some 6) : tl_g0 E a = .inr (6, [.ref (a + 1), .int 0, .int 0]) := by
  rw [tl_g0_k h, tl_ce_obj (by decide)]
  have e : ∀ k, (tl_u0 E.2.1).1 a k = 0 := fun k => tl_u0_0 h (by decide) (by decide) (by decide)
  show (.inr (6, [.ref (a + 1), .int ((tl_u0 E.2.1).1 a 1), .int ((tl_u0 E.2.1).1 a 2)]) : va_E) = _
  rw [e, e]
theorem tl_g0_2 {a : Nat} (h : tl_T E.2.1 a = some 2) : tl_g0 E a = .inr (2, [.ref (a + 1), .int 0, .int 0]) := by
  rw [tl_g0_k h, tl_ce_obj (by decide)]
  have e : ∀ k, (tl_u0 E.2.1).1 a k = 0 := fun k => tl_u0_0 h (by decide) (by decide) (by decide)
  show (.inr (2, [.ref (a + 1), .int ((tl_u0 E.2.1).1 a 1), .int ((tl_u0 E.2.1).1 a 2)]) : va_E) = _
  rw [e, e]
theorem tl_g0_9 {a : Nat} (h : tl_T E.2.1 a = some 9) : tl_g0 E a = .inr (9, [.ref (a + 1), .ref (a + 3), .ref (a + 4), .ref (a + 33), .ref (a + 62), .ref (a + 91), .ref (a + 499), .ref (a + 500)]) := by
  rw [tl_g0_k h, tl_ce_obj (by decide)]
  have e : ∀ k, (tl_u0 E.2.1).1 a k = 0 := fun k => tl_u0_0 h (by decide) (by decide) (by decide)
  show (.inr (9, [.ref (a + 1), .ref (a + 3), .ref (a + 4), .ref (a + 33), .ref (a + 62), .ref (a + 91), .ref (a + 499), .ref (a + 500)]) : va_E) = _
  rfl
theorem tl_g0_18 {a : Nat} (h : tl_T E.2.1 a = some 18) : tl_g0 E a = .inl (E.2.2.2 4, 3, .inr (.inr (.inr (.inr (fun j => some (a + 11 + j)))))) := tl_g0_k h
theorem tl_g0_19 {a : Nat} (h : tl_T E.2.1 a = some 19) : tl_g0 E a = .inl (E.2.2.2 5, 6, .inr (.inr (.inr (.inr (fun j => some (a + 13 + j)))))) := tl_g0_k h
theorem tl_g0_20 {a : Nat} (h : tl_T E.2.1 a = some 20) : tl_g0 E a = .inl (E.2.2.2 6, 8, .inr (.inr (.inr (.inr (fun j => some (a + 18 + j)))))) := tl_g0_k h
theorem tl_g0_21 {a : Nat} (h : tl_T E.2.1 a = some 21) : tl_g0 E a = .inl (E.2.2.2 7, 6, .inr (.inr (.inr (.inr (fun j => some (a + 1 + j)))))) := tl_g0_k h
theorem tl_g0_22 {a : Nat} (h : tl_T E.2.1 a = some 22) : tl_g0 E a = .inl (E.2.2.2 8, 14, .inr (.inr (.inr (.inr (fun j => some (a + 1 + 29 * j)))))) := tl_g0_k h
theorem tl_g0_23 {a : Nat} (h : tl_T E.2.1 a = some 23) : tl_g0 E a = .inl (E.2.2.2 8, 2, .inr (.inr (.inr (.inr (fun j => some (a + 2 + 29 * j)))))) := tl_g0_k h
theorem tl_g0_11 {a : Nat} (h : tl_T E.2.1 a = some 11) : tl_g0 E a = .inl (E.2.2.2 1, 120, .inl (fun _ => 0)) := by
  rw [tl_g0_k h]
  show (.inl (E.2.2.2 1, 120, .inl ((tl_u0 E.2.1).1 a)) : va_E) = _
  have e : (tl_u0 E.2.1).1 a = fun _ => 0 := funext (fun k => tl_u0_0 h (by decide) (by decide) (by decide))
  rw [e]
theorem tl_g0_12 {a : Nat} (h : tl_T E.2.1 a = some 12) : tl_g0 E a = .inl (E.2.2.2 0, 120, .inl (fun _ => 0)) := by
  rw [tl_g0_k h]
  show (.inl (E.2.2.2 0, 120, .inl ((tl_u0 E.2.1).1 a)) : va_E) = _
  have e : (tl_u0 E.2.1).1 a = fun _ => 0 := funext (fun k => tl_u0_0 h (by decide) (by decide) (by decide))
  rw [e]
theorem tl_g0_14 {a : Nat} (h : tl_T E.2.1 a = some 14) : tl_g0 E a = .inl (E.2.2.2 0, 1456, .inl (fun _ => 0)) := by
  rw [tl_g0_k h]
  show (.inl (E.2.2.2 0, 1456, .inl ((tl_u0 E.2.1).1 a)) : va_E) = _
  have e : (tl_u0 E.2.1).1 a = fun _ => 0 := funext (fun k => tl_u0_0 h (by decide) (by decide) (by decide))
  rw [e]
theorem tl_g0_15 {a : Nat} (h : tl_T E.2.1 a = some 15) : tl_g0 E a = .inl (E.2.2.2 0, 208, .inl (fun _ => 0)) := by
  rw [tl_g0_k h]
  show (.inl (E.2.2.2 0, 208, .inl ((tl_u0 E.2.1).1 a)) : va_E) = _
  have e : (tl_u0 E.2.1).1 a = fun _ => 0 := funext (fun k => tl_u0_0 h (by decide) (by decide) (by decide))
  rw [e]
theorem tl_g0_16 {a : Nat} (h : tl_T E.2.1 a = some 16) : tl_g0 E a = .inl (E.2.2.2 2, 2, .inl (fun _ => 0)) := by
  rw [tl_g0_k h]
  show (.inl (E.2.2.2 2, 2, .inl ((tl_u0 E.2.1).1 a)) : va_E) = _
  have e : (tl_u0 E.2.1).1 a = fun _ => 0 := funext (fun k => tl_u0_0 h (by decide) (by decide) (by decide))
  rw [e]
theorem ct_X3 : tl_Ct E mX3_init 3 8 [.null, .int 0, .int 0, .int 0, .int 0, .int 0, .int 0] := by
  intro F a ha hT hF
  have hT1 : tl_T E.2.1 (a + 1) = some 21 := tt_3_0 hT
  have hTo : ∀ j, j < 6 → tl_T E.2.1 (a + 2 + 1 * j) = some 8 := fun j hj => by
    have := ta_21 hT1 hj
    rw [show a + 1 + (1 + j) = a + 2 + 1 * j by omega] at this
    exact this
  refine tl_start [some (.ref a), none] rfl rfl rfl (Nat.le_of_ble_eq_true rfl) ?_
  refine tl_aload_n (q := 0) dX3_init_0 rfl (tg_obj dX3_init_1 ml_X3_3 (Nat.le_of_ble_eq_true rfl) (Nat.le_of_ble_eq_true rfl) ?_)
  refine tl_aload_n (q := 0) dX3_init_4 rfl (tl_bipush (v := 6) dX3_init_5 bp_6 ?_)
  refine tg_newq (t := 7) (NN := 6) dX3_init_7 kk_X3_9 (by decide) rfl (by decide) (by decide) (by decide) (Nat.le_of_ble_eq_true rfl) (Nat.le_of_ble_eq_true rfl) ?_
  refine tg_putF (f := 0) tl_ck3 dX3_init_10 fl_X3_11 (by decide) rfl rfl rfl rfl rfl ((tl_fun (by omega)).trans hF) (by decide) ⟨ha, by omega⟩ ?_
  refine tl_aload_n (q := 0) dX3_init_13 rfl (tl_iconst (v := (-1)) dX3_init_14 ic_m1 ?_)
  refine tg_put (f := 4) tl_ck3 dX3_init_15 fl_X3_17 (by decide) rfl rfl rfl (tl_fus _ _ _) (Nat.le_of_ble_eq_true rfl) ⟨ha, by omega⟩ ?_
  generalize hF2 : tl_fu (tl_fu (tl_fu F (a + 1) (.inl (E.2.2.2 7, 6, .inr (.inr (.inr (.inr (fun _ => none))))))) a (.inr (3, List.set [.null, .int 0, .int 0, .int 0, .int 0, .int 0, .int 0] 0 (.ref (a + 1))))) a (.inr (3, List.set (List.set [.null, .int 0, .int 0, .int 0, .int 0, .int 0, .int 0] 0 (.ref (a + 1))) 4 (.int (-1)))) = F2
  have hFa : F2 a = .inr (3, [.ref (a + 1), .int 0, .int 0, .int 0, .int (-1), .int 0, .int 0]) := by rw [← hF2, tl_fus]; rfl
  have hF1 : F2 (a + 1) = .inl (E.2.2.2 7, 6, .inr (.inr (.inr (.inr (fun _ => none))))) := by rw [← hF2, tl_fun (by omega), tl_fun (by omega), tl_fus]
  have hFo : ∀ q, q ≠ a → q ≠ a + 1 → F2 q = F q := fun q h1 h2 => by rw [← hF2, tl_fun h1, tl_fun h1, tl_fun h2]
  refine tl_iconst (v := 0) dX3_init_18 ic_0 (tl_istore_n (q := 1) dX3_init_19 (Nat.le_of_ble_eq_true rfl) ?_)
  have L := tg_loop (E := E) (M := mX3_init) (N := mX8_init) (X := tl_X0) (Z := tl_Z E mX3_init (tl_GQ E (tl_ov E F a (a + 8)) (a + 8))) (F := F2) (a := a) (ra := a + 1) (eb := a + 2) (w := 1) (t := 7) (cnt := 6) (p0 := 20) (p2 := 23) (tgt := 45) (f := 0) (k0 := 1) (n0 := 6) tl_ck8 tl_ck3 rfl ha (by omega) ⟨by omega, by omega⟩ (by omega) hFa rfl (by decide) hTo (by decide) (by decide) rfl ct_X8 (fun j hj => by rcases (show j = 0 ∨ j = 1 ∨ j = 2 ∨ j = 3 ∨ j = 4 by omega) with rfl | rfl | rfl | rfl | rfl <;> rfl) dX3_init_20 (fun kk => tl_bipush (v := nI 6) dX3_init_21 bp_6 kk) dX3_init_23 (by decide) dX3_init_26 dX3_init_27 fl_X3_11 dX3_init_30 dX3_init_31 kk_X3_9 ia_X8 in_X8 dX3_init_34 dX3_init_35 (Or.inr ci_X3_X8) dX3_init_38 dX3_init_39 dX3_init_42 (by decide) (Nat.le_of_ble_eq_true rfl) (Nat.le_of_ble_eq_true rfl) ?_ 6 0 rfl
  · rw [tl_rw0 hF1, Nat.zero_mul, Nat.zero_mul, Nat.mul_zero] at L
    exact L
  · refine tg_retE dX3_init_45 rfl (Nat.le_of_ble_eq_true rfl) (Nat.le_of_ble_eq_true rfl) (fun q h1 h2 => ?_)
    by_cases c1 : q = a + 1
    · rw [c1, tl_rwr, tl_ovi (by omega), tl_g0_21 hT1]
      exact tl_eqv_row (fun j hj => by rw [if_pos hj]; congr 1; omega)
    · by_cases c2 : a + 2 ≤ q ∧ q < a + 8
      · rw [tl_rwi c1 (by omega), tl_ovi (by omega)]; exact tl_eqv_rf rfl
      · rw [tl_rwo c1 (by omega)]
        by_cases c3 : q = a
        · rw [c3, hFa, tl_ovi (by omega), tl_g0_3 hT]; exact tl_eqv_rf rfl
        · rw [hFo q c3 c1, tl_ovo (by omega)]; exact tl_eqv_rf rfl
theorem ct_X5 : tl_Ct E mX5_init 5 29 [.null, .null, .null, .null, .int 0, .int 0, .int 0, .int 0, .int 0, .int 0, .int 0, .int 0, .int 0, .int 0, .int 0, .int 0] := by
  intro F a ha hT hF
  have hT1 : tl_T E.2.1 (a + 1) = some 18 := tt_5_0 hT
  have hT2 : tl_T E.2.1 (a + 2) = some 19 := tt_5_1 hT
  have hT3 : tl_T E.2.1 (a + 3) = some 20 := tt_5_2 hT
  have hT4 : tl_T E.2.1 (a + 4) = some 3 := tt_5_3 hT
  have hTg : ∀ j, j < 3 → tl_T E.2.1 (a + 12 + 1 * j) = some 1 := fun j hj => by
    have := ta_18 hT1 hj
    rw [show a + 1 + (11 + j) = a + 12 + 1 * j by omega] at this
    exact this
  have hTm : ∀ j, j < 6 → tl_T E.2.1 (a + 15 + 1 * j) = some 7 := fun j hj => by
    have := ta_19 hT2 hj
    rw [show a + 2 + (13 + j) = a + 15 + 1 * j by omega] at this
    exact this
  have hTl : ∀ j, j < 8 → tl_T E.2.1 (a + 21 + 1 * j) = some 4 := fun j hj => by
    have := ta_20 hT3 hj
    rw [show a + 3 + (18 + j) = a + 21 + 1 * j by omega] at this
    exact this
  refine tl_start [some (.ref a), none] rfl rfl rfl (Nat.le_of_ble_eq_true rfl) ?_
  refine tl_aload_n (q := 0) dX5_init_0 rfl (tg_obj dX5_init_1 ml_X5_3 (Nat.le_of_ble_eq_true rfl) (Nat.le_of_ble_eq_true rfl) ?_)
  refine tl_aload_n (q := 0) dX5_init_4 rfl (tl_iconst (v := 3) dX5_init_5 ic_3 ?_)
  refine tg_newq (t := 4) (NN := 3) dX5_init_6 kk_X5_9 (by decide) rfl (by decide) (by decide) (by decide) (Nat.le_of_ble_eq_true rfl) (Nat.le_of_ble_eq_true rfl) ?_
  refine tg_putF (f := 0) tl_ck5 dX5_init_9 fl_X5_11 (by decide) rfl rfl rfl rfl rfl ((tl_fun (by omega)).trans hF) (Nat.le_of_ble_eq_true rfl) ⟨ha, by omega⟩ ?_
  refine tl_aload_n (q := 0) dX5_init_12 rfl (tl_bipush (v := 6) dX5_init_13 bp_6 ?_)
  refine tg_newq (t := 5) (NN := 6) dX5_init_15 kk_X5_17 (by decide) rfl (by decide) (by decide) (by decide) (Nat.le_of_ble_eq_true rfl) (Nat.le_of_ble_eq_true rfl) ?_
  refine tg_putF (f := 1) tl_ck5 dX5_init_18 fl_X5_19 (by decide) rfl rfl rfl rfl rfl ((tl_fun (by omega)).trans (tl_fus _ _ _)) (Nat.le_of_ble_eq_true rfl) ⟨ha, by omega⟩ ?_
  refine tl_aload_n (q := 0) dX5_init_21 rfl (tl_bipush (v := 8) dX5_init_22 bp_8 ?_)
  refine tg_newq (t := 6) (NN := 8) dX5_init_24 kk_X5_23 (by decide) rfl (by decide) (by decide) (by decide) (Nat.le_of_ble_eq_true rfl) (Nat.le_of_ble_eq_true rfl) ?_
  refine tg_putF (f := 2) tl_ck5 dX5_init_27 fl_X5_25 (by decide) rfl rfl rfl rfl rfl ((tl_fun (by omega)).trans (tl_fus _ _ _)) (Nat.le_of_ble_eq_true rfl) ⟨ha, by omega⟩ ?_
  generalize hF1 : tl_fu (tl_fu _ _ _) a (.inr (5, List.set (List.set (List.set [.null, .null, .null, .null, .int 0, .int 0, .int 0, .int 0, .int 0, .int 0, .int 0, .int 0, .int 0, .int 0, .int 0, .int 0] 0 (.ref (a + 1))) 1 (.ref (a + 1 + 1))) 2 (.ref (a + 1 + 1 + 1)))) = F1
  have F1a : F1 a = .inr (5, [.ref (a + 1), .ref (a + 2), .ref (a + 3), .null, .int 0, .int 0, .int 0, .int 0, .int 0, .int 0, .int 0, .int 0, .int 0, .int 0, .int 0, .int 0]) := by rw [← hF1, tl_fus]; rfl
  have F11 : F1 (a + 1) = .inl (E.2.2.2 4, 3, .inr (.inr (.inr (.inr (fun _ => none))))) := by
    rw [← hF1]
    rw [tl_fun (by omega), tl_fun (by omega), tl_fun (by omega), tl_fun (by omega), tl_fun (by omega), tl_fus]
  have F12 : F1 (a + 2) = .inl (E.2.2.2 5, 6, .inr (.inr (.inr (.inr (fun _ => none))))) := by
    rw [← hF1, tl_fun (by omega), tl_fun (by omega), tl_fun (by omega), tl_fus]
  have F13 : F1 (a + 3) = .inl (E.2.2.2 6, 8, .inr (.inr (.inr (.inr (fun _ => none))))) := by
    rw [← hF1, tl_fun (by omega), tl_fus]
  have F1o : ∀ q, q < a ∨ a + 3 < q → F1 q = F q := fun q hq => by
    rw [← hF1, tl_fun (by omega), tl_fun (by omega), tl_fun (by omega), tl_fun (by omega), tl_fun (by omega), tl_fun (by omega)]
  clear hF1
  refine tl_aload_n (q := 0) dX5_init_30 rfl ?_
  refine tg_new (fs := [.null, .int 0, .int 0, .int 0, .int 0, .int 0, .int 0]) tl_ck3 dX5_init_31 kk_X5_29 ia_X3 in_X3 (fun j hj => by rcases (show j = 0 ∨ j = 1 ∨ j = 2 ∨ j = 3 ∨ j = 4 ∨ j = 5 ∨ j = 6 by omega) with rfl | rfl | rfl | rfl | rfl | rfl | rfl <;> rfl) (Nat.le_of_ble_eq_true rfl) (Nat.le_of_ble_eq_true rfl) ?_
  refine tl_dup dX5_init_34 rfl ?_
  refine tg_call (ct_X3 _ (a + 4) (by omega) hT4 (tl_fus _ _ _)) dX5_init_35 (Or.inl ci_X5_X3) ⟨(Nat.le_of_ble_eq_true rfl), (Nat.le_of_ble_eq_true rfl)⟩ (Nat.le_of_ble_eq_true rfl) ?_
  refine tg_putF (f := 3) tl_ck5 dX5_init_38 fl_X5_32 (by decide) rfl rfl rfl rfl rfl ((tl_ovo (by omega)).trans ((tl_fun (by omega)).trans F1a)) (Nat.le_of_ble_eq_true rfl) ⟨ha, by omega⟩ ?_
  refine tl_aload_n (q := 0) dX5_init_41 rfl (tl_iconst (v := 4) dX5_init_42 ic_4 ?_)
  refine tg_put (f := 14) tl_ck5 dX5_init_43 fl_X5_36 (by decide) rfl rfl rfl (tl_fus _ _ _) (Nat.le_of_ble_eq_true rfl) ⟨ha, by omega⟩ ?_
  generalize hF2 : tl_fu (tl_fu (tl_ov E (tl_fu F1 _ _) _ _) a _) a _ = F2
  have F2a : F2 a = .inr (5, [.ref (a + 1), .ref (a + 2), .ref (a + 3), .ref (a + 4), .int 0, .int 0, .int 0, .int 0, .int 0, .int 0, .int 0, .int 0, .int 0, .int 0, .int 4, .int 0]) := by rw [← hF2, tl_fus]; rfl
  have F2l : ∀ q, a + 4 ≤ q ∧ q < a + 12 → F2 q = tl_g0 E q := fun q hq => by
    rw [← hF2, tl_fun (by omega), tl_fun (by omega), tl_ovi (by omega)]
  have F2o : ∀ q, q ≠ a → ¬ (a + 4 ≤ q ∧ q < a + 12) → F2 q = F1 q := fun q h1 h2 => by
    rw [← hF2, tl_fun h1, tl_fun h1, tl_ovo (by omega), tl_fun (by omega)]
  clear hF2
  have F21 : F2 (a + 1) = .inl (E.2.2.2 4, 3, .inr (.inr (.inr (.inr (fun _ => none))))) := (F2o _ (by omega) (by omega)).trans F11
  have F22 : F2 (a + 2) = .inl (E.2.2.2 5, 6, .inr (.inr (.inr (.inr (fun _ => none))))) := (F2o _ (by omega) (by omega)).trans F12
  have F23 : F2 (a + 3) = .inl (E.2.2.2 6, 8, .inr (.inr (.inr (.inr (fun _ => none))))) := (F2o _ (by omega) (by omega)).trans F13
  refine tl_iconst (v := 0) dX5_init_46 ic_0 (tl_istore_n (q := 1) dX5_init_47 (Nat.le_of_ble_eq_true rfl) ?_)
  have L1 := fun fin => tg_loop (E := E) (M := mX5_init) (N := mX1_init) (X := tl_X0) (Z := tl_Z E mX5_init (tl_GQ E (tl_ov E F a (a + 29)) (a + 29))) (F := F2) (a := a) (ra := a + 1) (eb := a + 12) (w := 1) (t := 4) (cnt := 3) (p0 := 48) (p2 := 50) (tgt := 72) (f := 0) (k0 := 11) (n0 := 60) tl_ck1 tl_ck5 rfl ha (by omega) ⟨by omega, by omega⟩ (by omega) F2a rfl (by decide) hTg (by decide) (by decide) rfl ct_X1 (fun j hj => by rcases (show j = 0 ∨ j = 1 by omega) with rfl | rfl <;> rfl) dX5_init_48 (fun kk => tl_iconst (v := nI 3) dX5_init_49 ic_3 kk) dX5_init_50 (by decide) dX5_init_53 dX5_init_54 fl_X5_11 dX5_init_57 dX5_init_58 kk_X5_9 ia_X1 in_X1 dX5_init_61 dX5_init_62 (Or.inr ci_X5_X1) dX5_init_65 dX5_init_66 dX5_init_69 (by decide) (Nat.le_of_ble_eq_true rfl) (Nat.le_of_ble_eq_true rfl) fin 3 0 rfl
  rw [tl_rw0 F21, Nat.zero_mul, Nat.zero_mul, Nat.mul_zero] at L1
  refine L1 ?_
  clear L1
  generalize hF3 : tl_rw E F2 (a + 1) 4 3 (a + 12) 1 3 = F3
  have F31 : F3 (a + 1) = .inl (E.2.2.2 4, 3, .inr (.inr (.inr (.inr (fun j => if j < 3 then some (a + 12 + 1 * j) else none))))) := by rw [← hF3, tl_rwr]
  have F3i : ∀ q, a + 12 ≤ q ∧ q < a + 15 → F3 q = tl_g0 E q := fun q hq => by rw [← hF3, tl_rwi (by omega) (by omega)]
  have F3o : ∀ q, q ≠ a + 1 → ¬ (a + 12 ≤ q ∧ q < a + 15) → F3 q = F2 q := fun q h1 h2 => by rw [← hF3, tl_rwo h1 (by omega)]
  clear hF3
  have F3a : F3 a = .inr (5, [.ref (a + 1), .ref (a + 2), .ref (a + 3), .ref (a + 4), .int 0, .int 0, .int 0, .int 0, .int 0, .int 0, .int 0, .int 0, .int 0, .int 0, .int 4, .int 0]) := (F3o _ (by omega) (by omega)).trans F2a
  have F32 : F3 (a + 2) = .inl (E.2.2.2 5, 6, .inr (.inr (.inr (.inr (fun _ => none))))) := (F3o _ (by omega) (by omega)).trans F22
  have F33 : F3 (a + 3) = .inl (E.2.2.2 6, 8, .inr (.inr (.inr (.inr (fun _ => none))))) := (F3o _ (by omega) (by omega)).trans F23
  refine tl_iconst (v := 0) dX5_init_72 ic_0 (tl_istore_n (q := 1) dX5_init_73 (Nat.le_of_ble_eq_true rfl) ?_)
  have L2 := fun fin => tg_loop (E := E) (M := mX5_init) (N := mX7_init) (X := tl_X0) (Z := tl_Z E mX5_init (tl_GQ E (tl_ov E F a (a + 29)) (a + 29))) (F := F3) (a := a) (ra := a + 2) (eb := a + 15) (w := 1) (t := 5) (cnt := 6) (p0 := 74) (p2 := 77) (tgt := 99) (f := 1) (k0 := 14) (n0 := 66) tl_ck7 tl_ck5 rfl ha (by omega) ⟨by omega, by omega⟩ (by omega) F3a rfl (by decide) hTm (by decide) (by decide) rfl ct_X7 (fun j hj => by rcases (show j = 0 ∨ j = 1 ∨ j = 2 ∨ j = 3 by omega) with rfl | rfl | rfl | rfl <;> rfl) dX5_init_74 (fun kk => tl_bipush (v := nI 6) dX5_init_75 bp_6 kk) dX5_init_77 (by decide) dX5_init_80 dX5_init_81 fl_X5_19 dX5_init_84 dX5_init_85 kk_X5_17 ia_X7 in_X7 dX5_init_88 dX5_init_89 (Or.inr ci_X5_X7) dX5_init_92 dX5_init_93 dX5_init_96 (by decide) (Nat.le_of_ble_eq_true rfl) (Nat.le_of_ble_eq_true rfl) fin 6 0 rfl
  rw [tl_rw0 F32, Nat.zero_mul, Nat.zero_mul, Nat.mul_zero] at L2
  refine L2 ?_
  clear L2
  generalize hF4 : tl_rw E F3 (a + 2) 5 6 (a + 15) 1 6 = F4
  have F42 : F4 (a + 2) = .inl (E.2.2.2 5, 6, .inr (.inr (.inr (.inr (fun j => if j < 6 then some (a + 15 + 1 * j) else none))))) := by rw [← hF4, tl_rwr]
  have F4i : ∀ q, a + 15 ≤ q ∧ q < a + 21 → F4 q = tl_g0 E q := fun q hq => by rw [← hF4, tl_rwi (by omega) (by omega)]
  have F4o : ∀ q, q ≠ a + 2 → ¬ (a + 15 ≤ q ∧ q < a + 21) → F4 q = F3 q := fun q h1 h2 => by rw [← hF4, tl_rwo h1 (by omega)]
  clear hF4
  have F4a : F4 a = .inr (5, [.ref (a + 1), .ref (a + 2), .ref (a + 3), .ref (a + 4), .int 0, .int 0, .int 0, .int 0, .int 0, .int 0, .int 0, .int 0, .int 0, .int 0, .int 4, .int 0]) := (F4o _ (by omega) (by omega)).trans F3a
  have F43 : F4 (a + 3) = .inl (E.2.2.2 6, 8, .inr (.inr (.inr (.inr (fun _ => none))))) := (F4o _ (by omega) (by omega)).trans F33
  refine tl_iconst (v := 0) dX5_init_99 ic_0 (tl_istore_n (q := 1) dX5_init_100 (Nat.le_of_ble_eq_true rfl) ?_)
  have L3 := fun fin => tg_loop (E := E) (M := mX5_init) (N := mX4_init) (X := tl_X0) (Z := tl_Z E mX5_init (tl_GQ E (tl_ov E F a (a + 29)) (a + 29))) (F := F4) (a := a) (ra := a + 3) (eb := a + 21) (w := 1) (t := 6) (cnt := 8) (p0 := 101) (p2 := 104) (tgt := 126) (f := 2) (k0 := 20) (n0 := 90) tl_ck4 tl_ck5 rfl ha (by omega) ⟨by omega, by omega⟩ (by omega) F4a rfl (by decide) hTl (by decide) (by decide) rfl ct_X4 (fun j hj => by rcases (show j = 0 ∨ j = 1 ∨ j = 2 ∨ j = 3 by omega) with rfl | rfl | rfl | rfl <;> rfl) dX5_init_101 (fun kk => tl_bipush (v := nI 8) dX5_init_102 bp_8 kk) dX5_init_104 (by decide) dX5_init_107 dX5_init_108 fl_X5_25 dX5_init_111 dX5_init_112 kk_X5_23 ia_X4 in_X4 dX5_init_115 dX5_init_116 (Or.inr ci_X5_X4) dX5_init_119 dX5_init_120 dX5_init_123 (by decide) (Nat.le_of_ble_eq_true rfl) (Nat.le_of_ble_eq_true rfl) fin 8 0 rfl
  rw [tl_rw0 F43, Nat.zero_mul, Nat.zero_mul, Nat.mul_zero] at L3
  refine L3 ?_
  clear L3
  refine tg_retE dX5_init_126 rfl (Nat.le_of_ble_eq_true rfl) (Nat.le_of_ble_eq_true rfl) (fun q h1 h2 => ?_)
  by_cases c3 : q = a + 3
  · rw [c3, tl_rwr, tl_ovi (by omega), tl_g0_20 hT3]
    exact tl_eqv_row (fun j hj => by rw [if_pos hj]; congr 1; omega)
  · by_cases d3 : a + 21 ≤ q ∧ q < a + 29
    · rw [tl_rwi c3 (by omega), tl_ovi (by omega)]; exact tl_eqv_rf rfl
    · rw [tl_rwo c3 (by omega)]
      by_cases c2 : q = a + 2
      · rw [c2, F42, tl_ovi (by omega), tl_g0_19 hT2]
        exact tl_eqv_row (fun j hj => by rw [if_pos hj]; congr 1; omega)
      · by_cases d2 : a + 15 ≤ q ∧ q < a + 21
        · rw [F4i q d2, tl_ovi (by omega)]; exact tl_eqv_rf rfl
        · rw [F4o q c2 d2]
          by_cases c1 : q = a + 1
          · rw [c1, F31, tl_ovi (by omega), tl_g0_18 hT1]
            exact tl_eqv_row (fun j hj => by rw [if_pos hj]; congr 1; omega)
          · by_cases d1 : a + 12 ≤ q ∧ q < a + 15
            · rw [F3i q d1, tl_ovi (by omega)]; exact tl_eqv_rf rfl
            · rw [F3o q c1 d1]
              by_cases c0 : q = a
              · rw [c0, F2a, tl_ovi (by omega), tl_g0_5 hT]; exact tl_eqv_rf rfl
              · by_cases d0 : a + 4 ≤ q ∧ q < a + 12
                · rw [F2l q d0, tl_ovi (by omega)]; exact tl_eqv_rf rfl
                · rw [F2o q c0 d0, F1o q (by omega), tl_ovo (by omega)]; exact tl_eqv_rf rfl
theorem ct_X6 : tl_Ct E mX6_init 6 2 [.null, .int 0, .int 0] := by
  intro F a ha hT hF
  have hT1 : tl_T E.2.1 (a + 1) = some 11 := tt_6_0 hT
  refine tl_start [some (.ref a)] rfl rfl rfl (Nat.le_of_ble_eq_true rfl) ?_
  refine tl_aload_n (q := 0) dX6_init_0 rfl (tg_obj dX6_init_1 ml_X6_3 (Nat.le_of_ble_eq_true rfl) (Nat.le_of_ble_eq_true rfl) ?_)
  refine tl_aload_n (q := 0) dX6_init_4 rfl (tl_bipush (v := 120) dX6_init_5 bp_120 ?_)
  refine tg_newa (t := 1) (NN := 120) (ty := .char) (a0 := (120, .inl (fun _ => 0))) dX6_init_7 ac_char rfl rfl (fun _ _ h => h) (fun _ => rfl) (by decide) (by decide) (by decide) (Nat.le_of_ble_eq_true rfl) (Nat.le_of_ble_eq_true rfl) ?_
  refine tg_putF (f := 0) tl_ck6 dX6_init_9 fl_X6_9 (by decide) rfl rfl rfl rfl rfl ((tl_fun (by omega)).trans hF) (Nat.le_of_ble_eq_true rfl) ⟨ha, by omega⟩ ?_
  refine tg_retE dX6_init_12 rfl (Nat.le_of_ble_eq_true rfl) (Nat.le_of_ble_eq_true rfl) (fun q h1 h2 => tl_eqv_rf ?_)
  by_cases c0 : q = a
  · rw [c0, tl_fus, tl_ovi (by omega), tl_g0_6 hT]; rfl
  · rw [tl_fun c0]
    by_cases c1 : q = a + 1
    · rw [c1, tl_fus, tl_ovi (by omega), tl_g0_11 hT1]
    · rw [tl_fun c1, tl_ovo (by omega)]
theorem ct_X2 : tl_Ct E mX2_init 2 408 [.null, .int 0, .int 0] := by
  intro F a ha hT hF
  have hT1 : tl_T E.2.1 (a + 1) = some 22 := tt_2_0 hT
  have hTs : ∀ j, j < 14 → tl_T E.2.1 (a + 2 + 29 * j) = some 5 := fun j hj => by
    have := ta_22 hT1 hj
    rw [show a + 1 + (1 + 29 * j) = a + 2 + 29 * j by omega] at this
    exact this
  refine tl_start [some (.ref a), none] rfl rfl rfl (Nat.le_of_ble_eq_true rfl) ?_
  refine tl_aload_n (q := 0) dX2_init_0 rfl (tg_obj dX2_init_1 ml_X2_3 (Nat.le_of_ble_eq_true rfl) (Nat.le_of_ble_eq_true rfl) ?_)
  refine tl_aload_n (q := 0) dX2_init_4 rfl (tl_bipush (v := 14) dX2_init_5 bp_14 ?_)
  refine tg_newq (t := 8) (NN := 14) dX2_init_7 kk_X2_9 (by decide) rfl (by decide) (by decide) (by decide) (Nat.le_of_ble_eq_true rfl) (Nat.le_of_ble_eq_true rfl) ?_
  refine tg_putF (f := 0) tl_ck2 dX2_init_10 fl_X2_11 (by decide) rfl rfl rfl rfl rfl ((tl_fun (by omega)).trans hF) (Nat.le_of_ble_eq_true rfl) ⟨ha, by omega⟩ ?_
  generalize hF1 : tl_fu (tl_fu F (a + 1) _) a _ = F1
  have F1a : F1 a = .inr (2, [.ref (a + 1), .int 0, .int 0]) := by rw [← hF1, tl_fus]; rfl
  have F11 : F1 (a + 1) = .inl (E.2.2.2 8, 14, .inr (.inr (.inr (.inr (fun _ => none))))) := by rw [← hF1, tl_fun (by omega), tl_fus]
  have F1o : ∀ q, q ≠ a → q ≠ a + 1 → F1 q = F q := fun q h1 h2 => by rw [← hF1, tl_fun h1, tl_fun h2]
  clear hF1
  refine tl_iconst (v := 0) dX2_init_13 ic_0 (tl_istore_n (q := 1) dX2_init_14 (Nat.le_of_ble_eq_true rfl) ?_)
  have L := fun fin => tg_loop (E := E) (M := mX2_init) (N := mX5_init) (X := tl_X0) (Z := tl_Z E mX2_init (tl_GQ E (tl_ov E F a (a + 408)) (a + 408))) (F := F1) (a := a) (ra := a + 1) (eb := a + 2) (w := 29) (t := 8) (cnt := 14) (p0 := 15) (p2 := 18) (tgt := 40) (f := 0) (k0 := 1) (n0 := 14) tl_ck5 tl_ck2 rfl ha (by omega) ⟨by omega, by omega⟩ (by omega) F1a rfl (by decide) hTs (by decide) (by decide) rfl ct_X5 (fun j hj => by rcases (show j = 0 ∨ j = 1 ∨ j = 2 ∨ j = 3 ∨ j = 4 ∨ j = 5 ∨ j = 6 ∨ j = 7 ∨ j = 8 ∨ j = 9 ∨ j = 10 ∨ j = 11 ∨ j = 12 ∨ j = 13 ∨ j = 14 ∨ j = 15 by omega) with rfl | rfl | rfl | rfl | rfl | rfl | rfl | rfl | rfl | rfl | rfl | rfl | rfl | rfl | rfl | rfl <;> rfl) dX2_init_15 (fun kk => tl_bipush (v := nI 14) dX2_init_16 bp_14 kk) dX2_init_18 (by decide) dX2_init_21 dX2_init_22 fl_X2_11 dX2_init_25 dX2_init_26 kk_X2_9 ia_X5 in_X5 dX2_init_29 dX2_init_30 (Or.inl ci_X2_X5) dX2_init_33 dX2_init_34 dX2_init_37 (by decide) (Nat.le_of_ble_eq_true rfl) (Nat.le_of_ble_eq_true rfl) fin 14 0 rfl
  rw [tl_rw0 F11, Nat.zero_mul, Nat.zero_mul, Nat.mul_zero] at L
  refine L ?_
  clear L
  refine tg_retE dX2_init_40 rfl (Nat.le_of_ble_eq_true rfl) (Nat.le_of_ble_eq_true rfl) (fun q h1 h2 => ?_)
  by_cases c1 : q = a + 1
  · rw [c1, tl_rwr, tl_ovi (by omega), tl_g0_22 hT1]
    exact tl_eqv_row (fun j hj => by rw [if_pos hj])
  · by_cases d1 : a + 2 ≤ q ∧ q < a + 408
    · rw [tl_rwi c1 (by omega), tl_ovi (by omega)]; exact tl_eqv_rf rfl
    · rw [tl_rwo c1 (by omega)]
      by_cases c0 : q = a
      · rw [c0, F1a, tl_ovi (by omega), tl_g0_2 hT]; exact tl_eqv_rf rfl
      · rw [F1o q c0 c1, tl_ovo (by omega)]; exact tl_eqv_rf rfl
end TLM