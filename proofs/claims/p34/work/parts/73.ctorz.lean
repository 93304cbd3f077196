/-! The constructors of the object and of the model. -/
section TLN
variable {E : tl_E}
theorem ct_X9 : tl_Ct E mX9_init 9 559 [.null, .null, .null, .null, .null, .null, .null, .null] := by
  intro F a ha hT hF
  have hT1 : tl_T E.2.1 (a + 1) = some 6 := tt_9_0 hT
  have hT3 : tl_T E.2.1 (a + 3) = some 0 := tt_9_1 hT
  have hT4 : tl_T E.2.1 (a + 4) = some 5 := tt_9_2 hT
  have hT33 : tl_T E.2.1 (a + 33) = some 5 := tt_9_3 hT
  have hT62 : tl_T E.2.1 (a + 62) = some 5 := tt_9_4 hT
  have hT91 : tl_T E.2.1 (a + 91) = some 2 := tt_9_5 hT
  have hT499 : tl_T E.2.1 (a + 499) = some 23 := tt_9_6 hT
  have hT500 : tl_T E.2.1 (a + 500) = some 16 := tt_9_7 hT
  have hTs : ∀ j, j < 2 → tl_T E.2.1 (a + 501 + 29 * j) = some 5 := fun j hj => by
    have := ta_23 hT499 hj
    rw [show a + 499 + (2 + 29 * j) = a + 501 + 29 * j by omega] at this
    exact this
  refine tl_start [some (.ref a), none] rfl rfl rfl (Nat.le_of_ble_eq_true rfl) ?_
  refine tl_aload_n (q := 0) dX9_init_0 rfl (tg_obj dX9_init_1 ml_X9_3 (Nat.le_of_ble_eq_true rfl) (Nat.le_of_ble_eq_true rfl) ?_)
  have F0a := hF
  have F0o : ∀ q, q ≠ a → ¬ (a + 1 ≤ q ∧ q < a + 1) → F q = F q := fun _ _ _ => rfl
  have F0i : ∀ q, a + 1 ≤ q ∧ q < a + 1 → F q = tl_g0 E q := fun q h => by omega
  refine tl_aload_n (q := 0) dX9_init_4 rfl ?_
  refine tg_new (fs := [.null, .int 0, .int 0]) tl_ck6 dX9_init_5 kk_X9_9 ia_X6 in_X6 (fun j hj => by rcases (show j = 0 ∨ j = 1 ∨ j = 2 by omega) with rfl | rfl | rfl <;> rfl) (Nat.le_of_ble_eq_true rfl) (Nat.le_of_ble_eq_true rfl) ?_
  refine tl_dup dX9_init_8 rfl ?_
  refine tg_call (ct_X6 _ (a + 1) (by omega) hT1 (tl_fus _ _ _)) dX9_init_9 (Or.inr ci_X9_X6) ⟨(Nat.le_of_ble_eq_true rfl), (Nat.le_of_ble_eq_true rfl)⟩ (Nat.le_of_ble_eq_true rfl) ?_
  refine tg_putF (f := 0) tl_ck9 dX9_init_12 fl_X9_12 (by decide) rfl rfl rfl rfl rfl ((tl_ovo (by omega)).trans ((tl_fun (by omega)).trans F0a)) (Nat.le_of_ble_eq_true rfl) ⟨ha, by omega⟩ ?_
  generalize hF1 : tl_fu (tl_ov E (tl_fu F _ _) _ _) a _ = F1
  have F1a : F1 a = .inr (9, [.ref (a + 1), .null, .null, .null, .null, .null, .null, .null]) := by rw [← hF1, tl_fus]; rfl
  have F1i : ∀ q, a + 1 ≤ q ∧ q < a + 3 → F1 q = tl_g0 E q := fun q h => by
    rw [← hF1, tl_fun (by omega)]
    by_cases c : a + 1 ≤ q
    · rw [tl_ovi (by omega)]
    · rw [tl_ovo (by omega), tl_fun (by omega)]; exact F0i q (by omega)
  have F1o : ∀ q, q ≠ a → ¬ (a + 1 ≤ q ∧ q < a + 3) → F1 q = F q := fun q h1 h2 => by
    rw [← hF1, tl_fun h1, tl_ovo (by omega), tl_fun (by omega)]; try exact F0o q h1 (by omega)
  clear hF1
  refine tl_aload_n (q := 0) dX9_init_15 rfl ?_
  refine tg_new (fs := (List.replicate 5 (.int 0))) tl_ck0 dX9_init_16 kk_X9_16 ia_X0 in_X0 (fun j hj => by rcases (show j = 0 ∨ j = 1 ∨ j = 2 ∨ j = 3 ∨ j = 4 by omega) with rfl | rfl | rfl | rfl | rfl <;> rfl) (Nat.le_of_ble_eq_true rfl) (Nat.le_of_ble_eq_true rfl) ?_
  refine tl_dup dX9_init_19 rfl ?_
  refine tg_call (ct_X0 _ (a + 3) (by omega) hT3 (tl_fus _ _ _)) dX9_init_20 (Or.inr ci_X9_X0) ⟨(Nat.le_of_ble_eq_true rfl), (Nat.le_of_ble_eq_true rfl)⟩ (Nat.le_of_ble_eq_true rfl) ?_
  refine tg_putF (f := 1) tl_ck9 dX9_init_23 fl_X9_19 (by decide) rfl rfl rfl rfl rfl ((tl_ovo (by omega)).trans ((tl_fun (by omega)).trans F1a)) (Nat.le_of_ble_eq_true rfl) ⟨ha, by omega⟩ ?_
  generalize hF2 : tl_fu (tl_ov E (tl_fu F1 _ _) _ _) a _ = F2
  have F2a : F2 a = .inr (9, [.ref (a + 1), .ref (a + 3), .null, .null, .null, .null, .null, .null]) := by rw [← hF2, tl_fus]; rfl
  have F2i : ∀ q, a + 1 ≤ q ∧ q < a + 4 → F2 q = tl_g0 E q := fun q h => by
    rw [← hF2, tl_fun (by omega)]
    by_cases c : a + 3 ≤ q
    · rw [tl_ovi (by omega)]
    · rw [tl_ovo (by omega), tl_fun (by omega)]; exact F1i q (by omega)
  have F2o : ∀ q, q ≠ a → ¬ (a + 1 ≤ q ∧ q < a + 4) → F2 q = F q := fun q h1 h2 => by
    rw [← hF2, tl_fun h1, tl_ovo (by omega), tl_fun (by omega)]; try exact F1o q h1 (by omega)
  clear hF2
  refine tl_aload_n (q := 0) dX9_init_26 rfl ?_
  refine tg_new (fs := [.null, .null, .null, .null, .int 0, .int 0, .int 0, .int 0, .int 0, .int 0, .int 0, .int 0, .int 0, .int 0, .int 0, .int 0]) tl_ck5 dX9_init_27 kk_X9_23 ia_X5 in_X5 (fun j hj => by rcases (show j = 0 ∨ j = 1 ∨ j = 2 ∨ j = 3 ∨ j = 4 ∨ j = 5 ∨ j = 6 ∨ j = 7 ∨ j = 8 ∨ j = 9 ∨ j = 10 ∨ j = 11 ∨ j = 12 ∨ j = 13 ∨ j = 14 ∨ j = 15 by omega) with rfl | rfl | rfl | rfl | rfl | rfl | rfl | rfl | rfl | rfl | rfl | rfl | rfl | rfl | rfl | rfl <;> rfl) (Nat.le_of_ble_eq_true rfl) (Nat.le_of_ble_eq_true rfl) ?_
  refine tl_dup dX9_init_30 rfl ?_
  refine tg_call (ct_X5 _ (a + 4) (by omega) hT4 (tl_fus _ _ _)) dX9_init_31 (Or.inl ci_X9_X5) ⟨(Nat.le_of_ble_eq_true rfl), (Nat.le_of_ble_eq_true rfl)⟩ (Nat.le_of_ble_eq_true rfl) ?_
  refine tg_putF (f := 2) tl_ck9 dX9_init_34 fl_X9_26 (by decide) rfl rfl rfl rfl rfl ((tl_ovo (by omega)).trans ((tl_fun (by omega)).trans F2a)) (Nat.le_of_ble_eq_true rfl) ⟨ha, by omega⟩ ?_
  generalize hF3 : tl_fu (tl_ov E (tl_fu F2 _ _) _ _) a _ = F3
  have F3a : F3 a = .inr (9, [.ref (a + 1), .ref (a + 3), .ref (a + 4), .null, .null, .null, .null, .null]) := by rw [← hF3, tl_fus]; rfl
  have F3i : ∀ q, a + 1 ≤ q ∧ q < a + 33 → F3 q = tl_g0 E q := fun q h => by
    rw [← hF3, tl_fun (by omega)]
    by_cases c : a + 4 ≤ q
    · rw [tl_ovi (by omega)]
    · rw [tl_ovo (by omega), tl_fun (by omega)]; exact F2i q (by omega)
  have F3o : ∀ q, q ≠ a → ¬ (a + 1 ≤ q ∧ q < a + 33) → F3 q = F q := fun q h1 h2 => by
    rw [← hF3, tl_fun h1, tl_ovo (by omega), tl_fun (by omega)]; try exact F2o q h1 (by omega)
  clear hF3
  refine tl_aload_n (q := 0) dX9_init_37 rfl ?_
  refine tg_new (fs := [.null, .null, .null, .null, .int 0, .int 0, .int 0, .int 0, .int 0, .int 0, .int 0, .int 0, .int 0, .int 0, .int 0, .int 0]) tl_ck5 dX9_init_38 kk_X9_23 ia_X5 in_X5 (fun j hj => by rcases (show j = 0 ∨ j = 1 ∨ j = 2 ∨ j = 3 ∨ j = 4 ∨ j = 5 ∨ j = 6 ∨ j = 7 ∨ j = 8 ∨ j = 9 ∨ j = 10 ∨ j = 11 ∨ j = 12 ∨ j = 13 ∨ j = 14 ∨ j = 15 by omega) with rfl | rfl | rfl | rfl | rfl | rfl | rfl | rfl | rfl | rfl | rfl | rfl | rfl | rfl | rfl | rfl <;> rfl) (Nat.le_of_ble_eq_true rfl) (Nat.le_of_ble_eq_true rfl) ?_
  refine tl_dup dX9_init_41 rfl ?_
  refine tg_call (ct_X5 _ (a + 33) (by omega) hT33 (tl_fus _ _ _)) dX9_init_42 (Or.inl ci_X9_X5) ⟨(Nat.le_of_ble_eq_true rfl), (Nat.le_of_ble_eq_true rfl)⟩ (Nat.le_of_ble_eq_true rfl) ?_
  refine tg_putF (f := 3) tl_ck9 dX9_init_45 fl_X9_30 (by decide) rfl rfl rfl rfl rfl ((tl_ovo (by omega)).trans ((tl_fun (by omega)).trans F3a)) (Nat.le_of_ble_eq_true rfl) ⟨ha, by omega⟩ ?_
  generalize hF4 : tl_fu (tl_ov E (tl_fu F3 _ _) _ _) a _ = F4
  have F4a : F4 a = .inr (9, [.ref (a + 1), .ref (a + 3), .ref (a + 4), .ref (a + 33), .null, .null, .null, .null]) := by rw [← hF4, tl_fus]; rfl
  have F4i : ∀ q, a + 1 ≤ q ∧ q < a + 62 → F4 q = tl_g0 E q := fun q h => by
    rw [← hF4, tl_fun (by omega)]
    by_cases c : a + 33 ≤ q
    · rw [tl_ovi (by omega)]
    · rw [tl_ovo (by omega), tl_fun (by omega)]; exact F3i q (by omega)
  have F4o : ∀ q, q ≠ a → ¬ (a + 1 ≤ q ∧ q < a + 62) → F4 q = F q := fun q h1 h2 => by
    rw [← hF4, tl_fun h1, tl_ovo (by omega), tl_fun (by omega)]; try exact F3o q h1 (by omega)
  clear hF4
  refine tl_aload_n (q := 0) dX9_init_48 rfl ?_
  refine tg_new (fs := [.null, .null, .null, .null, .int 0, .int 0, .int 0, .int 0, .int 0, .int 0, .int 0, .int 0, .int 0, .int 0, .int 0, .int 0]) tl_ck5 dX9_init_49 kk_X9_23 ia_X5 in_X5 (fun j hj => by rcases (show j = 0 ∨ j = 1 ∨ j = 2 ∨ j = 3 ∨ j = 4 ∨ j = 5 ∨ j = 6 ∨ j = 7 ∨ j = 8 ∨ j = 9 ∨ j = 10 ∨ j = 11 ∨ j = 12 ∨ j = 13 ∨ j = 14 ∨ j = 15 by omega) with rfl | rfl | rfl | rfl | rfl | rfl | rfl | rfl | rfl | rfl | rfl | rfl | rfl | rfl | rfl | rfl <;> rfl) (Nat.le_of_ble_eq_true rfl) (Nat.le_of_ble_eq_true rfl) ?_
  refine tl_dup dX9_init_52 rfl ?_
  refine tg_call (ct_X5 _ (a + 62) (by omega) hT62 (tl_fus _ _ _)) dX9_init_53 (Or.inl ci_X9_X5) ⟨(Nat.le_of_ble_eq_true rfl), (Nat.le_of_ble_eq_true rfl)⟩ (Nat.le_of_ble_eq_true rfl) ?_
  refine tg_putF (f := 4) tl_ck9 dX9_init_56 fl_X9_33 (by decide) rfl rfl rfl rfl rfl ((tl_ovo (by omega)).trans ((tl_fun (by omega)).trans F4a)) (Nat.le_of_ble_eq_true rfl) ⟨ha, by omega⟩ ?_
  generalize hF5 : tl_fu (tl_ov E (tl_fu F4 _ _) _ _) a _ = F5
  have F5a : F5 a = .inr (9, [.ref (a + 1), .ref (a + 3), .ref (a + 4), .ref (a + 33), .ref (a + 62), .null, .null, .null]) := by rw [← hF5, tl_fus]; rfl
  have F5i : ∀ q, a + 1 ≤ q ∧ q < a + 91 → F5 q = tl_g0 E q := fun q h => by
    rw [← hF5, tl_fun (by omega)]
    by_cases c : a + 62 ≤ q
    · rw [tl_ovi (by omega)]
    · rw [tl_ovo (by omega), tl_fun (by omega)]; exact F4i q (by omega)
  have F5o : ∀ q, q ≠ a → ¬ (a + 1 ≤ q ∧ q < a + 91) → F5 q = F q := fun q h1 h2 => by
    rw [← hF5, tl_fun h1, tl_ovo (by omega), tl_fun (by omega)]; try exact F4o q h1 (by omega)
  clear hF5
  refine tl_aload_n (q := 0) dX9_init_59 rfl ?_
  refine tg_new (fs := [.null, .int 0, .int 0]) tl_ck2 dX9_init_60 kk_X9_36 ia_X2 in_X2 (fun j hj => by rcases (show j = 0 ∨ j = 1 ∨ j = 2 by omega) with rfl | rfl | rfl <;> rfl) (Nat.le_of_ble_eq_true rfl) (Nat.le_of_ble_eq_true rfl) ?_
  refine tl_dup dX9_init_63 rfl ?_
  refine tg_call (ct_X2 _ (a + 91) (by omega) hT91 (tl_fus _ _ _)) dX9_init_64 (Or.inl ci_X9_X2) ⟨(Nat.le_of_ble_eq_true rfl), (Nat.le_of_ble_eq_true rfl)⟩ (Nat.le_of_ble_eq_true rfl) ?_
  refine tg_putF (f := 5) tl_ck9 dX9_init_67 fl_X9_39 (by decide) rfl rfl rfl rfl rfl ((tl_ovo (by omega)).trans ((tl_fun (by omega)).trans F5a)) (Nat.le_of_ble_eq_true rfl) ⟨ha, by omega⟩ ?_
  generalize hF6 : tl_fu (tl_ov E (tl_fu F5 _ _) _ _) a _ = F6
  have F6a : F6 a = .inr (9, [.ref (a + 1), .ref (a + 3), .ref (a + 4), .ref (a + 33), .ref (a + 62), .ref (a + 91), .null, .null]) := by rw [← hF6, tl_fus]; rfl
  have F6i : ∀ q, a + 1 ≤ q ∧ q < a + 499 → F6 q = tl_g0 E q := fun q h => by
    rw [← hF6, tl_fun (by omega)]
    by_cases c : a + 91 ≤ q
    · rw [tl_ovi (by omega)]
    · rw [tl_ovo (by omega), tl_fun (by omega)]; exact F5i q (by omega)
  have F6o : ∀ q, q ≠ a → ¬ (a + 1 ≤ q ∧ q < a + 499) → F6 q = F q := fun q h1 h2 => by
    rw [← hF6, tl_fun h1, tl_ovo (by omega), tl_fun (by omega)]; try exact F5o q h1 (by omega)
  clear hF6
  refine tl_aload_n (q := 0) dX9_init_70 rfl (tl_iconst (v := 2) dX9_init_71 ic_2 ?_)
  refine tg_newq (t := 8) (NN := 2) dX9_init_72 kk_X9_23 (by decide) rfl (by decide) (by decide) (by decide) (Nat.le_of_ble_eq_true rfl) (Nat.le_of_ble_eq_true rfl) ?_
  refine tg_putF (f := 6) tl_ck9 dX9_init_75 fl_X9_43 (by decide) rfl rfl rfl rfl rfl ((tl_fun (by omega)).trans F6a) (Nat.le_of_ble_eq_true rfl) ⟨ha, by omega⟩ ?_
  refine tl_aload_n (q := 0) dX9_init_78 rfl (tl_iconst (v := 2) dX9_init_79 ic_2 ?_)
  refine tg_newa (t := 2) (NN := 2) (ty := .boolean) (a0 := (2, .inl (fun _ => 0))) dX9_init_80 ac_boolean rfl rfl (fun _ _ h => h) (fun _ => rfl) (by decide) (by decide) (by decide) (Nat.le_of_ble_eq_true rfl) (Nat.le_of_ble_eq_true rfl) ?_
  refine tg_putF (f := 7) tl_ck9 dX9_init_82 fl_X9_47 (by decide) rfl rfl rfl rfl rfl ((tl_fun (by omega)).trans (tl_fus _ _ _)) (Nat.le_of_ble_eq_true rfl) ⟨ha, by omega⟩ ?_
  generalize hF7 : tl_fu (tl_fu (tl_fu (tl_fu F6 _ _) a _) _ _) a _ = F7
  have F7a : F7 a = .inr (9, [.ref (a + 1), .ref (a + 3), .ref (a + 4), .ref (a + 33), .ref (a + 62), .ref (a + 91), .ref (a + 499), .ref (a + 500)]) := by rw [← hF7, tl_fus]; rfl
  have F7r : F7 (a + 499) = .inl (E.2.2.2 8, 2, .inr (.inr (.inr (.inr (fun _ => none))))) := by rw [← hF7, tl_fun (by omega), tl_fun (by omega), tl_fun (by omega), tl_fus]
  have F7b : F7 (a + 500) = .inl (E.2.2.2 2, 2, .inl (fun _ => 0)) := by rw [← hF7, tl_fun (by omega), tl_fus]
  have F7i : ∀ q, a + 1 ≤ q ∧ q < a + 499 → F7 q = tl_g0 E q := fun q h => by
    rw [← hF7, tl_fun (by omega), tl_fun (by omega), tl_fun (by omega), tl_fun (by omega)]; exact F6i q (by omega)
  have F7o : ∀ q, q ≠ a → ¬ (a + 1 ≤ q ∧ q < a + 501) → F7 q = F q := fun q h1 h2 => by
    rw [← hF7, tl_fun h1, tl_fun (by omega), tl_fun h1, tl_fun (by omega)]; exact F6o q h1 (by omega)
  clear hF7
  refine tl_iconst (v := 0) dX9_init_85 ic_0 (tl_istore_n (q := 1) dX9_init_86 (Nat.le_of_ble_eq_true rfl) ?_)
  have L := fun fin => tg_loop (E := E) (M := mX9_init) (N := mX5_init) (X := tl_X0) (Z := tl_Z E mX9_init (tl_GQ E (tl_ov E F a (a + 559)) (a + 559))) (F := F7) (a := a) (ra := a + 499) (eb := a + 501) (w := 29) (t := 8) (cnt := 2) (p0 := 87) (p2 := 89) (tgt := 111) (f := 6) (k0 := 500) (n0 := 2495) tl_ck5 tl_ck9 rfl ha (by omega) ⟨by omega, by omega⟩ (by omega) F7a rfl (by decide) hTs (by decide) (by decide) rfl ct_X5 (fun j hj => by rcases (show j = 0 ∨ j = 1 ∨ j = 2 ∨ j = 3 ∨ j = 4 ∨ j = 5 ∨ j = 6 ∨ j = 7 ∨ j = 8 ∨ j = 9 ∨ j = 10 ∨ j = 11 ∨ j = 12 ∨ j = 13 ∨ j = 14 ∨ j = 15 by omega) with rfl | rfl | rfl | rfl | rfl | rfl | rfl | rfl | rfl | rfl | rfl | rfl | rfl | rfl | rfl | rfl <;> rfl) dX9_init_87 (fun kk => tl_iconst (v := nI 2) dX9_init_88 ic_2 kk) dX9_init_89 (by decide) dX9_init_92 dX9_init_93 fl_X9_43 dX9_init_96 dX9_init_97 kk_X9_23 ia_X5 in_X5 dX9_init_100 dX9_init_101 (Or.inl ci_X9_X5) dX9_init_104 dX9_init_105 dX9_init_108 (by decide) (Nat.le_of_ble_eq_true rfl) (Nat.le_of_ble_eq_true rfl) fin 2 0 rfl
  rw [tl_rw0 F7r, Nat.zero_mul, Nat.zero_mul, Nat.mul_zero] at L
  refine L ?_
  clear L
  refine tg_retE dX9_init_111 rfl (Nat.le_of_ble_eq_true rfl) (Nat.le_of_ble_eq_true rfl) (fun q h1 h2 => ?_)
  by_cases c1 : q = a + 499
  · rw [c1, tl_rwr, tl_ovi (by omega), tl_g0_23 hT499]
    exact tl_eqv_row (fun j hj => by rw [if_pos hj])
  · by_cases d1 : a + 501 ≤ q ∧ q < a + 559
    · rw [tl_rwi c1 (by omega), tl_ovi (by omega)]; exact tl_eqv_rf rfl
    · rw [tl_rwo c1 (by omega)]
      by_cases c0 : q = a
      · rw [c0, F7a, tl_ovi (by omega), tl_g0_9 hT]; exact tl_eqv_rf rfl
      · by_cases c2 : q = a + 500
        · rw [c2, F7b, tl_ovi (by omega), tl_g0_16 hT500]; exact tl_eqv_rf rfl
        · by_cases d0 : a + 1 ≤ q ∧ q < a + 499
          · rw [F7i q d0, tl_ovi (by omega)]; exact tl_eqv_rf rfl
          · rw [F7o q c0 (by omega), tl_ovo (by omega)]; exact tl_eqv_rf rfl
end TLN
