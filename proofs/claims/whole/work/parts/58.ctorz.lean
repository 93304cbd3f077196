/-! The constructors of the object and of the model. -/
section TLN
variable {E : tl_E}
theorem ct_X9 : tl_Ct E mX9_init 9 559 [.null, .null, .null, .null, .null, .null, .null, .null] := by
  intro F a ha hT hF
  have hT1 : tl_T E.2.1 (a + 1) = some 6 := tt_9_0 hT
  have hT3 : tl_T E.2.1 (a + 3) = some 0 := tt_9_1 hT
  have hT4 : tl_T E.2.1 (a + 4) = some 5 := tt_9_2 hT
  have hT33 : tl_T E.2.1 (a + 33) = some 5 := tt_9_3 hT
  have hT62 : tl_T E.2.1 (a + 62) = some 5 := tt_9_4 hT
  have hT91 : tl_T E.2.1 (a + 91) = some 2 := tt_9_5 hT
  have hT499 : tl_T E.2.1 (a + 499) = some 23 := tt_9_6 hT
  have hT500 : tl_T E.2.1 (a + 500) = some 16 := tt_9_7 hT
  have hTs : ∀ j, j < 2 → tl_T E.2.1 (a + 501 + 29 * j) = some 5 := fun j hj => by
    have := ta_23 hT499 hj
    rw [show a + 499 + (2 + 29 * j) = a + 501 + 29 * j by omega] at this
    exact this
  refine tl_start [some (.ref a), none] rfl rfl rfl (Nat.le_of_ble_eq_true rfl) ?_
  refine tl_aload_n (q := 0) dX9_init_0 rfl (tg_obj dX9_init_1 ml_X9_3 (Nat.le_of_ble_eq_true rfl) (Nat.le_of_ble_eq_true rfl) ?_)
  have F0a := hF
  have F0o : ∀ q, q ≠ a → ¬ (a + 1 ≤ q ∧ q < a + 1) → F q = F q := fun _ _ _ => rfl
  have F0i : ∀ q, a + 1 ≤ q ∧ q < a + 1 → F q = tl_g0 E q := fun q h => by omega
  refine tl_aload_n (q := 0) dX9_init_4 rfl ?_
  refine tg_new (fs := [.null, .int 0, .int 0]) tl_ck6 dX9_init_5 kk_X9_9 ia_X6 in_X6 (fun j hj => by rcases (show j = 0 ∨ j = 1 ∨ j = 2 by omega) with rfl | rfl | rfl <;> rfl) (Nat.le_of_ble_eq_true rfl) (Nat.le_of_ble_eq_true rfl) ?_
  refine tl_dup dX9_init_8 rfl ?_
  refine tg_call (ct_X6 _ (a + 1) (by omega) hT1 (tl_fus _ _ _)) dX9_init_9 (Or.inr ci_X9_X6) ⟨(Nat.le_of_ble_eq_true rfl), (Nat.le_of_ble_eq_true rfl)⟩ (Nat.le_of_ble_eq_true rfl) ?_
  refine tg_putF (f := 0) tl_ck9 dX9_init_12 fl_X9_12 (by decide) rfl rfl rfl rfl rfl ((tl_ovo (by omega)).trans ((tl_fun (by omega)).trans F0a)) (Nat.le_of_ble_eq_true rfl) ⟨ha, by omega⟩ ?_
  generalize hF1 : tl_fu (tl_ov E (tl_fu F _ _) _ _) a _ = F1
  have F1a : F1 a = .inr (9, [.ref (a + 1), .null, .null, .null, .null, .null, .null, .null]) := by rw [← hF1, tl_fus]; rfl
  have F1i : ∀ q, a + 1 ≤ q ∧ q < a + 3 → F1 q = tl_g0 E q := fun q h => by
    rw [← hF1, tl_fun (by omega)]
    by_cases c : a + 1 ≤ q
    · rw [tl_ovi (by omega)]
    · rw [tl_ovo (by omega), tl_fun (by omega)]; exact F0i q (by omega)
  have F1o : ∀ q, q ≠ a → ¬ (a + 1 ≤ q ∧ q < a + 3) → F1 q = F q := fun q h1 h2 => by
    rw [← hF1, tl_fun h1, tl_ovo (by omega), tl_fun (by omega)]; try exact F0o q h1 (by omega)
  clear hF1
  refine tl_aload_n (q := 0) dX9_init_15 rfl ?_
  refine tg_new (fs := (List.replicate 5 (.int 0))) tl_ck0 dX9_init_16 kk_X9_16 ia_X0 in_X0 (fun j hj => by rcases (show j = 0 ∨ j = 1 ∨ j = 2 ∨ j = 3 ∨ j = 4 by omega) with rfl | rfl | rfl | rfl | rfl <;> rfl) (Nat.le_of_ble_eq_true rfl) (Nat.le_of_ble_eq_true rfl) ?_
  refine tl_dup dX9_init_19 rfl ?_
  refine tg_call (ct_X0 _ (a + 3) (by omega) hT3 (tl_fus _ _ _)) dX9_init_20 (Or.inr ci_X9_X0) ⟨(Nat.le_of_ble_eq_true rfl), (Nat.le_of_ble_eq_true rfl)⟩ (Nat.le_of_ble_eq_true rfl) ?_
  refine tg_putF (f := 1) tl_ck9 dX9_init_23 fl_X9_19 (by decide) rfl rfl rfl rfl rfl ((tl_ovo (by omega)).trans ((tl_fun (by omega)).trans F1a)) (Nat.le_of_ble_eq_true rfl) ⟨ha, by omega⟩ ?_
  generalize hF2 : tl_fu (tl_ov E (tl_fu F1 _ _) _ _) a _ = F2
  have F2a : F2 a = .inr (9, [.ref (a + 1), .ref (a + 3), .null, .null, .null, .null, .null, .null]) := by rw [← hF2, tl_fus]; rfl
  have F2i : ∀ q, a + 1 ≤ q ∧ q < a + 4 → F2 q = tl_g0 E q := fun q h => by
    rw [← hF2, tl_fun (by omega)]
    by_cases c : a + 3 ≤ q
    · rw [tl_ovi (by omega)]
    · rw [tl_ovo (by omega), tl_fun (by omega)]; exact F1i q (by omega)
  have F2o : ∀ q, q ≠ a → ¬ (a + 1 ≤ q ∧ q < a + 4) → F2 q = F q := fun q h1 h2 => by
    rw [← hF2, tl_fun h1, tl_ovo (by omega), tl_fun (by omega)]; try exact F1o q h1 (by omega)
  clear hF2
  refine tl_aload_n (q := 0) dX9_init_26 rfl ?_
  refine tg_new (fs := [.null, .null, .null, .null, .int 0, .int 0, .int 0, .int 0, .int 0, .int 0, .int 0, .int 0, .int 0, .int 0, .int 0, .int 0]) tl_ck5 dX9_init_27 kk_X9_23 ia_X5 in_X5 (fun j hj => by rcases (show j = 0 ∨ j = 1 ∨ j = 2 ∨ j = 3 ∨ j = 4 ∨ j = 5 ∨ j = 6 ∨ j = 7 ∨ j = 8 ∨ j = 9 ∨ j = 10 ∨ j = 11 ∨ j = 12 ∨ j = 13 ∨ j = 14 ∨ j = 15 by omega) with rfl | rfl | rfl | rfl | rfl | rfl | rfl | rfl | rfl | rfl | rfl | rfl | rfl | rfl | rfl | rfl <;> rfl) (Nat.le_of_ble_eq_true rfl) (Nat.le_of_ble_eq_true rfl) ?_
  refine tl_dup dX9_init_30 rfl ?_
  refine tg_call (ct_X5 _ (a + 4) (by omega) hT4 (tl_fus _ _ _)) dX9_init_31 (Or.inl ci_X9_X5) ⟨(Nat.le_of_ble_eq_true rfl), (Nat.le_of_ble_eq_true rfl)⟩ (Nat.le_of_ble_eq_true rfl) ?_
  refine tg_putF (f := 2) tl_ck9 dX9_init_34 fl_X9_26 (by decide) rfl rfl rfl rfl rfl ((tl_ovo (by omega)).trans ((tl_fun (by omega)).trans F2a)) (Nat.le_of_ble_eq_true rfl) ⟨ha, by omega⟩ ?_
  generalize hF3 : tl_fu (tl_ov E (tl_fu F2 _ _) _ _) a _ = F3
  have F3a : F3 a = .inr (9, [.ref (a + 1), .ref (a + 3), .ref (a + 4), .null, .null, .null, .null, .null]) := by rw [← hF3, tl_fus]; rfl
  have F3i : ∀ q, a + 1 ≤ q ∧ q < a + 33 → F3 q = tl_g0 E q := fun q h => by
    rw [← hF3, tl_fun (by omega)]
    by_cases c : a + 4 ≤ q
    · rw [tl_ovi (by omega)]
    · rw [tl_ovo (by omega), tl_fun (by omega)]; exact F2i q (by omega)
  have F3o : ∀ q, q ≠ a → ¬ (a + 1 ≤ q ∧ q < a + 33) → F3 q = F q := fun q h1 h2 => by
    rw [← hF3, tl_fun h1, tl_ovo (by omega), tl_fun (by omega)]; try exact F2o q h1 (by omega)
  clear hF3
  refine tl_aload_n (q := 0) dX9_init_37 rfl ?_
  refine tg_new (fs := [.null, .null, .null, .null, .int 0, .int 0, .int 0, .int 0, .int 0, .int 0, .int 0, .int 0, .int 0, .int 0, .int 0, .int 0]) tl_ck5 dX9_init_38 kk_X9_23 ia_X5 in_X5 (fun j hj => by rcases (show j = 0 ∨ j = 1 ∨ j = 2 ∨ j = 3 ∨ j = 4 ∨ j = 5 ∨ j = 6 ∨ j = 7 ∨ j = 8 ∨ j = 9 ∨ j = 10 ∨ j = 11 ∨ j = 12 ∨ j = 13 ∨ j = 14 ∨ j = 15 by omega) with rfl | rfl | rfl | rfl | rfl | rfl | rfl | rfl | rfl | rfl | rfl | rfl | rfl | rfl | rfl | rfl <;> rfl) (Nat.le_of_ble_eq_true rfl) (Nat.le_of_ble_eq_true rfl) ?_
  refine tl_dup dX9_init_41 rfl ?_
  refine tg_call (ct_X5 _ (a + 33) (by omega) hT33 (tl_fus _ _ _)) dX9_init_42 (Or.inl ci_X9_X5) ⟨(Nat.le_of_ble_eq_true rfl), (Nat.le_of_ble_eq_true rfl)⟩ (Nat.le_of_ble_eq_true rfl) ?_
  refine tg_putF (f := 3) tl_ck9 dX9_init_45 fl_X9_30 (by decide) rfl rfl rfl rfl rfl ((tl_ovo (by omega)).trans ((tl_fun (by omega)).trans F3a)) (Nat.le_of_ble_eq_true rfl) ⟨ha, by omega⟩ ?_
  generalize hF4 : tl_fu (tl_ov E (tl_fu F3 _ _) _ _) a _ = F4
  have F4a : F4 a = .inr (9, [.ref (a + 1), .ref (a + 3), .ref (a + 4), .ref (a + 33), .null, .null, .null, .null]) := by rw [← hF4, tl_fus]; rfl
  have F4i : ∀ q, a + 1 ≤ q ∧ q < a + 62 → F4 q = tl_g0 E q := fun q h => by
    rw [← hF4, tl_fun (by omega)]
    by_cases c : a + 33 ≤ q
    · rw [tl_ovi (by omega)]
    · rw [tl_ovo (by omega), tl_fun (by omega)]; exact F3i q (by omega)
  have F4o : ∀ q, q ≠ a → ¬ (a + 1 ≤ q ∧ q < a + 62) → F4 q = F q := fun q h1 h2 => by
    rw [← hF4, tl_fun h1, tl_ovo (by omega), tl_fun (by omega)]; try exact F3o q h1 (by omega)
  clear hF4
  refine tl_aload_n (q := 0) dX9_init_48 rfl ?_
  refine tg_new (fs := [.null, .null, .null, .null, .int 0, .int 0, .int 0, .int 0, .int 0, .int 0, .int 0, .int 0, .int 0, .int 0, .int 0, .int 0]) tl_ck5 dX9_init_49 kk_X9_23 ia_X5 in_X5 (fun j hj => by rcases (show j = 0 ∨ j = 1 ∨ j = 2 ∨ j = 3 ∨ j = 4 ∨ j = 5 ∨ j = 6 ∨ j = 7 ∨ j = 8 ∨ j = 9 ∨ j = 10 ∨ j = 11 ∨ j = 12 ∨ j = 13 ∨ j = 14 ∨ j = 15 by omega) with rfl | rfl | rfl | rfl | rfl | rfl | rfl | rfl | rfl | rfl | rfl | rfl | rfl | rfl | rfl | rfl <;> rfl) (Nat.le_of_ble_eq_true rfl) (Nat.le_of_ble_eq_true rfl) ?_
  refine tl_dup dX9_init_52 rfl ?_
  refine tg_call (ct_X5 _ (a + 62) (by omega) hT62 (tl_fus _ _ _)) dX9_init_53 (Or.inl ci_X9_X5) ⟨(Nat.le_of_ble_eq_true rfl), (Nat.le_of_ble_eq_true rfl)⟩ (Nat.le_of_ble_eq_true rfl) ?_
  refine tg_putF (f := 4) tl_ck9 dX9_init_56 fl_X9_33 (by decide) rfl rfl rfl rfl rfl ((tl_ovo (by omega)).trans ((tl_fun (by omega)).trans F4a)) (Nat.le_of_ble_eq_true rfl) ⟨ha, by omega⟩ ?_
  generalize hF5 : tl_fu (tl_ov E (tl_fu F4 _ _) _ _) a _ = F5
  have F5a : F5 a = .inr (9, [.ref (a + 1), .ref (a + 3), .ref (a + 4), .ref (a + 33), .ref (a + 62), .null, .null, .null]) := by rw [← hF5, tl_fus]; rfl
  have F5i : ∀ q, a + 1 ≤ q ∧ q < a + 91 → F5 q = tl_g0 E q := fun q h => by
    rw [← hF5, tl_fun (by omega)]
    by_cases c : a + 62 ≤ q
    · rw [tl_ovi (by omega)]
    · rw [tl_ovo (by omega), tl_fun (by omega)]; exact F4i q (by omega)
  have F5o : ∀ q, q ≠ a → ¬ (a + 1 ≤ q ∧ q < a + 91) → F5 q = F q := fun q h1 h2 => by
    rw [← hF5, tl_fun h1, tl_ovo (by omega), tl_fun (by omega)]; try exact F4o q h1 (by omega)
  clear hF5
  refine tl_aload_n (q := 0) dX9_init_59 rfl ?_
  refine tg_new (fs := [.null, .int 0, .int 0]) tl_ck2 dX9_init_60 kk_X9_36 ia_X2 in_X2 (fun j hj => by rcases (show j = 0 ∨ j = 1 ∨ j = 2 by omega) with rfl | rfl | rfl <;> rfl) (Nat.le_of_ble_eq_true rfl) (Nat.le_of_ble_eq_true rfl) ?_
  refine tl_dup dX9_init_63 rfl ?_
  refine tg_call (ct_X2 _ (a + 91) (by omega) hT91 (tl_fus _ _ _)) dX9_init_64 (Or.inl ci_X9_X2) ⟨(Nat.le_of_ble_eq_true rfl), (Nat.le_of_ble_eq_true rfl)⟩ (Nat.le_of_ble_eq_true rfl) ?_
  refine tg_putF (f := 5) tl_ck9 dX9_init_67 fl_X9_39 (by decide) rfl rfl rfl rfl rfl ((tl_ovo (by omega)).trans ((tl_fun (by omega)).trans F5a)) (Nat.le_of_ble_eq_true rfl) ⟨ha, by omega⟩ ?_
  generalize hF6 : tl_fu (tl_ov E (tl_fu F5 _ _) _ _) a _ = F6
  have F6a : F6 a = .inr (9, [.ref (a + 1), .ref (a + 3), .ref (a + 4), .ref (a + 33), .ref (a + 62), .ref (a + 91), .null, .null]) := by rw [← hF6, tl_fus]; rfl
  have F6i : ∀ q, a + 1 ≤ q ∧ q < a + 499 → F6 q = tl_g0 E q := fun q h => by
    rw [← hF6, tl_fun (by omega)]
    by_cases c : a + 91 ≤ q
    · rw [tl_ovi (by omega)]
    · rw [tl_ovo (by omega), tl_fun (by omega)]; exact F5i q (by omega)
  have F6o : ∀ q, q ≠ a → ¬ (a + 1 ≤ q ∧ q < a + 499) → F6 q = F q := fun q h1 h2 => by
    rw [← hF6, tl_fun h1, tl_ovo (by omega), tl_fun (by omega)]; try exact F5o q h1 (by omega)
  clear hF6
  refine tl_aload_n (q := 0) dX9_init_70 rfl (tl_iconst (v := 2) dX9_init_71 ic_2 ?_)
  refine tg_newq (t := 8) (NN := 2) dX9_init_72 kk_X9_23 (by decide) rfl (by decide) (by decide) (by decide) (Nat.le_of_ble_eq_true rfl) (Nat.le_of_ble_eq_true rfl) ?_
  refine tg_putF (f := 6) tl_ck9 dX9_init_75 fl_X9_43 (by decide) rfl rfl rfl rfl rfl ((tl_fun (by omega)).trans F6a) (Nat.le_of_ble_eq_true rfl) ⟨ha, by omega⟩ ?_
  refine tl_aload_n (q := 0) dX9_init_78 rfl (tl_iconst (v := 2) dX9_init_79 ic_2 ?_)
  refine tg_newa (t := 2) (NN := 2) (ty := .boolean) (a0 := (2, .inl (fun _ => 0))) dX9_init_80 ac_boolean rfl rfl (fun _ _ h => h) (fun _ => rfl) (by decide) (by decide) (by decide) (Nat.le_of_ble_eq_true rfl) (Nat.le_of_ble_eq_true rfl) ?_
  refine tg_putF (f := 7) tl_ck9 dX9_init_82 fl_X9_47 (by decide) rfl rfl rfl rfl rfl ((tl_fun (by omega)).trans (tl_fus _ _ _)) (Nat.le_of_ble_eq_true rfl) ⟨ha, by omega⟩ ?_
  generalize hF7 : tl_fu (tl_fu (tl_fu (tl_fu F6 _ _) a _) _ _) a _ = F7
  have F7a : F7 a = .inr (9, [.ref (a + 1), .ref (a + 3), .ref (a + 4), .ref (a + 33), .ref (a + 62), .ref (a + 91), .ref (a + 499), .ref (a + 500)]) := by rw [← hF7, tl_fus]; rfl
  have F7r : F7 (a + 499) = .inl (E.2.2.2 8, 2, .inr (.inr (.inr (.inr (fun _ => none))))) := by rw [← hF7, tl_fun (by omega), tl_fun (by omega), tl_fun (by omega), tl_fus]
  have F7b : F7 (a + 500) = .inl (E.2.2.2 2, 2, .inl (fun _ => 0)) := by rw [← hF7, tl_fun (by omega), tl_fus]
  have F7i : ∀ q, a + 1 ≤ q ∧ q < a + 499 → F7 q = tl_g0 E q := fun q h => by
    rw [← hF7, tl_fun (by omega), tl_fun (by omega), tl_fun (by omega), tl_fun (by omega)]; exact F6i q (by omega)
  have F7o : ∀ q, q ≠ a → ¬ (a + 1 ≤ q ∧ q < a + 501) → F7 q = F q := fun q h1 h2 => by
    rw [← hF7, tl_fun h1, tl_fun (by omega), tl_fun h1, tl_fun (by omega)]; exact F6o q h1 (by omega)
  clear hF7
  refine tl_iconst (v := 0) dX9_init_85 ic_0 (tl_istore_n (q := 1) dX9_init_86 (Nat.le_of_ble_eq_true rfl) ?_)
  have L := fun fin => tg_loop (E := E) (M := mX9_init) (N := mX5_init) (X := tl_X0) (Z := tl_Z E mX9_init (tl_GQ E (tl_ov E F a (a + 559)) (a + 559))) (F := F7) (a := a) (ra := a + 499) (eb := a + 501) (w := 29) (t := 8) (cnt := 2) (p0 := 87) (p2 := 89) (tgt := 111) (f := 6) (k0 := 500) (n0 := 2495) tl_ck5 tl_ck9 rfl ha (by omega) ⟨by omega, by omega⟩ (by omega) F7a rfl (by decide) hTs (by decide) (by decide) rfl ct_X5 (fun j hj => by rcases (show j = 0 ∨ j = 1 ∨ j = 2 ∨ j = 3 ∨ j = 4 ∨ j = 5 ∨ j = 6 ∨ j = 7 ∨ j = 8 ∨ j = 9 ∨ j = 10 ∨ j = 11 ∨ j = 12 ∨ j = 13 ∨ j = 14 ∨ j = 15 by omega) with rfl | rfl | rfl | rfl | rfl | rfl | rfl | rfl | rfl | rfl | rfl | rfl | rfl | rfl | rfl | rfl <;> rfl) dX9_init_87 (fun kk => tl_iconst (v := nI 2) dX9_init_88 ic_2 kk) dX9_init_89 (by decide) dX9_init_92 dX9_init_93 fl_X9_43 dX9_init_96 dX9_init_97 kk_X9_23 ia_X5 in_X5 dX9_init_100 dX9_init_101 (Or.inl ci_X9_X5) dX9_init_104 dX9_init_105 dX9_init_108 (by decide) (Nat.le_of_ble_eq_true rfl) (Nat.le_of_ble_eq_true rfl) fin 2 0 rfl
  rw [tl_rw0 F7r, Nat.zero_mul, Nat.zero_mul, Nat.mul_zero] at L
  refine L ?_
  clear L
  refine tg_retE dX9_init_111 rfl (Nat.le_of_ble_eq_true rfl) (Nat.le_of_ble_eq_true rfl) (fun q h1 h2 => ?_)
  by_cases c1 : q = a + 499
  · rw [c1, tl_rwr, tl_ovi (by omega), tl_g0_23 hT499]
    exact tl_eqv_row (fun j hj => by rw [if_pos hj])
  · by_cases d1 : a + 501 ≤ q ∧ q < a + 559
    · rw [tl_rwi c1 (by omega), tl_ovi (by omega)]; exact tl_eqv_rf rfl
    · rw [tl_rwo c1 (by omega)]
      by_cases c0 : q = a
      · rw [c0, F7a, tl_ovi (by omega), tl_g0_9 hT]; exact tl_eqv_rf rfl
      · by_cases c2 : q = a + 500
        · rw [c2, F7b, tl_ovi (by omega), tl_g0_16 hT500]; exact tl_eqv_rf rfl
        · by_cases d0 : a + 1 ≤ q ∧ q < a + 499
          · rw [F7i q d0, tl_ovi (by omega)]; exact tl_eqv_rf rfl
          · rw [F7o q c0 (by omega), tl_ovo (by omega)]; exact tl_eqv_rf rfl
def tl_clf : Nat → Int32 := fun q => if q = 16 then 4 else if q = 13 then -1 else 0
theorem ct_clear {F : Nat → va_E} {b sz : Nat} (hb : E.2.1 ≤ b ∧ b < sz) (hF : F b = .inl (E.2.2.2 0, 104, .inl (fun _ => 0))) : tl_Met E mX10_clear [.ref b] (tl_G E F sz) (tl_GQ E (tl_fu F b (.inl (E.2.2.2 0, 104, .inl tl_clf))) sz) := by
  refine tl_start [some (.ref b), none] rfl rfl rfl (Nat.le_of_ble_eq_true rfl) ?_
  refine tl_iconst (v := 0) dX10_clear_0 ic_0 (tl_istore_n (q := 1) dX10_clear_1 (Nat.le_of_ble_eq_true rfl) ?_)
  have L : ∀ (m i : Nat), i + m = 104 → tl_R E mX10_clear tl_X0 (tl_Z E mX10_clear (tl_GQ E (tl_fu F b (.inl (E.2.2.2 0, 104, .inl tl_clf))) sz)) 0 0 (tl_G E F sz) 2 [some (.ref b), some (.int (nI i))] [] := by
    intro m
    induction m with
    | zero =>
      intro i hi
      have e : i = 104 := by omega
      subst e
      refine tl_iload_n (q := 1) dX10_clear_2 rfl (tl_bipush (v := nI 104) dX10_clear_3 bp_104 (tl_icmp_ge (tgt := 18) dX10_clear_5 (by decide) (fun _ => ?_) (fun q => absurd ?_ q)))
      · refine tl_aload_n (q := 0) dX10_clear_18 rfl (tl_bipush (v := 13) dX10_clear_19 bp_13 (tl_iconst (v := (-1)) dX10_clear_21 ic_m1 ?_))
        refine tg_iast (j := 13) dX10_clear_22 hF rfl (by decide) (by decide) hb ?_
        refine tl_aload_n (q := 0) dX10_clear_23 rfl (tl_bipush (v := 16) dX10_clear_24 bp_16 (tl_iconst (v := 4) dX10_clear_26 ic_4 ?_))
        refine tg_iast (j := 16) dX10_clear_27 (tl_fus _ _ _) rfl (by decide) (by decide) hb ?_
        refine tg_ret dX10_clear_28 rfl (Nat.le_of_ble_eq_true rfl) (Nat.le_of_ble_eq_true rfl) ?_
        funext q
        by_cases c : q = b
        · rw [c, tl_fus, tl_fus]; rfl
        · rw [tl_fun c, tl_fun c, tl_fun c]
      · decide
    | succ m ih =>
      intro i hi
      refine tl_iload_n (q := 1) dX10_clear_2 rfl (tl_bipush (v := nI 104) dX10_clear_3 bp_104 (tl_icmp_ge (tgt := 18) dX10_clear_5 (by decide) (fun q => absurd q ?_) (fun _ => ?_)))
      · rw [tp_le (by decide) (by omega)]; omega
      · refine tl_aload_n (q := 0) dX10_clear_8 rfl (tl_iload_n (q := 1) dX10_clear_9 rfl (tl_iconst (v := 0) dX10_clear_10 ic_0 ?_))
        refine tg_iast (j := i) dX10_clear_11 hF rfl (by omega) (by omega) hb ?_
        have e : tl_fu F b (.inl (E.2.2.2 0, 104, .inl (fun q => if q = i then (0 : Int32) else 0))) = F := by
          funext q
          by_cases c : q = b
          · rw [c, tl_fus, hF]
            congr 4
            funext j
            exact ite_self _
          · rw [tl_fun c]
        rw [e]
        refine tl_iinc (x := nI i) (v := nI (i + 1)) dX10_clear_12 rfl (nI_1 i) (Nat.le_of_ble_eq_true rfl) ?_
        exact tl_goto dX10_clear_15 (by decide) (ih (i + 1) (by omega))
  exact L 104 0 rfl
theorem tl_g0_13t {a : Nat} (h : tl_T E.2.1 a = some 13) (hne : a ≠ E.2.1 + 561) : tl_g0 E a = .inl (E.2.2.2 0, 104, .inl (fun _ => 0)) := by
  rw [tl_g0_k h]
  show (.inl (E.2.2.2 0, 104, .inl ((tl_u0 E.2.1).1 a)) : va_E) = _
  have e : (tl_u0 E.2.1).1 a = fun _ => 0 := by
    funext k
    show (if tl_T E.2.1 a = some 3 ∧ k = 4 then (-1 : Int32) else if tl_T E.2.1 a = some 5 ∧ k = 14 then 4 else if a = E.2.1 + 561 ∧ k = 13 then -1 else if a = E.2.1 + 561 ∧ k = 16 then 4 else 0) = 0
    rw [h, if_neg (c := some 13 = some 3 ∧ k = 4) (fun e => absurd (Option.some.inj e.1) (by decide)), if_neg (c := some 13 = some 5 ∧ k = 14) (fun e => absurd (Option.some.inj e.1) (by decide)), if_neg (c := a = E.2.1 + 561 ∧ k = 13) (fun e => hne e.1), if_neg (c := a = E.2.1 + 561 ∧ k = 16) (fun e => hne e.1)]
  rw [e]
theorem tl_g0_13n : tl_g0 E (E.2.1 + 561) = .inl (E.2.2.2 0, 104, .inl tl_clf) := by
  have h := tl_T561 E.2.1
  rw [tl_g0_k h]
  show (.inl (E.2.2.2 0, 104, .inl ((tl_u0 E.2.1).1 (E.2.1 + 561))) : va_E) = _
  have e : (tl_u0 E.2.1).1 (E.2.1 + 561) = tl_clf := by
    funext k
    show (if tl_T E.2.1 (E.2.1 + 561) = some 3 ∧ k = 4 then (-1 : Int32) else if tl_T E.2.1 (E.2.1 + 561) = some 5 ∧ k = 14 then 4 else if E.2.1 + 561 = E.2.1 + 561 ∧ k = 13 then -1 else if E.2.1 + 561 = E.2.1 + 561 ∧ k = 16 then 4 else 0) = if k = 16 then 4 else if k = 13 then -1 else 0
    rw [h, if_neg (c := some 13 = some 3 ∧ k = 4) (fun e => absurd (Option.some.inj e.1) (by decide)), if_neg (c := some 13 = some 5 ∧ k = 14) (fun e => absurd (Option.some.inj e.1) (by decide))]
    by_cases c1 : k = 16
    · subst c1; rw [if_neg (by omega), if_pos ⟨rfl, rfl⟩, if_pos rfl]
    · rw [if_neg c1]
      by_cases c2 : k = 13
      · rw [if_pos ⟨rfl, c2⟩, if_pos c2]
      · rw [if_neg (fun e => c2 e.2), if_neg (fun e => c1 e.2), if_neg c2]
  rw [e]
theorem ct_X10 {F : Nat → va_E} {a : Nat} (haz : a = E.2.1 + 559) (hF : F a = .inr (10, [.int 0, .null, .int 0, .null, .null, .null, .int 0, .null, .null, .int 0, .int 0])) : tl_Met E mX10_init [.ref a] (tl_G E F (a + 1)) (tl_GQ E (tl_ov E F a (a + 7)) (a + 7)) := by
  have hT : tl_T E.2.1 a = some 10 := by
    rw [haz]
    unfold tl_T
    rw [if_pos (by omega), Nat.add_sub_cancel_left]
    decide +kernel
  have ha : E.2.1 ≤ a := by omega
  refine tl_start [some (.ref a)] rfl rfl rfl (Nat.le_of_ble_eq_true rfl) ?_
  refine tl_aload_n (q := 0) dX10_init_0 rfl (tg_obj dX10_init_1 ml_X10_1 (Nat.le_of_ble_eq_true rfl) (Nat.le_of_ble_eq_true rfl) ?_)
  refine tl_aload_n (q := 0) dX10_init_4 rfl (tl_bipush (v := 120) dX10_init_5 bp_120 ?_)
  refine tg_newa (t := 0) (NN := 120) (ty := .int) (a0 := (120, .inl (fun _ => 0))) dX10_init_7 ac_int rfl rfl (fun _ _ h => h) (fun _ => rfl) (by decide) (by decide) (by decide) (Nat.le_of_ble_eq_true rfl) (Nat.le_of_ble_eq_true rfl) ?_
  refine tg_putF (f := 1) tl_ck10 dX10_init_9 fl_X10_7 (by decide) rfl rfl rfl rfl rfl ((tl_fun (by omega)).trans hF) (Nat.le_of_ble_eq_true rfl) ⟨ha, by omega⟩ ?_
  refine tl_aload_n (q := 0) dX10_init_12 rfl (tl_bipush (v := 104) dX10_init_13 bp_104 ?_)
  refine tg_newa (t := 0) (NN := 104) (ty := .int) (a0 := (104, .inl (fun _ => 0))) dX10_init_15 ac_int rfl rfl (fun _ _ h => h) (fun _ => rfl) (by decide) (by decide) (by decide) (Nat.le_of_ble_eq_true rfl) (Nat.le_of_ble_eq_true rfl) ?_
  refine tg_putF (f := 3) tl_ck10 dX10_init_17 fl_X10_13 (by decide) rfl rfl rfl rfl rfl ((tl_fun (by omega)).trans (tl_fus _ _ _)) (Nat.le_of_ble_eq_true rfl) ⟨ha, by omega⟩ ?_
  refine tl_aload_n (q := 0) dX10_init_20 rfl (tl_bipush (v := 104) dX10_init_21 bp_104 ?_)
  refine tg_newa (t := 0) (NN := 104) (ty := .int) (a0 := (104, .inl (fun _ => 0))) dX10_init_23 ac_int rfl rfl (fun _ _ h => h) (fun _ => rfl) (by decide) (by decide) (by decide) (Nat.le_of_ble_eq_true rfl) (Nat.le_of_ble_eq_true rfl) ?_
  refine tg_putF (f := 4) tl_ck10 dX10_init_25 fl_X10_16 (by decide) rfl rfl rfl rfl rfl ((tl_fun (by omega)).trans (tl_fus _ _ _)) (Nat.le_of_ble_eq_true rfl) ⟨ha, by omega⟩ ?_
  refine tl_aload_n (q := 0) dX10_init_28 rfl (tl_sipush (v := 1456) dX10_init_29 (by decide) ?_)
  refine tg_newa (t := 0) (NN := 1456) (ty := .int) (a0 := (1456, .inl (fun _ => 0))) dX10_init_32 ac_int rfl rfl (fun _ _ h => h) (fun _ => rfl) (by decide) (by decide) (by decide) (Nat.le_of_ble_eq_true rfl) (Nat.le_of_ble_eq_true rfl) ?_
  refine tg_putF (f := 5) tl_ck10 dX10_init_34 fl_X10_19 (by decide) rfl rfl rfl rfl rfl ((tl_fun (by omega)).trans (tl_fus _ _ _)) (Nat.le_of_ble_eq_true rfl) ⟨ha, by omega⟩ ?_
  refine tl_aload_n (q := 0) dX10_init_37 rfl (tl_sipush (v := 208) dX10_init_38 (by decide) ?_)
  refine tg_newa (t := 0) (NN := 208) (ty := .int) (a0 := (208, .inl (fun _ => 0))) dX10_init_41 ac_int rfl rfl (fun _ _ h => h) (fun _ => rfl) (by decide) (by decide) (by decide) (Nat.le_of_ble_eq_true rfl) (Nat.le_of_ble_eq_true rfl) ?_
  refine tg_putF (f := 7) tl_ck10 dX10_init_43 fl_X10_22 (by decide) rfl rfl rfl rfl rfl ((tl_fun (by omega)).trans (tl_fus _ _ _)) (Nat.le_of_ble_eq_true rfl) ⟨ha, by omega⟩ ?_
  refine tl_aload_n (q := 0) dX10_init_46 rfl (tl_iconst (v := 2) dX10_init_47 ic_2 ?_)
  refine tg_newa (t := 2) (NN := 2) (ty := .boolean) (a0 := (2, .inl (fun _ => 0))) dX10_init_48 ac_boolean rfl rfl (fun _ _ h => h) (fun _ => rfl) (by decide) (by decide) (by decide) (Nat.le_of_ble_eq_true rfl) (Nat.le_of_ble_eq_true rfl) ?_
  refine tg_putF (f := 8) tl_ck10 dX10_init_50 fl_X10_25 (by decide) rfl rfl rfl rfl rfl ((tl_fun (by omega)).trans (tl_fus _ _ _)) (Nat.le_of_ble_eq_true rfl) ⟨ha, by omega⟩ ?_
  generalize hF1 : tl_fu (tl_fu (tl_fu (tl_fu (tl_fu (tl_fu (tl_fu (tl_fu (tl_fu (tl_fu (tl_fu (tl_fu F _ _) a _) _ _) a _) _ _) a _) _ _) a _) _ _) a _) _ _) a _ = F1
  have F1a : F1 a = .inr (10, [.int 0, .ref (a + 1), .int 0, .ref (a + 2), .ref (a + 3), .ref (a + 4), .int 0, .ref (a + 5), .ref (a + 6), .int 0, .int 0]) := by rw [← hF1, tl_fus]; rfl
  have F11 : F1 (a + 1) = .inl (E.2.2.2 0, 120, .inl (fun _ => 0)) := by rw [← hF1, tl_fun (by omega), tl_fun (by omega), tl_fun (by omega), tl_fun (by omega), tl_fun (by omega), tl_fun (by omega), tl_fun (by omega), tl_fun (by omega), tl_fun (by omega), tl_fun (by omega), tl_fun (by omega), tl_fus]
  have F12 : F1 (a + 2) = .inl (E.2.2.2 0, 104, .inl (fun _ => 0)) := by rw [← hF1, tl_fun (by omega), tl_fun (by omega), tl_fun (by omega), tl_fun (by omega), tl_fun (by omega), tl_fun (by omega), tl_fun (by omega), tl_fun (by omega), tl_fun (by omega), tl_fus]
  have F13 : F1 (a + 3) = .inl (E.2.2.2 0, 104, .inl (fun _ => 0)) := by rw [← hF1, tl_fun (by omega), tl_fun (by omega), tl_fun (by omega), tl_fun (by omega), tl_fun (by omega), tl_fun (by omega), tl_fun (by omega), tl_fus]
  have F14 : F1 (a + 4) = .inl (E.2.2.2 0, 1456, .inl (fun _ => 0)) := by rw [← hF1, tl_fun (by omega), tl_fun (by omega), tl_fun (by omega), tl_fun (by omega), tl_fun (by omega), tl_fus]
  have F15 : F1 (a + 5) = .inl (E.2.2.2 0, 208, .inl (fun _ => 0)) := by rw [← hF1, tl_fun (by omega), tl_fun (by omega), tl_fun (by omega), tl_fus]
  have F16 : F1 (a + 6) = .inl (E.2.2.2 2, 2, .inl (fun _ => 0)) := by rw [← hF1, tl_fun (by omega), tl_fus]
  have F1o : ∀ q, q < a ∨ a + 7 ≤ q → F1 q = F q := fun q h => by
    rw [← hF1, tl_fun (by omega), tl_fun (by omega), tl_fun (by omega), tl_fun (by omega), tl_fun (by omega), tl_fun (by omega), tl_fun (by omega), tl_fun (by omega), tl_fun (by omega), tl_fun (by omega), tl_fun (by omega), tl_fun (by omega)]
  clear hF1
  refine tl_aload_n (q := 0) dX10_init_53 rfl (tg_get (f := 3) tl_ck10 dX10_init_54 fl_X10_13 (by decide) F1a rfl ⟨ha, by omega⟩ ?_)
  refine tg_callS (ct_clear ⟨by omega, by omega⟩ F12) dX10_init_57 ci_X10_clear ⟨(Nat.le_of_ble_eq_true rfl), (Nat.le_of_ble_eq_true rfl)⟩ (Nat.le_of_ble_eq_true rfl) ?_
  refine tg_ret dX10_init_60 rfl (Nat.le_of_ble_eq_true rfl) (Nat.le_of_ble_eq_true rfl) ?_
  funext q
  by_cases c2 : q = a + 2
  · rw [c2, tl_fus, tl_ovi (by omega), show a + 2 = E.2.1 + 561 by omega, tl_g0_13n]
  · rw [tl_fun c2]
    by_cases c0 : q = a
    · rw [c0, F1a, tl_ovi (by omega), tl_g0_10 hT]
    · by_cases c1 : q = a + 1
      · rw [c1, F11, tl_ovi (by omega), tl_g0_12 (tt_10_1 hT)]
      · by_cases c3 : q = a + 3
        · rw [c3, F13, tl_ovi (by omega), tl_g0_13t (tt_10_4 hT) (by omega)]
        · by_cases c4 : q = a + 4
          · rw [c4, F14, tl_ovi (by omega), tl_g0_14 (tt_10_5 hT)]
          · by_cases c5 : q = a + 5
            · rw [c5, F15, tl_ovi (by omega), tl_g0_15 (tt_10_7 hT)]
            · by_cases c6 : q = a + 6
              · rw [c6, F16, tl_ovi (by omega), tl_g0_16 (tt_10_8 hT)]
              · rw [F1o q (by omega), tl_ovo (by omega)]
end TLN