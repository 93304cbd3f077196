/-! Printed by wip/whole/gen: what the bytes compute, and the walks. -/
theorem cs_X2_remember_50 : tl_cV mX2_remember mX5_copyFrom 25 1 := ⟨cd_X5_copyFrom, ml_X2_25, im_X5_copyFrom, se_X5_copyFrom, in_X5, ⟨by decide, by decide, by decide +kernel⟩, Nat.le_of_ble_eq_true rfl, Nat.le_of_ble_eq_true rfl⟩
def f2_remember_p32 (a1 : Nat) (a2 : Nat) (u : tl_S) : Option (tl_S) :=
  tl_g (¬ ((((u.1 a1 1) + (u.1 a1 2)) - ((u.1 a1 1) + (u.1 a1 2)) / 14 * 14) < 0 ∨ 14 ≤ (((u.1 a1 1) + (u.1 a1 2)) - ((u.1 a1 1) + (u.1 a1 2)) / 14 * 14).toNatClampNeg)) (tl_b (f5_copyFrom ((a1 + 1) + (1 + 29 * (((u.1 a1 1) + (u.1 a1 2)) - ((u.1 a1 1) + (u.1 a1 2)) / 14 * 14).toNatClampNeg)) a2 u) (fun u6 => tl_let ((tl_u u6.1 a1 2 ((u6.1 a1 2) + 1), u6.2) : tl_S) (fun u7 => some u7)))

def f2_remember (a0 : Nat) (a1 : Nat) (u : tl_S) : Option (tl_S) :=
  (if (u.1 a0 2) = 14 then tl_let ((tl_u u.1 a0 1 (((u.1 a0 1) + 1) - ((u.1 a0 1) + 1) / 14 * 14), u.2) : tl_S) (fun u4 => tl_let ((tl_u u4.1 a0 2 ((u4.1 a0 2) - 1), u4.2) : tl_S) (fun u5 => f2_remember_p32 a0 a1 u5)) else f2_remember_p32 a0 a1 u)

theorem l2_remember_p32 {E : tl_E} {a1 : Nat} {a2 : Nat}   {u : tl_S} {v : tl_S} (h1 : tl_T E.2.1 a1 = some 2) (h2 : tl_T E.2.1 a2 = some 5) (h : f2_remember_p32 a1 a2 u = some v) : tl_R E mX2_remember tl_X0 (tl_ZB E mX2_remember (fun q w => q = none ∧ w = v)) 0 0 (tl_HB E u) 32 [some (.ref a1), some (.ref a2)] [] := by
  unfold f2_remember_p32 at h
  obtain ⟨g4, h⟩ := tl_gi h
  obtain ⟨u6, e5, h⟩ := tl_bi h
  refine tl_aload_n dX2_remember_32 rfl (tl_getr (f := 0) (o := 1) tl_ck2 dX2_remember_33 fl_X2_11 (Nat.le_of_ble_eq_true rfl) rfl h1 (tl_aload_n dX2_remember_36 rfl (tl_geti (f := 1) tl_ck2 dX2_remember_37 fl_X2_22 (Nat.le_of_ble_eq_true rfl) rfl h1 (tl_aload_n dX2_remember_40 rfl (tl_geti (f := 2) tl_ck2 dX2_remember_41 fl_X2_18 (Nat.le_of_ble_eq_true rfl) rfl h1 (tl_iadd dX2_remember_44 (tl_bipush (v := 14) dX2_remember_45 bp_14 (tl_irem dX2_remember_47 (by decide) (tl_ald22 dX2_remember_48 (tt_2_0 h1) ((((u.1 a1 1) + (u.1 a1 2)) - ((u.1 a1 1) + (u.1 a1 2)) / 14 * 14).toNatClampNeg) g4 rfl (tl_aload_n dX2_remember_49 rfl (tl_vV1 tl_ck5 rfl (ta_22 (tt_2_0 h1) (tl_inlt g4)) (l5_copyFrom (ta_22 (tt_2_0 h1) (tl_inlt g4)) h2 e5) dX2_remember_50 cs_X2_remember_50 ⟨rfl, rfl⟩ ⟨Nat.zero_le _, Nat.zero_le _⟩ (Nat.le_of_ble_eq_true rfl) (tl_aload_n dX2_remember_53 rfl (tl_dup dX2_remember_54 rfl (tl_geti (f := 2) tl_ck2 dX2_remember_55 fl_X2_18 (Nat.le_of_ble_eq_true rfl) rfl h1 (tl_iconst (v := 1) dX2_remember_58 ic_1 (tl_iadd dX2_remember_59 (tl_puti (f := 2) tl_ck2 dX2_remember_60 fl_X2_18 (Nat.le_of_ble_eq_true rfl) rfl rfl rfl h1 (fun u7 e => ?_))))))))))))))))))
  have h := tl_leteq e h
  clear e
  exact tl_vretE dX2_remember_63 rfl h

theorem l2_remember {E : tl_E} {a0 : Nat} {a1 : Nat}  {u : tl_S} {v : tl_S} (h0 : tl_T E.2.1 a0 = some 2) (h1 : tl_T E.2.1 a1 = some 5) (h : f2_remember a0 a1 u = some v) : tl_MB E mX2_remember [.ref a0, .ref a1] u (fun q w => q = none ∧ w = v) := by
  unfold f2_remember at h
  refine tl_start [some (.ref a0), some (.ref a1)] rfl rfl rfl (Nat.le_of_ble_eq_true rfl) ?_
  refine tl_aload_n dX2_remember_0 rfl (tl_geti (f := 2) tl_ck2 dX2_remember_1 fl_X2_18 (Nat.le_of_ble_eq_true rfl) rfl h0 (tl_bipush (v := 14) dX2_remember_4 bp_14 (tl_icmp_ne (tgt := 32) dX2_remember_6 (by decide) (fun c3 => ?_) (fun c3 => ?_))))
  · replace h := tl_in h c3
    exact l2_remember_p32 h0 h1 h
  · replace h := tl_ip h c3
    refine tl_aload_n dX2_remember_9 rfl (tl_aload_n dX2_remember_10 rfl (tl_geti (f := 1) tl_ck2 dX2_remember_11 fl_X2_22 (Nat.le_of_ble_eq_true rfl) rfl h0 (tl_iconst (v := 1) dX2_remember_14 ic_1 (tl_iadd dX2_remember_15 (tl_bipush (v := 14) dX2_remember_16 bp_14 (tl_irem dX2_remember_18 (by decide) (tl_puti (f := 1) tl_ck2 dX2_remember_19 fl_X2_22 (Nat.le_of_ble_eq_true rfl) rfl rfl rfl h0 (fun u4 e => ?_))))))))
    have h := tl_leteq e h
    clear e
    refine tl_aload_n dX2_remember_22 rfl (tl_dup dX2_remember_23 rfl (tl_geti (f := 2) tl_ck2 dX2_remember_24 fl_X2_18 (Nat.le_of_ble_eq_true rfl) rfl h0 (tl_iconst (v := 1) dX2_remember_27 ic_1 (tl_isub dX2_remember_28 (tl_puti (f := 2) tl_ck2 dX2_remember_29 fl_X2_18 (Nat.le_of_ble_eq_true rfl) rfl rfl rfl h0 (fun u5 e => ?_))))))
    have h := tl_leteq e h
    clear e
    exact l2_remember_p32 h0 h1 h

theorem cs_X2_takeBack_35 : tl_cV mX2_takeBack mX5_copyFrom 25 1 := ⟨cd_X5_copyFrom, ml_X2_25, im_X5_copyFrom, se_X5_copyFrom, in_X5, ⟨by decide, by decide, by decide +kernel⟩, Nat.le_of_ble_eq_true rfl, Nat.le_of_ble_eq_true rfl⟩
def f2_takeBack (a0 : Nat) (a1 : Nat) (u : tl_S) : Option (tl_S) :=
  (if (u.1 a0 2) ≤ 0 then some u else tl_let ((tl_u u.1 a0 2 ((u.1 a0 2) - 1), u.2) : tl_S) (fun u4 => tl_g (¬ ((((u4.1 a0 1) + (u4.1 a0 2)) - ((u4.1 a0 1) + (u4.1 a0 2)) / 14 * 14) < 0 ∨ 14 ≤ (((u4.1 a0 1) + (u4.1 a0 2)) - ((u4.1 a0 1) + (u4.1 a0 2)) / 14 * 14).toNatClampNeg)) (tl_b (f5_copyFrom a1 ((a0 + 1) + (1 + 29 * (((u4.1 a0 1) + (u4.1 a0 2)) - ((u4.1 a0 1) + (u4.1 a0 2)) / 14 * 14).toNatClampNeg)) u4) (fun u7 => some u7))))

theorem l2_takeBack {E : tl_E} {a0 : Nat} {a1 : Nat}  {u : tl_S} {v : tl_S} (h0 : tl_T E.2.1 a0 = some 2) (h1 : tl_T E.2.1 a1 = some 5) (h : f2_takeBack a0 a1 u = some v) : tl_MB E mX2_takeBack [.ref a0, .ref a1] u (fun q w => q = none ∧ w = v) := by
  unfold f2_takeBack at h
  refine tl_start [some (.ref a0), some (.ref a1)] rfl rfl rfl (Nat.le_of_ble_eq_true rfl) ?_
  refine tl_aload_n dX2_takeBack_0 rfl (tl_geti (f := 2) tl_ck2 dX2_takeBack_1 fl_X2_18 (Nat.le_of_ble_eq_true rfl) rfl h0 (tl_if_le (tgt := 38) dX2_takeBack_4 (by decide) (fun c3 => ?_) (fun c3 => ?_)))
  · replace h := tl_ip h c3
    exact tl_vretE dX2_takeBack_38 rfl h
  · replace h := tl_in h c3
    refine tl_aload_n dX2_takeBack_7 rfl (tl_dup dX2_takeBack_8 rfl (tl_geti (f := 2) tl_ck2 dX2_takeBack_9 fl_X2_18 (Nat.le_of_ble_eq_true rfl) rfl h0 (tl_iconst (v := 1) dX2_takeBack_12 ic_1 (tl_isub dX2_takeBack_13 (tl_puti (f := 2) tl_ck2 dX2_takeBack_14 fl_X2_18 (Nat.le_of_ble_eq_true rfl) rfl rfl rfl h0 (fun u4 e => ?_))))))
    have h := tl_leteq e h
    clear e
    obtain ⟨g5, h⟩ := tl_gi h
    obtain ⟨u7, e6, h⟩ := tl_bi h
    exact tl_aload_n dX2_takeBack_17 rfl (tl_aload_n dX2_takeBack_18 rfl (tl_getr (f := 0) (o := 1) tl_ck2 dX2_takeBack_19 fl_X2_11 (Nat.le_of_ble_eq_true rfl) rfl h0 (tl_aload_n dX2_takeBack_22 rfl (tl_geti (f := 1) tl_ck2 dX2_takeBack_23 fl_X2_22 (Nat.le_of_ble_eq_true rfl) rfl h0 (tl_aload_n dX2_takeBack_26 rfl (tl_geti (f := 2) tl_ck2 dX2_takeBack_27 fl_X2_18 (Nat.le_of_ble_eq_true rfl) rfl h0 (tl_iadd dX2_takeBack_30 (tl_bipush (v := 14) dX2_takeBack_31 bp_14 (tl_irem dX2_takeBack_33 (by decide) (tl_ald22 dX2_takeBack_34 (tt_2_0 h0) ((((u4.1 a0 1) + (u4.1 a0 2)) - ((u4.1 a0 1) + (u4.1 a0 2)) / 14 * 14).toNatClampNeg) g5 rfl (tl_vV1 tl_ck5 rfl h1 (l5_copyFrom h1 (ta_22 (tt_2_0 h0) (tl_inlt g5)) e6) dX2_takeBack_35 cs_X2_takeBack_35 ⟨rfl, rfl⟩ ⟨Nat.zero_le _, Nat.zero_le _⟩ (Nat.le_of_ble_eq_true rfl) (tl_vretE dX2_takeBack_38 rfl h))))))))))))


def f2_forgetAll (a0 : Nat) (u : tl_S) : Option (tl_S) :=
  tl_let ((tl_u u.1 a0 1 0, u.2) : tl_S) (fun u2 => tl_let ((tl_u u2.1 a0 2 0, u2.2) : tl_S) (fun u3 => some u3))

theorem l2_forgetAll {E : tl_E} {a0 : Nat}  {u : tl_S} {v : tl_S} (h0 : tl_T E.2.1 a0 = some 2) (h : f2_forgetAll a0 u = some v) : tl_MB E mX2_forgetAll [.ref a0] u (fun q w => q = none ∧ w = v) := by
  unfold f2_forgetAll at h
  refine tl_start [some (.ref a0)] rfl rfl rfl (Nat.le_of_ble_eq_true rfl) ?_
  refine tl_aload_n dX2_forgetAll_0 rfl (tl_iconst (v := 0) dX2_forgetAll_1 ic_0 (tl_puti (f := 1) tl_ck2 dX2_forgetAll_2 fl_X2_22 (Nat.le_of_ble_eq_true rfl) rfl rfl rfl h0 (fun u2 e => ?_)))
  have h := tl_leteq e h
  clear e
  refine tl_aload_n dX2_forgetAll_5 rfl (tl_iconst (v := 0) dX2_forgetAll_6 ic_0 (tl_puti (f := 2) tl_ck2 dX2_forgetAll_7 fl_X2_18 (Nat.le_of_ble_eq_true rfl) rfl rfl rfl h0 (fun u3 e => ?_)))
  have h := tl_leteq e h
  clear e
  exact tl_vretE dX2_forgetAll_10 rfl h


def f6_isFull (a0 : Nat) (u : tl_S) : Option (Int32 × tl_S) :=
  (if (u.1 a0 1) < 120 then some (0, u) else some (1, u))

theorem l6_isFull {E : tl_E} {a0 : Nat}  {u : tl_S} {r : Int32} {v : tl_S} (h0 : tl_T E.2.1 a0 = some 6) (h : f6_isFull a0 u = some (r, v)) : tl_MB E mX6_isFull [.ref a0] u (fun q w => q = some (.int r) ∧ w = v) := by
  unfold f6_isFull at h
  refine tl_start [some (.ref a0)] rfl rfl rfl (Nat.le_of_ble_eq_true rfl) ?_
  refine tl_aload_n dX6_isFull_0 rfl (tl_geti (f := 1) tl_ck6 dX6_isFull_1 fl_X6_15 (Nat.le_of_ble_eq_true rfl) rfl h0 (tl_bipush (v := 120) dX6_isFull_4 bp_120 (tl_icmp_lt (tgt := 13) dX6_isFull_6 (by decide) (fun c2 => ?_) (fun c2 => ?_))))
  · replace h := tl_ip h c2
    exact tl_iconst (v := 0) dX6_isFull_13 ic_0 (tl_iretE dX6_isFull_14 rfl rfl h)
  · replace h := tl_in h c2
    exact tl_iconst (v := 1) dX6_isFull_9 ic_1 (tl_goto (tgt := 14) dX6_isFull_10 (by decide) (tl_iretE dX6_isFull_14 rfl rfl h))


def f6_add (a0 : Nat) (x1 : Int32) (u : tl_S) : Option (Int32 × tl_S) :=
  (if 120 ≤ (u.1 a0 1) then some ((u.1 a0 1), u) else tl_g (¬ ((u.1 a0 1) < 0 ∨ 120 ≤ (u.1 a0 1).toNatClampNeg)) (tl_g (¬ (x1 < 0 ∨ 65535 < x1)) (tl_let ((tl_u u.1 (a0 + 1) ((u.1 a0 1).toNatClampNeg) x1, u.2) : tl_S) (fun u5 => tl_let ((tl_u u5.1 a0 1 ((u5.1 a0 1) + 1), u5.2) : tl_S) (fun u7 => some ((u7.1 a0 1), u7))))))

theorem l6_add {E : tl_E} {a0 : Nat} {x1 : Int32}  {u : tl_S} {r : Int32} {v : tl_S} (h0 : tl_T E.2.1 a0 = some 6) (h : f6_add a0 x1 u = some (r, v)) : tl_MB E mX6_add [.ref a0, .int x1] u (fun q w => q = some (.int r) ∧ w = v) := by
  unfold f6_add at h
  refine tl_start [some (.ref a0), some (.int x1)] rfl rfl rfl (Nat.le_of_ble_eq_true rfl) ?_
  refine tl_aload_n dX6_add_0 rfl (tl_geti (f := 1) tl_ck6 dX6_add_1 fl_X6_15 (Nat.le_of_ble_eq_true rfl) rfl h0 (tl_aload_n dX6_add_4 rfl (tl_getr (f := 0) (o := 1) tl_ck6 dX6_add_5 fl_X6_9 (Nat.le_of_ble_eq_true rfl) rfl h0 (tl_alenC (v := 120) dX6_add_8 (tt_6_0 h0) (by decide) (tl_icmp_ge (tgt := 32) dX6_add_9 (by decide) (fun c3 => ?_) (fun c3 => ?_))))))
  · replace h := tl_ip h c3
    exact tl_aload_n dX6_add_32 rfl (tl_geti (f := 1) tl_ck6 dX6_add_33 fl_X6_15 (Nat.le_of_ble_eq_true rfl) rfl h0 (tl_iretE dX6_add_36 rfl rfl h))
  · replace h := tl_in h c3
    obtain ⟨g4, h⟩ := tl_gi h
    obtain ⟨g6, h⟩ := tl_gi h
    refine tl_aload_n dX6_add_12 rfl (tl_getr (f := 0) (o := 1) tl_ck6 dX6_add_13 fl_X6_9 (Nat.le_of_ble_eq_true rfl) rfl h0 (tl_aload_n dX6_add_16 rfl (tl_geti (f := 1) tl_ck6 dX6_add_17 fl_X6_15 (Nat.le_of_ble_eq_true rfl) rfl h0 (tl_iload_n dX6_add_20 rfl (tl_castK dX6_add_21 (tt_6_0 h0) ((u.1 a0 1).toNatClampNeg) g4 rfl g6 (fun u5 e => ?_))))))
    have h := tl_leteq e h
    clear e
    refine tl_aload_n dX6_add_22 rfl (tl_dup dX6_add_23 rfl (tl_geti (f := 1) tl_ck6 dX6_add_24 fl_X6_15 (Nat.le_of_ble_eq_true rfl) rfl h0 (tl_iconst (v := 1) dX6_add_27 ic_1 (tl_iadd dX6_add_28 (tl_puti (f := 1) tl_ck6 dX6_add_29 fl_X6_15 (Nat.le_of_ble_eq_true rfl) rfl rfl rfl h0 (fun u7 e => ?_))))))
    have h := tl_leteq e h
    clear e
    exact tl_aload_n dX6_add_32 rfl (tl_geti (f := 1) tl_ck6 dX6_add_33 fl_X6_15 (Nat.le_of_ble_eq_true rfl) rfl h0 (tl_iretE dX6_add_36 rfl rfl h))


def f6_startCommands (a0 : Nat) (u : tl_S) : Option (tl_S) :=
  tl_let ((tl_u u.1 a0 2 1, u.2) : tl_S) (fun u2 => some u2)

theorem l6_startCommands {E : tl_E} {a0 : Nat}  {u : tl_S} {v : tl_S} (h0 : tl_T E.2.1 a0 = some 6) (h : f6_startCommands a0 u = some v) : tl_MB E mX6_startCommands [.ref a0] u (fun q w => q = none ∧ w = v) := by
  unfold f6_startCommands at h
  refine tl_start [some (.ref a0)] rfl rfl rfl (Nat.le_of_ble_eq_true rfl) ?_
  refine tl_aload_n dX6_startCommands_0 rfl (tl_iconst (v := 1) dX6_startCommands_1 ic_1 (tl_puti (f := 2) tl_ck6 dX6_startCommands_2 fl_X6_19 (Nat.le_of_ble_eq_true rfl) rfl rfl rfl h0 (fun u2 e => ?_)))
  have h := tl_leteq e h
  clear e
  exact tl_vretE dX6_startCommands_5 rfl h


def f6_actionOf (x1 : Int32) (u : tl_S) : Option (Int32 × tl_S) :=
  (if x1.toInt < 97 ∨ 116 < x1.toInt then some (0, u) else (if x1.toInt = 97 then some (9, u) else (if x1.toInt = 98 then some (0, u) else (if x1.toInt = 99 then some (0, u) else (if x1.toInt = 100 then some (0, u) else (if x1.toInt = 101 then some (0, u) else (if x1.toInt = 102 then some (7, u) else (if x1.toInt = 103 then some (1, u) else (if x1.toInt = 104 then some (6, u) else (if x1.toInt = 105 then some (0, u) else (if x1.toInt = 106 then some (0, u) else (if x1.toInt = 107 then some (0, u) else (if x1.toInt = 108 then some (4, u) else (if x1.toInt = 109 then some (2, u) else (if x1.toInt = 110 then some (0, u) else (if x1.toInt = 111 then some (0, u) else (if x1.toInt = 112 then some (0, u) else (if x1.toInt = 113 then some (0, u) else (if x1.toInt = 114 then some (0, u) else (if x1.toInt = 115 then some (5, u) else some (10, u)))))))))))))))))))))

theorem l6_actionOf {E : tl_E} {x1 : Int32}  {u : tl_S} {r : Int32} {v : tl_S}  (h : f6_actionOf x1 u = some (r, v)) : tl_MB E mX6_actionOf [.int x1] u (fun q w => q = some (.int r) ∧ w = v) := by
  unfold f6_actionOf at h
  refine tl_start [some (.int x1)] rfl rfl rfl (Nat.le_of_ble_eq_true rfl) ?_
  refine tl_iload_n dX6_actionOf_0 rfl (?_)
  by_cases c3 : x1.toInt < 97 ∨ 116 < x1.toInt
  · replace h := tl_ip h c3
    refine tl_tableOut (tgt := 116) dX6_actionOf_1 c3 (by decide) ?_
    exact tl_iconst (v := 0) dX6_actionOf_116 ic_0 (tl_iretE dX6_actionOf_117 rfl rfl h)
  replace h := tl_in h c3
  by_cases c4_97 : x1.toInt = 97
  · replace h := tl_ip h c4_97
    refine tl_tableIn (off := 109) (tgt := 110) dX6_actionOf_1 (by omega) (by omega) (by rw [c4_97]; rfl) (by decide) ?_
    exact tl_bipush (v := 9) dX6_actionOf_110 bp_9 (tl_iretE dX6_actionOf_112 rfl rfl h)
  replace h := tl_in h c4_97
  by_cases c4_98 : x1.toInt = 98
  · replace h := tl_ip h c4_98
    refine tl_tableIn (off := 115) (tgt := 116) dX6_actionOf_1 (by omega) (by omega) (by rw [c4_98]; rfl) (by decide) ?_
    exact tl_iconst (v := 0) dX6_actionOf_116 ic_0 (tl_iretE dX6_actionOf_117 rfl rfl h)
  replace h := tl_in h c4_98
  by_cases c4_99 : x1.toInt = 99
  · replace h := tl_ip h c4_99
    refine tl_tableIn (off := 115) (tgt := 116) dX6_actionOf_1 (by omega) (by omega) (by rw [c4_99]; rfl) (by decide) ?_
    exact tl_iconst (v := 0) dX6_actionOf_116 ic_0 (tl_iretE dX6_actionOf_117 rfl rfl h)
  replace h := tl_in h c4_99
  by_cases c4_100 : x1.toInt = 100
  · replace h := tl_ip h c4_100
    refine tl_tableIn (off := 115) (tgt := 116) dX6_actionOf_1 (by omega) (by omega) (by rw [c4_100]; rfl) (by decide) ?_
    exact tl_iconst (v := 0) dX6_actionOf_116 ic_0 (tl_iretE dX6_actionOf_117 rfl rfl h)
  replace h := tl_in h c4_100
  by_cases c4_101 : x1.toInt = 101
  · replace h := tl_ip h c4_101
    refine tl_tableIn (off := 115) (tgt := 116) dX6_actionOf_1 (by omega) (by omega) (by rw [c4_101]; rfl) (by decide) ?_
    exact tl_iconst (v := 0) dX6_actionOf_116 ic_0 (tl_iretE dX6_actionOf_117 rfl rfl h)
  replace h := tl_in h c4_101
  by_cases c4_102 : x1.toInt = 102
  · replace h := tl_ip h c4_102
    refine tl_tableIn (off := 106) (tgt := 107) dX6_actionOf_1 (by omega) (by omega) (by rw [c4_102]; rfl) (by decide) ?_
    exact tl_bipush (v := 7) dX6_actionOf_107 bp_7 (tl_iretE dX6_actionOf_109 rfl rfl h)
  replace h := tl_in h c4_102
  by_cases c4_103 : x1.toInt = 103
  · replace h := tl_ip h c4_103
    refine tl_tableIn (off := 95) (tgt := 96) dX6_actionOf_1 (by omega) (by omega) (by rw [c4_103]; rfl) (by decide) ?_
    exact tl_iconst (v := 1) dX6_actionOf_96 ic_1 (tl_iretE dX6_actionOf_97 rfl rfl h)
  replace h := tl_in h c4_103
  by_cases c4_104 : x1.toInt = 104
  · replace h := tl_ip h c4_104
    refine tl_tableIn (off := 103) (tgt := 104) dX6_actionOf_1 (by omega) (by omega) (by rw [c4_104]; rfl) (by decide) ?_
    exact tl_bipush (v := 6) dX6_actionOf_104 bp_6 (tl_iretE dX6_actionOf_106 rfl rfl h)
  replace h := tl_in h c4_104
  by_cases c4_105 : x1.toInt = 105
  · replace h := tl_ip h c4_105
    refine tl_tableIn (off := 115) (tgt := 116) dX6_actionOf_1 (by omega) (by omega) (by rw [c4_105]; rfl) (by decide) ?_
    exact tl_iconst (v := 0) dX6_actionOf_116 ic_0 (tl_iretE dX6_actionOf_117 rfl rfl h)
  replace h := tl_in h c4_105
  by_cases c4_106 : x1.toInt = 106
  · replace h := tl_ip h c4_106
    refine tl_tableIn (off := 115) (tgt := 116) dX6_actionOf_1 (by omega) (by omega) (by rw [c4_106]; rfl) (by decide) ?_
    exact tl_iconst (v := 0) dX6_actionOf_116 ic_0 (tl_iretE dX6_actionOf_117 rfl rfl h)
  replace h := tl_in h c4_106
  by_cases c4_107 : x1.toInt = 107
  · replace h := tl_ip h c4_107
    refine tl_tableIn (off := 115) (tgt := 116) dX6_actionOf_1 (by omega) (by omega) (by rw [c4_107]; rfl) (by decide) ?_
    exact tl_iconst (v := 0) dX6_actionOf_116 ic_0 (tl_iretE dX6_actionOf_117 rfl rfl h)
  replace h := tl_in h c4_107
  by_cases c4_108 : x1.toInt = 108
  · replace h := tl_ip h c4_108
    refine tl_tableIn (off := 99) (tgt := 100) dX6_actionOf_1 (by omega) (by omega) (by rw [c4_108]; rfl) (by decide) ?_
    exact tl_iconst (v := 4) dX6_actionOf_100 ic_4 (tl_iretE dX6_actionOf_101 rfl rfl h)
  replace h := tl_in h c4_108
  by_cases c4_109 : x1.toInt = 109
  · replace h := tl_ip h c4_109
    refine tl_tableIn (off := 97) (tgt := 98) dX6_actionOf_1 (by omega) (by omega) (by rw [c4_109]; rfl) (by decide) ?_
    exact tl_iconst (v := 2) dX6_actionOf_98 ic_2 (tl_iretE dX6_actionOf_99 rfl rfl h)
  replace h := tl_in h c4_109
  by_cases c4_110 : x1.toInt = 110
  · replace h := tl_ip h c4_110
    refine tl_tableIn (off := 115) (tgt := 116) dX6_actionOf_1 (by omega) (by omega) (by rw [c4_110]; rfl) (by decide) ?_
    exact tl_iconst (v := 0) dX6_actionOf_116 ic_0 (tl_iretE dX6_actionOf_117 rfl rfl h)
  replace h := tl_in h c4_110
  by_cases c4_111 : x1.toInt = 111
  · replace h := tl_ip h c4_111
    refine tl_tableIn (off := 115) (tgt := 116) dX6_actionOf_1 (by omega) (by omega) (by rw [c4_111]; rfl) (by decide) ?_
    exact tl_iconst (v := 0) dX6_actionOf_116 ic_0 (tl_iretE dX6_actionOf_117 rfl rfl h)
  replace h := tl_in h c4_111
  by_cases c4_112 : x1.toInt = 112
  · replace h := tl_ip h c4_112
    refine tl_tableIn (off := 115) (tgt := 116) dX6_actionOf_1 (by omega) (by omega) (by rw [c4_112]; rfl) (by decide) ?_
    exact tl_iconst (v := 0) dX6_actionOf_116 ic_0 (tl_iretE dX6_actionOf_117 rfl rfl h)
  replace h := tl_in h c4_112
  by_cases c4_113 : x1.toInt = 113
  · replace h := tl_ip h c4_113
    refine tl_tableIn (off := 115) (tgt := 116) dX6_actionOf_1 (by omega) (by omega) (by rw [c4_113]; rfl) (by decide) ?_
    exact tl_iconst (v := 0) dX6_actionOf_116 ic_0 (tl_iretE dX6_actionOf_117 rfl rfl h)
  replace h := tl_in h c4_113
  by_cases c4_114 : x1.toInt = 114
  · replace h := tl_ip h c4_114
    refine tl_tableIn (off := 115) (tgt := 116) dX6_actionOf_1 (by omega) (by omega) (by rw [c4_114]; rfl) (by decide) ?_
    exact tl_iconst (v := 0) dX6_actionOf_116 ic_0 (tl_iretE dX6_actionOf_117 rfl rfl h)
  replace h := tl_in h c4_114
  by_cases c4_115 : x1.toInt = 115
  · replace h := tl_ip h c4_115
    refine tl_tableIn (off := 101) (tgt := 102) dX6_actionOf_1 (by omega) (by omega) (by rw [c4_115]; rfl) (by decide) ?_
    exact tl_iconst (v := 5) dX6_actionOf_102 ic_5 (tl_iretE dX6_actionOf_103 rfl rfl h)
  replace h := tl_in h c4_115
  have c4_116 : x1.toInt = 116 := by omega
  refine tl_tableIn (off := 112) (tgt := 113) dX6_actionOf_1 (by omega) (by omega) (by rw [c4_116]; rfl) (by decide) ?_
  exact tl_bipush (v := 10) dX6_actionOf_113 bp_10 (tl_iretE dX6_actionOf_115 rfl rfl h)

theorem cs_X6_readNumber_145 : tl_cV mX6_readNumber mX0_putNumber 66 2 := ⟨cd_X0_putNumber, ml_X6_66, im_X0_putNumber, se_X0_putNumber, in_X0, ⟨by decide, by decide, by decide +kernel⟩, Nat.le_of_ble_eq_true rfl, Nat.le_of_ble_eq_true rfl⟩
theorem cs_X6_readNumber_91 : tl_cN mX6_readNumber mX9_isWithin 62 3 := ⟨cd_X9_isWithin, by decide +kernel, sm_X9_isWithin, in_X9, ⟨by decide, by decide, by decide +kernel⟩, Nat.le_of_ble_eq_true rfl, Nat.le_of_ble_eq_true rfl⟩
def f6_readNumber_p29 : Nat → Nat → Nat → Int32 → Int32 → Int32 → Int32 → Int32 → Int32 → Int32 → tl_S → Option (Int32 × tl_S)
  | 0, _, _, _, _, _, _, _, _, _, _ => none
  | fu + 1, a1, a2, x3, x4, x5, x6, x7, x8, x9, u =>
  (if x4 ≤ x9 then tl_b (f0_putNumber a2 x3 x8 u) (fun u13 => some (1, u13)) else (if (u.1 a1 2) < 0 then some (0, u) else (if (u.1 a1 2) < (u.1 a1 1) then tl_g (¬ ((u.1 a1 2) < 0 ∨ 120 ≤ (u.1 a1 2).toNatClampNeg)) (tl_let (((u.1 (a1 + 1) (u.1 a1 2).toNatClampNeg) - 48)) (fun x15 => tl_let (((x8 * 10) + x15)) (fun x16 => tl_let ((x16 * x7)) (fun x17 => tl_b2 (f9_isWithin x15 0 9 u) (fun x20 u19 => (if x20 = 0 then some (0, u19) else (if x6 < x17 then some (0, u19) else (if x5 ≤ ((x17 + x7) - 1) then tl_let ((x7 / 10)) (fun x24 => tl_let ((tl_u u19.1 a1 2 ((u19.1 a1 2) + 1), u19.2) : tl_S) (fun u25 => tl_let (x9 + 1) (fun x26 => f6_readNumber_p29 fu a1 a2 x3 x4 x5 x6 x24 x16 x26 u25))) else some (0, u19))))))))) else some (0, u))))

def f6_readNumber (a0 : Nat) (a1 : Nat) (x2 : Int32) (x3 : Int32) (x4 : Int32) (x5 : Int32) (u : tl_S) : Option (Int32 × tl_S) :=
  (if x3 = 3 then f6_readNumber_p29 tl_F a0 a1 x2 x3 x4 x5 100 0 0 u else (if x3 = 2 then f6_readNumber_p29 tl_F a0 a1 x2 x3 x4 x5 10 0 0 u else f6_readNumber_p29 tl_F a0 a1 x2 x3 x4 x5 1 0 0 u))

theorem l6_readNumber_p29 {E : tl_E}  {r : Int32} {v : tl_S} : ∀ (n : Nat) (a1 : Nat) (a2 : Nat) (x3 : Int32) (x4 : Int32) (x5 : Int32) (x6 : Int32) (x7 : Int32) (x8 : Int32) (x9 : Int32) (u : tl_S) (d9 : Option Value) (d10 : Option Value), tl_T E.2.1 a1 = some 6 → tl_T E.2.1 a2 = some 0 → f6_readNumber_p29 n a1 a2 x3 x4 x5 x6 x7 x8 x9 u = some (r, v) → tl_R E mX6_readNumber tl_X0 (tl_ZB E mX6_readNumber (fun q w => q = some (.int r) ∧ w = v)) 0 0 (tl_HB E u) 29 [some (.ref a1), some (.ref a2), some (.int x3), some (.int x4), some (.int x5), some (.int x6), some (.int x7), some (.int x8), some (.int x9), d9, d10] [] := by
  intro n
  induction n with
  | zero => intro a1 a2 x3 x4 x5 x6 x7 x8 x9 u d9 d10 h1 h2 h; exact absurd h (by simp [f6_readNumber_p29])
  | succ n ih =>
    intro a1 a2 x3 x4 x5 x6 x7 x8 x9 u d9 d10 h1 h2 h
    rw [f6_readNumber_p29] at h
    refine tl_iload dX6_readNumber_29 rfl (tl_iload_n dX6_readNumber_31 rfl (tl_icmp_ge (tgt := 141) dX6_readNumber_32 (by decide) (fun c11 => ?_) (fun c11 => ?_)))
    · replace h := tl_ip h c11
      obtain ⟨u13, e12, h⟩ := tl_bi h
      exact tl_aload_n dX6_readNumber_141 rfl (tl_iload_n dX6_readNumber_142 rfl (tl_iload dX6_readNumber_143 rfl (tl_vV2 tl_ck0 rfl h2 (l0_putNumber h2 e12) dX6_readNumber_145 cs_X6_readNumber_145 ⟨rfl, rfl⟩ ⟨Nat.zero_le _, Nat.zero_le _⟩ (Nat.le_of_ble_eq_true rfl) (tl_iconst (v := 1) dX6_readNumber_148 ic_1 (tl_iretE dX6_readNumber_149 rfl rfl h)))))
    · replace h := tl_in h c11
      refine tl_aload_n dX6_readNumber_35 rfl (tl_geti (f := 2) tl_ck6 dX6_readNumber_36 fl_X6_19 (Nat.le_of_ble_eq_true rfl) rfl h1 (tl_if_lt (tgt := 53) dX6_readNumber_39 (by decide) (fun c12 => ?_) (fun c12 => ?_)))
      · replace h := tl_ip h c12
        exact tl_iconst (v := 0) dX6_readNumber_53 ic_0 (tl_iretE dX6_readNumber_54 rfl rfl h)
      · replace h := tl_in h c12
        refine tl_aload_n dX6_readNumber_42 rfl (tl_geti (f := 2) tl_ck6 dX6_readNumber_43 fl_X6_19 (Nat.le_of_ble_eq_true rfl) rfl h1 (tl_aload_n dX6_readNumber_46 rfl (tl_geti (f := 1) tl_ck6 dX6_readNumber_47 fl_X6_15 (Nat.le_of_ble_eq_true rfl) rfl h1 (tl_icmp_lt (tgt := 55) dX6_readNumber_50 (by decide) (fun c13 => ?_) (fun c13 => ?_)))))
        · replace h := tl_ip h c13
          obtain ⟨g14, h⟩ := tl_gi h
          refine tl_aload_n dX6_readNumber_55 rfl (tl_getr (f := 0) (o := 1) tl_ck6 dX6_readNumber_56 fl_X6_9 (Nat.le_of_ble_eq_true rfl) rfl h1 (tl_aload_n dX6_readNumber_59 rfl (tl_geti (f := 2) tl_ck6 dX6_readNumber_60 fl_X6_19 (Nat.le_of_ble_eq_true rfl) rfl h1 (tl_cald (j := (u.1 a1 2).toNatClampNeg) (fun _ _ => rfl) dX6_readNumber_63 (tt_6_0 h1) g14 rfl (tl_bipush (v := 48) dX6_readNumber_64 bp_48 (tl_isub dX6_readNumber_66 (tl_isto dX6_readNumber_67 (Nat.le_of_ble_eq_true rfl) (fun x15 e => ?_))))))))
          have h := tl_leteq e h
          clear e
          refine tl_iload dX6_readNumber_69 rfl (tl_bipush (v := 10) dX6_readNumber_71 bp_10 (tl_imul dX6_readNumber_73 (tl_iload dX6_readNumber_74 rfl (tl_iadd dX6_readNumber_76 (tl_isto dX6_readNumber_77 (Nat.le_of_ble_eq_true rfl) (fun x16 e => ?_))))))
          have h := tl_leteq e h
          clear e
          refine tl_iload dX6_readNumber_79 rfl (tl_iload dX6_readNumber_81 rfl (tl_imul dX6_readNumber_83 (tl_isto dX6_readNumber_84 (Nat.le_of_ble_eq_true rfl) (fun x17 e => ?_))))
          have h := tl_leteq e h
          clear e
          obtain ⟨x20, u19, e18, h⟩ := tl_b2i h
          refine tl_iload dX6_readNumber_86 rfl (tl_iconst (v := 0) dX6_readNumber_88 ic_0 (tl_bipush (v := 9) dX6_readNumber_89 bp_9 (tl_iN3 (l9_isWithin  e18) dX6_readNumber_91 cs_X6_readNumber_91 ⟨rfl, rfl⟩ ⟨Nat.zero_le _, Nat.zero_le _⟩ (Nat.le_of_ble_eq_true rfl) (tl_if_eq (tgt := 116) dX6_readNumber_94 (by decide) (fun c21 => ?_) (fun c21 => ?_)))))
          · replace h := tl_ip h c21
            exact tl_iconst (v := 0) dX6_readNumber_116 ic_0 (tl_iretE dX6_readNumber_117 rfl rfl h)
          · replace h := tl_in h c21
            refine tl_iload dX6_readNumber_97 rfl (tl_iload dX6_readNumber_99 rfl (tl_icmp_gt (tgt := 116) dX6_readNumber_101 (by decide) (fun c22 => ?_) (fun c22 => ?_)))
            · replace h := tl_ip h c22
              exact tl_iconst (v := 0) dX6_readNumber_116 ic_0 (tl_iretE dX6_readNumber_117 rfl rfl h)
            · replace h := tl_in h c22
              refine tl_iload dX6_readNumber_104 rfl (tl_iload dX6_readNumber_106 rfl (tl_iadd dX6_readNumber_108 (tl_iconst (v := 1) dX6_readNumber_109 ic_1 (tl_isub dX6_readNumber_110 (tl_iload dX6_readNumber_111 rfl (tl_icmp_ge (tgt := 118) dX6_readNumber_113 (by decide) (fun c23 => ?_) (fun c23 => ?_)))))))
              · replace h := tl_ip h c23
                refine tl_iload dX6_readNumber_118 rfl (tl_bipush (v := 10) dX6_readNumber_120 bp_10 (tl_idiv dX6_readNumber_122 (by decide) (tl_isto dX6_readNumber_123 (Nat.le_of_ble_eq_true rfl) (fun x24 e => ?_))))
                have h := tl_leteq e h
                clear e
                refine tl_aload_n dX6_readNumber_125 rfl (tl_dup dX6_readNumber_126 rfl (tl_geti (f := 2) tl_ck6 dX6_readNumber_127 fl_X6_19 (Nat.le_of_ble_eq_true rfl) rfl h1 (tl_iconst (v := 1) dX6_readNumber_130 ic_1 (tl_iadd dX6_readNumber_131 (tl_puti (f := 2) tl_ck6 dX6_readNumber_132 fl_X6_19 (Nat.le_of_ble_eq_true rfl) rfl rfl rfl h1 (fun u25 e => ?_))))))
                have h := tl_leteq e h
                clear e
                refine tl_iincK dX6_readNumber_135 rfl (ii_1 _) (Nat.le_of_ble_eq_true rfl) (fun x26 e => ?_)
                have h := tl_leteq e h
                clear e
                refine tl_goto (tgt := 29) dX6_readNumber_138 (by decide) (?_)
                exact ih _ _ _ _ _ _ _ _ _ _ _ _ h1 h2 h
              · replace h := tl_in h c23
                exact tl_iconst (v := 0) dX6_readNumber_116 ic_0 (tl_iretE dX6_readNumber_117 rfl rfl h)
        · replace h := tl_in h c13
          exact tl_iconst (v := 0) dX6_readNumber_53 ic_0 (tl_iretE dX6_readNumber_54 rfl rfl h)

theorem l6_readNumber {E : tl_E} {a0 : Nat} {a1 : Nat} {x2 : Int32} {x3 : Int32} {x4 : Int32} {x5 : Int32}  {u : tl_S} {r : Int32} {v : tl_S} (h0 : tl_T E.2.1 a0 = some 6) (h1 : tl_T E.2.1 a1 = some 0) (h : f6_readNumber a0 a1 x2 x3 x4 x5 u = some (r, v)) : tl_MB E mX6_readNumber [.ref a0, .ref a1, .int x2, .int x3, .int x4, .int x5] u (fun q w => q = some (.int r) ∧ w = v) := by
  unfold f6_readNumber at h
  refine tl_start [some (.ref a0), some (.ref a1), some (.int x2), some (.int x3), some (.int x4), some (.int x5), none, none, none, none, none] rfl rfl rfl (Nat.le_of_ble_eq_true rfl) ?_
  refine tl_iload_n dX6_readNumber_0 rfl (tl_iconst (v := 3) dX6_readNumber_1 ic_3 (tl_icmp_ne (tgt := 10) dX6_readNumber_2 (by decide) (fun c7 => ?_) (fun c7 => ?_)))
  · replace h := tl_in h c7
    refine tl_iload_n dX6_readNumber_10 rfl (tl_iconst (v := 2) dX6_readNumber_11 ic_2 (tl_icmp_ne (tgt := 20) dX6_readNumber_12 (by decide) (fun c8 => ?_) (fun c8 => ?_)))
    · replace h := tl_in h c8
      refine tl_iconst (v := 1) dX6_readNumber_20 ic_1 (tl_istore dX6_readNumber_21 (Nat.le_of_ble_eq_true rfl) (tl_iconst (v := 0) dX6_readNumber_23 ic_0 (tl_istore dX6_readNumber_24 (Nat.le_of_ble_eq_true rfl) (tl_iconst (v := 0) dX6_readNumber_26 ic_0 (tl_istore dX6_readNumber_27 (Nat.le_of_ble_eq_true rfl) (?_))))))
      exact l6_readNumber_p29 tl_F _ _ _ _ _ _ _ _ _ _ _ _ h0 h1 h
    · replace h := tl_ip h c8
      refine tl_bipush (v := 10) dX6_readNumber_15 bp_10 (tl_goto (tgt := 21) dX6_readNumber_17 (by decide) (tl_istore dX6_readNumber_21 (Nat.le_of_ble_eq_true rfl) (tl_iconst (v := 0) dX6_readNumber_23 ic_0 (tl_istore dX6_readNumber_24 (Nat.le_of_ble_eq_true rfl) (tl_iconst (v := 0) dX6_readNumber_26 ic_0 (tl_istore dX6_readNumber_27 (Nat.le_of_ble_eq_true rfl) (?_)))))))
      exact l6_readNumber_p29 tl_F _ _ _ _ _ _ _ _ _ _ _ _ h0 h1 h
  · replace h := tl_ip h c7
    refine tl_bipush (v := 100) dX6_readNumber_5 bp_100 (tl_goto (tgt := 21) dX6_readNumber_7 (by decide) (tl_istore dX6_readNumber_21 (Nat.le_of_ble_eq_true rfl) (tl_iconst (v := 0) dX6_readNumber_23 ic_0 (tl_istore dX6_readNumber_24 (Nat.le_of_ble_eq_true rfl) (tl_iconst (v := 0) dX6_readNumber_26 ic_0 (tl_istore dX6_readNumber_27 (Nat.le_of_ble_eq_true rfl) (?_)))))))
    exact l6_readNumber_p29 tl_F _ _ _ _ _ _ _ _ _ _ _ _ h0 h1 h

theorem cs_X6_readCell_7 : tl_cV mX6_readCell mX6_readNumber 45 5 := ⟨cd_X6_readNumber, ml_X6_45, im_X6_readNumber, se_X6_readNumber, in_X6, ⟨by decide, by decide, by decide +kernel⟩, Nat.le_of_ble_eq_true rfl, Nat.le_of_ble_eq_true rfl⟩
def f6_readCell (a0 : Nat) (a1 : Nat) (x2 : Int32) (u : tl_S) : Option (Int32 × tl_S) :=
  tl_b2 (f6_readNumber a0 a1 x2 2 0 59 u) (fun x6 u5 => tl_g (x6 = 0 ∨ x6 = 1) (some (x6, u5)))

theorem l6_readCell {E : tl_E} {a0 : Nat} {a1 : Nat} {x2 : Int32}  {u : tl_S} {r : Int32} {v : tl_S} (h0 : tl_T E.2.1 a0 = some 6) (h1 : tl_T E.2.1 a1 = some 0) (h : f6_readCell a0 a1 x2 u = some (r, v)) : tl_MB E mX6_readCell [.ref a0, .ref a1, .int x2] u (fun q w => q = some (.int r) ∧ w = v) := by
  unfold f6_readCell at h
  refine tl_start [some (.ref a0), some (.ref a1), some (.int x2)] rfl rfl rfl (Nat.le_of_ble_eq_true rfl) ?_
  obtain ⟨x6, u5, e4, h⟩ := tl_b2i h
  obtain ⟨g7, h⟩ := tl_gi h
  exact tl_aload_n dX6_readCell_0 rfl (tl_aload_n dX6_readCell_1 rfl (tl_iload_n dX6_readCell_2 rfl (tl_iconst (v := 2) dX6_readCell_3 ic_2 (tl_iconst (v := 0) dX6_readCell_4 ic_0 (tl_bipush (v := 59) dX6_readCell_5 bp_59 (tl_iV5 tl_ck6 rfl h0 (l6_readNumber h0 h1 e4) dX6_readCell_7 cs_X6_readCell_7 ⟨rfl, rfl⟩ ⟨Nat.zero_le _, Nat.zero_le _⟩ (Nat.le_of_ble_eq_true rfl) (tl_iretE dX6_readCell_10 rfl (tl_nB g7).1 h)))))))

theorem cs_X6_readGallery_6 : tl_cV mX6_readGallery mX6_readNumber 45 5 := ⟨cd_X6_readNumber, ml_X6_45, im_X6_readNumber, se_X6_readNumber, in_X6, ⟨by decide, by decide, by decide +kernel⟩, Nat.le_of_ble_eq_true rfl, Nat.le_of_ble_eq_true rfl⟩
def f6_readGallery (a0 : Nat) (a1 : Nat) (x2 : Int32) (u : tl_S) : Option (Int32 × tl_S) :=
  tl_b2 (f6_readNumber a0 a1 x2 1 0 2 u) (fun x6 u5 => tl_g (x6 = 0 ∨ x6 = 1) (some (x6, u5)))

theorem l6_readGallery {E : tl_E} {a0 : Nat} {a1 : Nat} {x2 : Int32}  {u : tl_S} {r : Int32} {v : tl_S} (h0 : tl_T E.2.1 a0 = some 6) (h1 : tl_T E.2.1 a1 = some 0) (h : f6_readGallery a0 a1 x2 u = some (r, v)) : tl_MB E mX6_readGallery [.ref a0, .ref a1, .int x2] u (fun q w => q = some (.int r) ∧ w = v) := by
  unfold f6_readGallery at h
  refine tl_start [some (.ref a0), some (.ref a1), some (.int x2)] rfl rfl rfl (Nat.le_of_ble_eq_true rfl) ?_
  obtain ⟨x6, u5, e4, h⟩ := tl_b2i h
  obtain ⟨g7, h⟩ := tl_gi h
  exact tl_aload_n dX6_readGallery_0 rfl (tl_aload_n dX6_readGallery_1 rfl (tl_iload_n dX6_readGallery_2 rfl (tl_iconst (v := 1) dX6_readGallery_3 ic_1 (tl_iconst (v := 0) dX6_readGallery_4 ic_0 (tl_iconst (v := 2) dX6_readGallery_5 ic_2 (tl_iV5 tl_ck6 rfl h0 (l6_readNumber h0 h1 e4) dX6_readGallery_6 cs_X6_readGallery_6 ⟨rfl, rfl⟩ ⟨Nat.zero_le _, Nat.zero_le _⟩ (Nat.le_of_ble_eq_true rfl) (tl_iretE dX6_readGallery_9 rfl (tl_nB g7).1 h)))))))

theorem cs_X6_readLamp_7 : tl_cV mX6_readLamp mX6_readNumber 45 5 := ⟨cd_X6_readNumber, ml_X6_45, im_X6_readNumber, se_X6_readNumber, in_X6, ⟨by decide, by decide, by decide +kernel⟩, Nat.le_of_ble_eq_true rfl, Nat.le_of_ble_eq_true rfl⟩
def f6_readLamp (a0 : Nat) (a1 : Nat) (u : tl_S) : Option (Int32 × tl_S) :=
  tl_b2 (f6_readNumber a0 a1 0 1 0 7 u) (fun x5 u4 => tl_g (x5 = 0 ∨ x5 = 1) (some (x5, u4)))

theorem l6_readLamp {E : tl_E} {a0 : Nat} {a1 : Nat}  {u : tl_S} {r : Int32} {v : tl_S} (h0 : tl_T E.2.1 a0 = some 6) (h1 : tl_T E.2.1 a1 = some 0) (h : f6_readLamp a0 a1 u = some (r, v)) : tl_MB E mX6_readLamp [.ref a0, .ref a1] u (fun q w => q = some (.int r) ∧ w = v) := by
  unfold f6_readLamp at h
  refine tl_start [some (.ref a0), some (.ref a1)] rfl rfl rfl (Nat.le_of_ble_eq_true rfl) ?_
  obtain ⟨x5, u4, e3, h⟩ := tl_b2i h
  obtain ⟨g6, h⟩ := tl_gi h
  exact tl_aload_n dX6_readLamp_0 rfl (tl_aload_n dX6_readLamp_1 rfl (tl_iconst (v := 0) dX6_readLamp_2 ic_0 (tl_iconst (v := 1) dX6_readLamp_3 ic_1 (tl_iconst (v := 0) dX6_readLamp_4 ic_0 (tl_bipush (v := 7) dX6_readLamp_5 bp_7 (tl_iV5 tl_ck6 rfl h0 (l6_readNumber h0 h1 e3) dX6_readLamp_7 cs_X6_readLamp_7 ⟨rfl, rfl⟩ ⟨Nat.zero_le _, Nat.zero_le _⟩ (Nat.le_of_ble_eq_true rfl) (tl_iretE dX6_readLamp_10 rfl (tl_nB g6).1 h)))))))

theorem cs_X6_readNumbers_237 : tl_cV mX6_readNumbers mX6_readNumber 45 5 := ⟨cd_X6_readNumber, ml_X6_45, im_X6_readNumber, se_X6_readNumber, in_X6, ⟨by decide, by decide, by decide +kernel⟩, Nat.le_of_ble_eq_true rfl, Nat.le_of_ble_eq_true rfl⟩
theorem cs_X6_readNumbers_63 : tl_cV mX6_readNumbers mX6_readNumber 45 5 := ⟨cd_X6_readNumber, ml_X6_45, im_X6_readNumber, se_X6_readNumber, in_X6, ⟨by decide, by decide, by decide +kernel⟩, Nat.le_of_ble_eq_true rfl, Nat.le_of_ble_eq_true rfl⟩
theorem cs_X6_readNumbers_70 : tl_cV mX6_readNumbers mX6_readGallery 49 2 := ⟨cd_X6_readGallery, ml_X6_49, im_X6_readGallery, se_X6_readGallery, in_X6, ⟨by decide, by decide, by decide +kernel⟩, Nat.le_of_ble_eq_true rfl, Nat.le_of_ble_eq_true rfl⟩
theorem cs_X6_readNumbers_82 : tl_cV mX6_readNumbers mX6_readNumber 45 5 := ⟨cd_X6_readNumber, ml_X6_45, im_X6_readNumber, se_X6_readNumber, in_X6, ⟨by decide, by decide, by decide +kernel⟩, Nat.le_of_ble_eq_true rfl, Nat.le_of_ble_eq_true rfl⟩
theorem cs_X6_readNumbers_97 : tl_cV mX6_readNumbers mX6_readGallery 49 2 := ⟨cd_X6_readGallery, ml_X6_49, im_X6_readGallery, se_X6_readGallery, in_X6, ⟨by decide, by decide, by decide +kernel⟩, Nat.le_of_ble_eq_true rfl, Nat.le_of_ble_eq_true rfl⟩
theorem cs_X6_readNumbers_106 : tl_cV mX6_readNumbers mX6_readCell 53 2 := ⟨cd_X6_readCell, ml_X6_53, im_X6_readCell, se_X6_readCell, in_X6, ⟨by decide, by decide, by decide +kernel⟩, Nat.le_of_ble_eq_true rfl, Nat.le_of_ble_eq_true rfl⟩
theorem cs_X6_readNumbers_119 : tl_cV mX6_readNumbers mX6_readNumber 45 5 := ⟨cd_X6_readNumber, ml_X6_45, im_X6_readNumber, se_X6_readNumber, in_X6, ⟨by decide, by decide, by decide +kernel⟩, Nat.le_of_ble_eq_true rfl, Nat.le_of_ble_eq_true rfl⟩
theorem cs_X6_readNumbers_132 : tl_cV mX6_readNumbers mX6_readNumber 45 5 := ⟨cd_X6_readNumber, ml_X6_45, im_X6_readNumber, se_X6_readNumber, in_X6, ⟨by decide, by decide, by decide +kernel⟩, Nat.le_of_ble_eq_true rfl, Nat.le_of_ble_eq_true rfl⟩
theorem cs_X6_readNumbers_152 : tl_cV mX6_readNumbers mX6_readNumber 45 5 := ⟨cd_X6_readNumber, ml_X6_45, im_X6_readNumber, se_X6_readNumber, in_X6, ⟨by decide, by decide, by decide +kernel⟩, Nat.le_of_ble_eq_true rfl, Nat.le_of_ble_eq_true rfl⟩
theorem cs_X6_readNumbers_158 : tl_cV mX6_readNumbers mX6_readLamp 56 1 := ⟨cd_X6_readLamp, ml_X6_56, im_X6_readLamp, se_X6_readLamp, in_X6, ⟨by decide, by decide, by decide +kernel⟩, Nat.le_of_ble_eq_true rfl, Nat.le_of_ble_eq_true rfl⟩
theorem cs_X6_readNumbers_167 : tl_cV mX6_readNumbers mX6_readGallery 49 2 := ⟨cd_X6_readGallery, ml_X6_49, im_X6_readGallery, se_X6_readGallery, in_X6, ⟨by decide, by decide, by decide +kernel⟩, Nat.le_of_ble_eq_true rfl, Nat.le_of_ble_eq_true rfl⟩
theorem cs_X6_readNumbers_176 : tl_cV mX6_readNumbers mX6_readCell 53 2 := ⟨cd_X6_readCell, ml_X6_53, im_X6_readCell, se_X6_readCell, in_X6, ⟨by decide, by decide, by decide +kernel⟩, Nat.le_of_ble_eq_true rfl, Nat.le_of_ble_eq_true rfl⟩
theorem cs_X6_readNumbers_190 : tl_cV mX6_readNumbers mX6_readLamp 56 1 := ⟨cd_X6_readLamp, ml_X6_56, im_X6_readLamp, se_X6_readLamp, in_X6, ⟨by decide, by decide, by decide +kernel⟩, Nat.le_of_ble_eq_true rfl, Nat.le_of_ble_eq_true rfl⟩
theorem cs_X6_readNumbers_203 : tl_cV mX6_readNumbers mX6_readNumber 45 5 := ⟨cd_X6_readNumber, ml_X6_45, im_X6_readNumber, se_X6_readNumber, in_X6, ⟨by decide, by decide, by decide +kernel⟩, Nat.le_of_ble_eq_true rfl, Nat.le_of_ble_eq_true rfl⟩
theorem cs_X6_readNumbers_226 : tl_cV mX6_readNumbers mX6_readNumber 45 5 := ⟨cd_X6_readNumber, ml_X6_45, im_X6_readNumber, se_X6_readNumber, in_X6, ⟨by decide, by decide, by decide +kernel⟩, Nat.le_of_ble_eq_true rfl, Nat.le_of_ble_eq_true rfl⟩
def f6_readNumbers (a0 : Nat) (a1 : Nat) (u : tl_S) : Option (Int32 × tl_S) :=
  (if ((u.1 a1 0)).toInt < 1 ∨ 9 < ((u.1 a1 0)).toInt then tl_b2 (f6_readNumber a0 a1 0 2 1 60 u) (fun x7 u6 => tl_g (x7 = 0 ∨ x7 = 1) (some (x7, u6))) else (if ((u.1 a1 0)).toInt = 1 then tl_b2 (f6_readNumber a0 a1 0 2 1 60 u) (fun x7 u6 => tl_g (x7 = 0 ∨ x7 = 1) (some (x7, u6))) else (if ((u.1 a1 0)).toInt = 2 then tl_b2 (f6_readGallery a0 a1 0 u) (fun x7 u6 => (if x7 = 0 then some (0, u6) else tl_b2 (f6_readNumber a0 a1 1 1 1 5 u6) (fun x11 u10 => (if x11 = 0 then some (0, u10) else some (1, u10))))) else (if ((u.1 a1 0)).toInt = 3 then tl_b2 (f6_readNumber a0 a1 0 2 1 60 u) (fun x7 u6 => tl_g (x7 = 0 ∨ x7 = 1) (some (x7, u6))) else (if ((u.1 a1 0)).toInt = 4 then tl_b2 (f6_readGallery a0 a1 0 u) (fun x7 u6 => (if x7 = 0 then some (0, u6) else tl_b2 (f6_readCell a0 a1 1 u6) (fun x11 u10 => (if x11 = 0 then some (0, u10) else tl_b2 (f6_readNumber a0 a1 2 1 1 9 u10) (fun x15 u14 => (if x15 = 0 then some (0, u14) else tl_b2 (f6_readNumber a0 a1 3 2 0 99 u14) (fun x19 u18 => (if x19 = 0 then some (0, u18) else some (1, u18))))))))) else (if ((u.1 a1 0)).toInt = 5 then tl_b2 (f6_readNumber a0 a1 0 3 0 999 u) (fun x7 u6 => tl_g (x7 = 0 ∨ x7 = 1) (some (x7, u6))) else (if ((u.1 a1 0)).toInt = 6 then tl_b2 (f6_readLamp a0 a1 u) (fun x7 u6 => (if x7 = 0 then some (0, u6) else tl_b2 (f6_readGallery a0 a1 1 u6) (fun x11 u10 => (if x11 = 0 then some (0, u10) else tl_b2 (f6_readCell a0 a1 2 u10) (fun x15 u14 => (if x15 = 0 then some (0, u14) else some (1, u14))))))) else (if ((u.1 a1 0)).toInt = 7 then tl_b2 (f6_readLamp a0 a1 u) (fun x7 u6 => (if x7 = 0 then some (0, u6) else tl_b2 (f6_readNumber a0 a1 1 2 1 99 u6) (fun x11 u10 => (if x11 = 0 then some (0, u10) else some (1, u10))))) else (if ((u.1 a1 0)).toInt = 8 then tl_b2 (f6_readNumber a0 a1 0 2 1 60 u) (fun x7 u6 => tl_g (x7 = 0 ∨ x7 = 1) (some (x7, u6))) else tl_let ((tl_u u.1 a1 1 1, u.2) : tl_S) (fun u5 => tl_b2 (f6_readNumber a0 a1 1 1 0 1 u5) (fun x8 u7 => tl_g (x8 = 0 ∨ x8 = 1) (some (x8, u7)))))))))))))

theorem l6_readNumbers {E : tl_E} {a0 : Nat} {a1 : Nat}  {u : tl_S} {r : Int32} {v : tl_S} (h0 : tl_T E.2.1 a0 = some 6) (h1 : tl_T E.2.1 a1 = some 0) (h : f6_readNumbers a0 a1 u = some (r, v)) : tl_MB E mX6_readNumbers [.ref a0, .ref a1] u (fun q w => q = some (.int r) ∧ w = v) := by
  unfold f6_readNumbers at h
  refine tl_start [some (.ref a0), some (.ref a1)] rfl rfl rfl (Nat.le_of_ble_eq_true rfl) ?_
  refine tl_aload_n dX6_readNumbers_0 rfl (tl_geti (f := 0) tl_ck0 dX6_readNumbers_1 fl_X6_29 (Nat.le_of_ble_eq_true rfl) rfl h1 (?_))
  by_cases c3 : ((u.1 a1 0)).toInt < 1 ∨ 9 < ((u.1 a1 0)).toInt
  · replace h := tl_ip h c3
    refine tl_tableOut (tgt := 230) dX6_readNumbers_4 c3 (by decide) ?_
    obtain ⟨x7, u6, e5, h⟩ := tl_b2i h
    obtain ⟨g8, h⟩ := tl_gi h
    exact tl_aload_n dX6_readNumbers_230 rfl (tl_aload_n dX6_readNumbers_231 rfl (tl_iconst (v := 0) dX6_readNumbers_232 ic_0 (tl_iconst (v := 2) dX6_readNumbers_233 ic_2 (tl_iconst (v := 1) dX6_readNumbers_234 ic_1 (tl_bipush (v := 60) dX6_readNumbers_235 bp_60 (tl_iV5 tl_ck6 rfl h0 (l6_readNumber h0 h1 e5) dX6_readNumbers_237 cs_X6_readNumbers_237 ⟨rfl, rfl⟩ ⟨Nat.zero_le _, Nat.zero_le _⟩ (Nat.le_of_ble_eq_true rfl) (tl_iretE dX6_readNumbers_240 rfl (tl_nB g8).1 h)))))))
  replace h := tl_in h c3
  by_cases c4_1 : ((u.1 a1 0)).toInt = 1
  · replace h := tl_ip h c4_1
    refine tl_tableIn (off := 52) (tgt := 56) dX6_readNumbers_4 (by omega) (by omega) (by rw [c4_1]; rfl) (by decide) ?_
    obtain ⟨x7, u6, e5, h⟩ := tl_b2i h
    obtain ⟨g8, h⟩ := tl_gi h
    exact tl_aload_n dX6_readNumbers_56 rfl (tl_aload_n dX6_readNumbers_57 rfl (tl_iconst (v := 0) dX6_readNumbers_58 ic_0 (tl_iconst (v := 2) dX6_readNumbers_59 ic_2 (tl_iconst (v := 1) dX6_readNumbers_60 ic_1 (tl_bipush (v := 60) dX6_readNumbers_61 bp_60 (tl_iV5 tl_ck6 rfl h0 (l6_readNumber h0 h1 e5) dX6_readNumbers_63 cs_X6_readNumbers_63 ⟨rfl, rfl⟩ ⟨Nat.zero_le _, Nat.zero_le _⟩ (Nat.le_of_ble_eq_true rfl) (tl_iretE dX6_readNumbers_66 rfl (tl_nB g8).1 h)))))))
  replace h := tl_in h c4_1
  by_cases c4_2 : ((u.1 a1 0)).toInt = 2
  · replace h := tl_ip h c4_2
    refine tl_tableIn (off := 63) (tgt := 67) dX6_readNumbers_4 (by omega) (by omega) (by rw [c4_2]; rfl) (by decide) ?_
    obtain ⟨x7, u6, e5, h⟩ := tl_b2i h
    refine tl_aload_n dX6_readNumbers_67 rfl (tl_aload_n dX6_readNumbers_68 rfl (tl_iconst (v := 0) dX6_readNumbers_69 ic_0 (tl_iV2 tl_ck6 rfl h0 (l6_readGallery h0 h1 e5) dX6_readNumbers_70 cs_X6_readNumbers_70 ⟨rfl, rfl⟩ ⟨Nat.zero_le _, Nat.zero_le _⟩ (Nat.le_of_ble_eq_true rfl) (tl_if_eq (tgt := 92) dX6_readNumbers_73 (by decide) (fun c8 => ?_) (fun c8 => ?_)))))
    · replace h := tl_ip h c8
      exact tl_iconst (v := 0) dX6_readNumbers_92 ic_0 (tl_iretE dX6_readNumbers_93 rfl rfl h)
    · replace h := tl_in h c8
      obtain ⟨x11, u10, e9, h⟩ := tl_b2i h
      refine tl_aload_n dX6_readNumbers_76 rfl (tl_aload_n dX6_readNumbers_77 rfl (tl_iconst (v := 1) dX6_readNumbers_78 ic_1 (tl_iconst (v := 1) dX6_readNumbers_79 ic_1 (tl_iconst (v := 1) dX6_readNumbers_80 ic_1 (tl_iconst (v := 5) dX6_readNumbers_81 ic_5 (tl_iV5 tl_ck6 rfl h0 (l6_readNumber h0 h1 e9) dX6_readNumbers_82 cs_X6_readNumbers_82 ⟨rfl, rfl⟩ ⟨Nat.zero_le _, Nat.zero_le _⟩ (Nat.le_of_ble_eq_true rfl) (tl_if_eq (tgt := 92) dX6_readNumbers_85 (by decide) (fun c12 => ?_) (fun c12 => ?_))))))))
      · replace h := tl_ip h c12
        exact tl_iconst (v := 0) dX6_readNumbers_92 ic_0 (tl_iretE dX6_readNumbers_93 rfl rfl h)
      · replace h := tl_in h c12
        exact tl_iconst (v := 1) dX6_readNumbers_88 ic_1 (tl_goto (tgt := 93) dX6_readNumbers_89 (by decide) (tl_iretE dX6_readNumbers_93 rfl rfl h))
  replace h := tl_in h c4_2
  by_cases c4_3 : ((u.1 a1 0)).toInt = 3
  · replace h := tl_ip h c4_3
    refine tl_tableIn (off := 226) (tgt := 230) dX6_readNumbers_4 (by omega) (by omega) (by rw [c4_3]; rfl) (by decide) ?_
    obtain ⟨x7, u6, e5, h⟩ := tl_b2i h
    obtain ⟨g8, h⟩ := tl_gi h
    exact tl_aload_n dX6_readNumbers_230 rfl (tl_aload_n dX6_readNumbers_231 rfl (tl_iconst (v := 0) dX6_readNumbers_232 ic_0 (tl_iconst (v := 2) dX6_readNumbers_233 ic_2 (tl_iconst (v := 1) dX6_readNumbers_234 ic_1 (tl_bipush (v := 60) dX6_readNumbers_235 bp_60 (tl_iV5 tl_ck6 rfl h0 (l6_readNumber h0 h1 e5) dX6_readNumbers_237 cs_X6_readNumbers_237 ⟨rfl, rfl⟩ ⟨Nat.zero_le _, Nat.zero_le _⟩ (Nat.le_of_ble_eq_true rfl) (tl_iretE dX6_readNumbers_240 rfl (tl_nB g8).1 h)))))))
  replace h := tl_in h c4_3
  by_cases c4_4 : ((u.1 a1 0)).toInt = 4
  · replace h := tl_ip h c4_4
    refine tl_tableIn (off := 90) (tgt := 94) dX6_readNumbers_4 (by omega) (by omega) (by rw [c4_4]; rfl) (by decide) ?_
    obtain ⟨x7, u6, e5, h⟩ := tl_b2i h
    refine tl_aload_n dX6_readNumbers_94 rfl (tl_aload_n dX6_readNumbers_95 rfl (tl_iconst (v := 0) dX6_readNumbers_96 ic_0 (tl_iV2 tl_ck6 rfl h0 (l6_readGallery h0 h1 e5) dX6_readNumbers_97 cs_X6_readNumbers_97 ⟨rfl, rfl⟩ ⟨Nat.zero_le _, Nat.zero_le _⟩ (Nat.le_of_ble_eq_true rfl) (tl_if_eq (tgt := 142) dX6_readNumbers_100 (by decide) (fun c8 => ?_) (fun c8 => ?_)))))
    · replace h := tl_ip h c8
      exact tl_iconst (v := 0) dX6_readNumbers_142 ic_0 (tl_iretE dX6_readNumbers_143 rfl rfl h)
    · replace h := tl_in h c8
      obtain ⟨x11, u10, e9, h⟩ := tl_b2i h
      refine tl_aload_n dX6_readNumbers_103 rfl (tl_aload_n dX6_readNumbers_104 rfl (tl_iconst (v := 1) dX6_readNumbers_105 ic_1 (tl_iV2 tl_ck6 rfl h0 (l6_readCell h0 h1 e9) dX6_readNumbers_106 cs_X6_readNumbers_106 ⟨rfl, rfl⟩ ⟨Nat.zero_le _, Nat.zero_le _⟩ (Nat.le_of_ble_eq_true rfl) (tl_if_eq (tgt := 142) dX6_readNumbers_109 (by decide) (fun c12 => ?_) (fun c12 => ?_)))))
      · replace h := tl_ip h c12
        exact tl_iconst (v := 0) dX6_readNumbers_142 ic_0 (tl_iretE dX6_readNumbers_143 rfl rfl h)
      · replace h := tl_in h c12
        obtain ⟨x15, u14, e13, h⟩ := tl_b2i h
        refine tl_aload_n dX6_readNumbers_112 rfl (tl_aload_n dX6_readNumbers_113 rfl (tl_iconst (v := 2) dX6_readNumbers_114 ic_2 (tl_iconst (v := 1) dX6_readNumbers_115 ic_1 (tl_iconst (v := 1) dX6_readNumbers_116 ic_1 (tl_bipush (v := 9) dX6_readNumbers_117 bp_9 (tl_iV5 tl_ck6 rfl h0 (l6_readNumber h0 h1 e13) dX6_readNumbers_119 cs_X6_readNumbers_119 ⟨rfl, rfl⟩ ⟨Nat.zero_le _, Nat.zero_le _⟩ (Nat.le_of_ble_eq_true rfl) (tl_if_eq (tgt := 142) dX6_readNumbers_122 (by decide) (fun c16 => ?_) (fun c16 => ?_))))))))
        · replace h := tl_ip h c16
          exact tl_iconst (v := 0) dX6_readNumbers_142 ic_0 (tl_iretE dX6_readNumbers_143 rfl rfl h)
        · replace h := tl_in h c16
          obtain ⟨x19, u18, e17, h⟩ := tl_b2i h
          refine tl_aload_n dX6_readNumbers_125 rfl (tl_aload_n dX6_readNumbers_126 rfl (tl_iconst (v := 3) dX6_readNumbers_127 ic_3 (tl_iconst (v := 2) dX6_readNumbers_128 ic_2 (tl_iconst (v := 0) dX6_readNumbers_129 ic_0 (tl_bipush (v := 99) dX6_readNumbers_130 bp_99 (tl_iV5 tl_ck6 rfl h0 (l6_readNumber h0 h1 e17) dX6_readNumbers_132 cs_X6_readNumbers_132 ⟨rfl, rfl⟩ ⟨Nat.zero_le _, Nat.zero_le _⟩ (Nat.le_of_ble_eq_true rfl) (tl_if_eq (tgt := 142) dX6_readNumbers_135 (by decide) (fun c20 => ?_) (fun c20 => ?_))))))))
          · replace h := tl_ip h c20
            exact tl_iconst (v := 0) dX6_readNumbers_142 ic_0 (tl_iretE dX6_readNumbers_143 rfl rfl h)
          · replace h := tl_in h c20
            exact tl_iconst (v := 1) dX6_readNumbers_138 ic_1 (tl_goto (tgt := 143) dX6_readNumbers_139 (by decide) (tl_iretE dX6_readNumbers_143 rfl rfl h))
  replace h := tl_in h c4_4
  by_cases c4_5 : ((u.1 a1 0)).toInt = 5
  · replace h := tl_ip h c4_5
    refine tl_tableIn (off := 140) (tgt := 144) dX6_readNumbers_4 (by omega) (by omega) (by rw [c4_5]; rfl) (by decide) ?_
    obtain ⟨x7, u6, e5, h⟩ := tl_b2i h
    obtain ⟨g8, h⟩ := tl_gi h
    exact tl_aload_n dX6_readNumbers_144 rfl (tl_aload_n dX6_readNumbers_145 rfl (tl_iconst (v := 0) dX6_readNumbers_146 ic_0 (tl_iconst (v := 3) dX6_readNumbers_147 ic_3 (tl_iconst (v := 0) dX6_readNumbers_148 ic_0 (tl_sipush (v := 999) dX6_readNumbers_149 sp_999 (tl_iV5 tl_ck6 rfl h0 (l6_readNumber h0 h1 e5) dX6_readNumbers_152 cs_X6_readNumbers_152 ⟨rfl, rfl⟩ ⟨Nat.zero_le _, Nat.zero_le _⟩ (Nat.le_of_ble_eq_true rfl) (tl_iretE dX6_readNumbers_155 rfl (tl_nB g8).1 h)))))))
  replace h := tl_in h c4_5
  by_cases c4_6 : ((u.1 a1 0)).toInt = 6
  · replace h := tl_ip h c4_6
    refine tl_tableIn (off := 152) (tgt := 156) dX6_readNumbers_4 (by omega) (by omega) (by rw [c4_6]; rfl) (by decide) ?_
    obtain ⟨x7, u6, e5, h⟩ := tl_b2i h
    refine tl_aload_n dX6_readNumbers_156 rfl (tl_aload_n dX6_readNumbers_157 rfl (tl_iV1 tl_ck6 rfl h0 (l6_readLamp h0 h1 e5) dX6_readNumbers_158 cs_X6_readNumbers_158 ⟨rfl, rfl⟩ ⟨Nat.zero_le _, Nat.zero_le _⟩ (Nat.le_of_ble_eq_true rfl) (tl_if_eq (tgt := 186) dX6_readNumbers_161 (by decide) (fun c8 => ?_) (fun c8 => ?_))))
    · replace h := tl_ip h c8
      exact tl_iconst (v := 0) dX6_readNumbers_186 ic_0 (tl_iretE dX6_readNumbers_187 rfl rfl h)
    · replace h := tl_in h c8
      obtain ⟨x11, u10, e9, h⟩ := tl_b2i h
      refine tl_aload_n dX6_readNumbers_164 rfl (tl_aload_n dX6_readNumbers_165 rfl (tl_iconst (v := 1) dX6_readNumbers_166 ic_1 (tl_iV2 tl_ck6 rfl h0 (l6_readGallery h0 h1 e9) dX6_readNumbers_167 cs_X6_readNumbers_167 ⟨rfl, rfl⟩ ⟨Nat.zero_le _, Nat.zero_le _⟩ (Nat.le_of_ble_eq_true rfl) (tl_if_eq (tgt := 186) dX6_readNumbers_170 (by decide) (fun c12 => ?_) (fun c12 => ?_)))))
      · replace h := tl_ip h c12
        exact tl_iconst (v := 0) dX6_readNumbers_186 ic_0 (tl_iretE dX6_readNumbers_187 rfl rfl h)
      · replace h := tl_in h c12
        obtain ⟨x15, u14, e13, h⟩ := tl_b2i h
        refine tl_aload_n dX6_readNumbers_173 rfl (tl_aload_n dX6_readNumbers_174 rfl (tl_iconst (v := 2) dX6_readNumbers_175 ic_2 (tl_iV2 tl_ck6 rfl h0 (l6_readCell h0 h1 e13) dX6_readNumbers_176 cs_X6_readNumbers_176 ⟨rfl, rfl⟩ ⟨Nat.zero_le _, Nat.zero_le _⟩ (Nat.le_of_ble_eq_true rfl) (tl_if_eq (tgt := 186) dX6_readNumbers_179 (by decide) (fun c16 => ?_) (fun c16 => ?_)))))
        · replace h := tl_ip h c16
          exact tl_iconst (v := 0) dX6_readNumbers_186 ic_0 (tl_iretE dX6_readNumbers_187 rfl rfl h)
        · replace h := tl_in h c16
          exact tl_iconst (v := 1) dX6_readNumbers_182 ic_1 (tl_goto (tgt := 187) dX6_readNumbers_183 (by decide) (tl_iretE dX6_readNumbers_187 rfl rfl h))
  replace h := tl_in h c4_6
  by_cases c4_7 : ((u.1 a1 0)).toInt = 7
  · replace h := tl_ip h c4_7
    refine tl_tableIn (off := 184) (tgt := 188) dX6_readNumbers_4 (by omega) (by omega) (by rw [c4_7]; rfl) (by decide) ?_
    obtain ⟨x7, u6, e5, h⟩ := tl_b2i h
    refine tl_aload_n dX6_readNumbers_188 rfl (tl_aload_n dX6_readNumbers_189 rfl (tl_iV1 tl_ck6 rfl h0 (l6_readLamp h0 h1 e5) dX6_readNumbers_190 cs_X6_readNumbers_190 ⟨rfl, rfl⟩ ⟨Nat.zero_le _, Nat.zero_le _⟩ (Nat.le_of_ble_eq_true rfl) (tl_if_eq (tgt := 213) dX6_readNumbers_193 (by decide) (fun c8 => ?_) (fun c8 => ?_))))
    · replace h := tl_ip h c8
      exact tl_iconst (v := 0) dX6_readNumbers_213 ic_0 (tl_iretE dX6_readNumbers_214 rfl rfl h)
    · replace h := tl_in h c8
      obtain ⟨x11, u10, e9, h⟩ := tl_b2i h
      refine tl_aload_n dX6_readNumbers_196 rfl (tl_aload_n dX6_readNumbers_197 rfl (tl_iconst (v := 1) dX6_readNumbers_198 ic_1 (tl_iconst (v := 2) dX6_readNumbers_199 ic_2 (tl_iconst (v := 1) dX6_readNumbers_200 ic_1 (tl_bipush (v := 99) dX6_readNumbers_201 bp_99 (tl_iV5 tl_ck6 rfl h0 (l6_readNumber h0 h1 e9) dX6_readNumbers_203 cs_X6_readNumbers_203 ⟨rfl, rfl⟩ ⟨Nat.zero_le _, Nat.zero_le _⟩ (Nat.le_of_ble_eq_true rfl) (tl_if_eq (tgt := 213) dX6_readNumbers_206 (by decide) (fun c12 => ?_) (fun c12 => ?_))))))))
      · replace h := tl_ip h c12
        exact tl_iconst (v := 0) dX6_readNumbers_213 ic_0 (tl_iretE dX6_readNumbers_214 rfl rfl h)
      · replace h := tl_in h c12
        exact tl_iconst (v := 1) dX6_readNumbers_209 ic_1 (tl_goto (tgt := 214) dX6_readNumbers_210 (by decide) (tl_iretE dX6_readNumbers_214 rfl rfl h))
  replace h := tl_in h c4_7
  by_cases c4_8 : ((u.1 a1 0)).toInt = 8
  · replace h := tl_ip h c4_8
    refine tl_tableIn (off := 226) (tgt := 230) dX6_readNumbers_4 (by omega) (by omega) (by rw [c4_8]; rfl) (by decide) ?_
    obtain ⟨x7, u6, e5, h⟩ := tl_b2i h
    obtain ⟨g8, h⟩ := tl_gi h
    exact tl_aload_n dX6_readNumbers_230 rfl (tl_aload_n dX6_readNumbers_231 rfl (tl_iconst (v := 0) dX6_readNumbers_232 ic_0 (tl_iconst (v := 2) dX6_readNumbers_233 ic_2 (tl_iconst (v := 1) dX6_readNumbers_234 ic_1 (tl_bipush (v := 60) dX6_readNumbers_235 bp_60 (tl_iV5 tl_ck6 rfl h0 (l6_readNumber h0 h1 e5) dX6_readNumbers_237 cs_X6_readNumbers_237 ⟨rfl, rfl⟩ ⟨Nat.zero_le _, Nat.zero_le _⟩ (Nat.le_of_ble_eq_true rfl) (tl_iretE dX6_readNumbers_240 rfl (tl_nB g8).1 h)))))))
  replace h := tl_in h c4_8
  have c4_9 : ((u.1 a1 0)).toInt = 9 := by omega
  refine tl_tableIn (off := 211) (tgt := 215) dX6_readNumbers_4 (by omega) (by omega) (by rw [c4_9]; rfl) (by decide) ?_
  refine tl_aload_n dX6_readNumbers_215 rfl (tl_iconst (v := 1) dX6_readNumbers_216 ic_1 (tl_puti (f := 1) tl_ck0 dX6_readNumbers_217 fl_X6_59 (Nat.le_of_ble_eq_true rfl) rfl rfl rfl h1 (fun u5 e => ?_)))
  have h := tl_leteq e h
  clear e
  obtain ⟨x8, u7, e6, h⟩ := tl_b2i h
  obtain ⟨g9, h⟩ := tl_gi h
  exact tl_aload_n dX6_readNumbers_220 rfl (tl_aload_n dX6_readNumbers_221 rfl (tl_iconst (v := 1) dX6_readNumbers_222 ic_1 (tl_iconst (v := 1) dX6_readNumbers_223 ic_1 (tl_iconst (v := 0) dX6_readNumbers_224 ic_0 (tl_iconst (v := 1) dX6_readNumbers_225 ic_1 (tl_iV5 tl_ck6 rfl h0 (l6_readNumber h0 h1 e6) dX6_readNumbers_226 cs_X6_readNumbers_226 ⟨rfl, rfl⟩ ⟨Nat.zero_le _, Nat.zero_le _⟩ (Nat.le_of_ble_eq_true rfl) (tl_iretE dX6_readNumbers_229 rfl (tl_nB g9).1 h)))))))

theorem cs_X6_readCommand_6 : tl_cV mX6_readCommand mX0_become 34 5 := ⟨cd_X0_become, ml_X6_34, im_X0_become, se_X0_become, in_X0, ⟨by decide, by decide, by decide +kernel⟩, Nat.le_of_ble_eq_true rfl, Nat.le_of_ble_eq_true rfl⟩
theorem cs_X6_readCommand_39 : tl_cS mX6_readCommand mX6_actionOf 38 1 := ⟨cd_X6_actionOf, ml_X6_38, sm_X6_actionOf, in_X6, ⟨by decide, by decide, by decide +kernel⟩, Nat.le_of_ble_eq_true rfl, Nat.le_of_ble_eq_true rfl⟩
theorem cs_X6_readCommand_66 : tl_cV mX6_readCommand mX6_readNumbers 42 1 := ⟨cd_X6_readNumbers, ml_X6_42, im_X6_readNumbers, se_X6_readNumbers, in_X6, ⟨by decide, by decide, by decide +kernel⟩, Nat.le_of_ble_eq_true rfl, Nat.le_of_ble_eq_true rfl⟩
def f6_readCommand (a0 : Nat) (a1 : Nat) (u : tl_S) : Option (Int32 × tl_S) :=
  tl_b (f0_become a1 0 0 0 0 0 u) (fun u4 => (if (u4.1 a0 2) < 0 then some (0, u4) else (if (u4.1 a0 2) < (u4.1 a0 1) then tl_g (¬ ((u4.1 a0 2) < 0 ∨ 120 ≤ (u4.1 a0 2).toNatClampNeg)) (tl_b2 (f6_actionOf (u4.1 (a0 + 1) (u4.1 a0 2).toNatClampNeg) u4) (fun x10 u9 => tl_let ((tl_u u9.1 a1 0 x10, u9.2) : tl_S) (fun u11 => (if (u11.1 a1 0) = 0 then some (0, u11) else tl_let ((tl_u u11.1 a0 2 ((u11.1 a0 2) + 1), u11.2) : tl_S) (fun u13 => tl_b2 (f6_readNumbers a0 a1 u13) (fun x16 u15 => tl_g (x16 = 0 ∨ x16 = 1) (some (x16, u15)))))))) else some (0, u4))))

theorem l6_readCommand {E : tl_E} {a0 : Nat} {a1 : Nat}  {u : tl_S} {r : Int32} {v : tl_S} (h0 : tl_T E.2.1 a0 = some 6) (h1 : tl_T E.2.1 a1 = some 0) (h : f6_readCommand a0 a1 u = some (r, v)) : tl_MB E mX6_readCommand [.ref a0, .ref a1] u (fun q w => q = some (.int r) ∧ w = v) := by
  unfold f6_readCommand at h
  refine tl_start [some (.ref a0), some (.ref a1)] rfl rfl rfl (Nat.le_of_ble_eq_true rfl) ?_
  obtain ⟨u4, e3, h⟩ := tl_bi h
  refine tl_aload_n dX6_readCommand_0 rfl (tl_iconst (v := 0) dX6_readCommand_1 ic_0 (tl_iconst (v := 0) dX6_readCommand_2 ic_0 (tl_iconst (v := 0) dX6_readCommand_3 ic_0 (tl_iconst (v := 0) dX6_readCommand_4 ic_0 (tl_iconst (v := 0) dX6_readCommand_5 ic_0 (tl_vV5 tl_ck0 rfl h1 (l0_become h1 e3) dX6_readCommand_6 cs_X6_readCommand_6 ⟨rfl, rfl⟩ ⟨Nat.zero_le _, Nat.zero_le _⟩ (Nat.le_of_ble_eq_true rfl) (tl_aload_n dX6_readCommand_9 rfl (tl_geti (f := 2) tl_ck6 dX6_readCommand_10 fl_X6_19 (Nat.le_of_ble_eq_true rfl) rfl h0 (tl_if_lt (tgt := 27) dX6_readCommand_13 (by decide) (fun c5 => ?_) (fun c5 => ?_))))))))))
  · replace h := tl_ip h c5
    exact tl_iconst (v := 0) dX6_readCommand_27 ic_0 (tl_iretE dX6_readCommand_28 rfl rfl h)
  · replace h := tl_in h c5
    refine tl_aload_n dX6_readCommand_16 rfl (tl_geti (f := 2) tl_ck6 dX6_readCommand_17 fl_X6_19 (Nat.le_of_ble_eq_true rfl) rfl h0 (tl_aload_n dX6_readCommand_20 rfl (tl_geti (f := 1) tl_ck6 dX6_readCommand_21 fl_X6_15 (Nat.le_of_ble_eq_true rfl) rfl h0 (tl_icmp_lt (tgt := 29) dX6_readCommand_24 (by decide) (fun c6 => ?_) (fun c6 => ?_)))))
    · replace h := tl_ip h c6
      obtain ⟨g7, h⟩ := tl_gi h
      obtain ⟨x10, u9, e8, h⟩ := tl_b2i h
      refine tl_aload_n dX6_readCommand_29 rfl (tl_aload_n dX6_readCommand_30 rfl (tl_getr (f := 0) (o := 1) tl_ck6 dX6_readCommand_31 fl_X6_9 (Nat.le_of_ble_eq_true rfl) rfl h0 (tl_aload_n dX6_readCommand_34 rfl (tl_geti (f := 2) tl_ck6 dX6_readCommand_35 fl_X6_19 (Nat.le_of_ble_eq_true rfl) rfl h0 (tl_cald (j := (u4.1 a0 2).toNatClampNeg) (fun _ _ => rfl) dX6_readCommand_38 (tt_6_0 h0) g7 rfl (tl_iS1 (l6_actionOf  e8) dX6_readCommand_39 cs_X6_readCommand_39 ⟨rfl, rfl⟩ ⟨Nat.zero_le _, Nat.zero_le _⟩ (Nat.le_of_ble_eq_true rfl) (tl_puti (f := 0) tl_ck0 dX6_readCommand_42 fl_X6_29 (Nat.le_of_ble_eq_true rfl) rfl rfl rfl h1 (fun u11 e => ?_))))))))
      have h := tl_leteq e h
      clear e
      refine tl_aload_n dX6_readCommand_45 rfl (tl_geti (f := 0) tl_ck0 dX6_readCommand_46 fl_X6_29 (Nat.le_of_ble_eq_true rfl) rfl h1 (tl_if_ne (tgt := 54) dX6_readCommand_49 (by decide) (fun c12 => ?_) (fun c12 => ?_)))
      · replace h := tl_in h c12
        refine tl_aload_n dX6_readCommand_54 rfl (tl_dup dX6_readCommand_55 rfl (tl_geti (f := 2) tl_ck6 dX6_readCommand_56 fl_X6_19 (Nat.le_of_ble_eq_true rfl) rfl h0 (tl_iconst (v := 1) dX6_readCommand_59 ic_1 (tl_iadd dX6_readCommand_60 (tl_puti (f := 2) tl_ck6 dX6_readCommand_61 fl_X6_19 (Nat.le_of_ble_eq_true rfl) rfl rfl rfl h0 (fun u13 e => ?_))))))
        have h := tl_leteq e h
        clear e
        obtain ⟨x16, u15, e14, h⟩ := tl_b2i h
        obtain ⟨g17, h⟩ := tl_gi h
        exact tl_aload_n dX6_readCommand_64 rfl (tl_aload_n dX6_readCommand_65 rfl (tl_iV1 tl_ck6 rfl h0 (l6_readNumbers h0 h1 e14) dX6_readCommand_66 cs_X6_readCommand_66 ⟨rfl, rfl⟩ ⟨Nat.zero_le _, Nat.zero_le _⟩ (Nat.le_of_ble_eq_true rfl) (tl_iretE dX6_readCommand_69 rfl (tl_nB g17).1 h)))
      · replace h := tl_ip h c12
        exact tl_iconst (v := 0) dX6_readCommand_52 ic_0 (tl_iretE dX6_readCommand_53 rfl rfl h)
    · replace h := tl_in h c6
      exact tl_iconst (v := 0) dX6_readCommand_27 ic_0 (tl_iretE dX6_readCommand_28 rfl rfl h)

theorem cs_X6_findError_21 : tl_cV mX6_findError mX6_startCommands 22 0 := ⟨cd_X6_startCommands, ml_X6_22, im_X6_startCommands, se_X6_startCommands, in_X6, ⟨by decide, by decide, by decide +kernel⟩, Nat.le_of_ble_eq_true rfl, Nat.le_of_ble_eq_true rfl⟩
theorem cs_X6_findError_40 : tl_cV mX6_findError mX6_readCommand 25 1 := ⟨cd_X6_readCommand, ml_X6_25, im_X6_readCommand, se_X6_readCommand, in_X6, ⟨by decide, by decide, by decide +kernel⟩, Nat.le_of_ble_eq_true rfl, Nat.le_of_ble_eq_true rfl⟩
def f6_findError_p28 : Nat → Nat → Nat → Int32 → Int32 → tl_S → Option (Int32 × tl_S)
  | 0, _, _, _, _, _ => none
  | fu + 1, a1, a2, x3, x4, u =>
  (if 120 ≤ x4 then (if (u.1 a2 0) = 0 then (if (u.1 a1 2) < (u.1 a1 1) then some ((u.1 a1 2), u) else some ((-1), u)) else some ((u.1 a1 2), u)) else (if x3 = 0 then (if (u.1 a2 0) = 0 then (if (u.1 a1 2) < (u.1 a1 1) then some ((u.1 a1 2), u) else some ((-1), u)) else some ((u.1 a1 2), u)) else tl_b2 (f6_readCommand a1 a2 u) (fun x10 u9 => tl_let (x4 + 1) (fun x11 => f6_findError_p28 fu a1 a2 x10 x11 u9))))

def f6_findError (a0 : Nat) (a1 : Nat) (u : tl_S) : Option (Int32 × tl_S) :=
  (if (u.1 a0 1) = 0 then some (0, u) else (if (u.1 (a0 + 1) 0) = 84 then tl_b (f6_startCommands a0 u) (fun u6 => f6_findError_p28 tl_F a0 a1 1 0 u6) else some (0, u)))

theorem l6_findError_p28 {E : tl_E}  {r : Int32} {v : tl_S} : ∀ (n : Nat) (a1 : Nat) (a2 : Nat) (x3 : Int32) (x4 : Int32) (u : tl_S) , tl_T E.2.1 a1 = some 6 → tl_T E.2.1 a2 = some 0 → f6_findError_p28 n a1 a2 x3 x4 u = some (r, v) → tl_R E mX6_findError tl_X0 (tl_ZB E mX6_findError (fun q w => q = some (.int r) ∧ w = v)) 0 0 (tl_HB E u) 28 [some (.ref a1), some (.ref a2), some (.int x3), some (.int x4)] [] := by
  intro n
  induction n with
  | zero => intro a1 a2 x3 x4 u  h1 h2 h; exact absurd h (by simp [f6_findError_p28])
  | succ n ih =>
    intro a1 a2 x3 x4 u  h1 h2 h
    rw [f6_findError_p28] at h
    refine tl_iload_n dX6_findError_28 rfl (tl_bipush (v := 120) dX6_findError_29 bp_120 (tl_icmp_ge (tgt := 50) dX6_findError_31 (by decide) (fun c6 => ?_) (fun c6 => ?_)))
    · replace h := tl_ip h c6
      refine tl_aload_n dX6_findError_50 rfl (tl_geti (f := 0) tl_ck0 dX6_findError_51 fl_X6_29 (Nat.le_of_ble_eq_true rfl) rfl h2 (tl_if_ne (tgt := 72) dX6_findError_54 (by decide) (fun c7 => ?_) (fun c7 => ?_)))
      · replace h := tl_in h c7
        exact tl_aload_n dX6_findError_72 rfl (tl_geti (f := 2) tl_ck6 dX6_findError_73 fl_X6_19 (Nat.le_of_ble_eq_true rfl) rfl h1 (tl_iretE dX6_findError_76 rfl rfl h))
      · replace h := tl_ip h c7
        refine tl_aload_n dX6_findError_57 rfl (tl_geti (f := 2) tl_ck6 dX6_findError_58 fl_X6_19 (Nat.le_of_ble_eq_true rfl) rfl h1 (tl_aload_n dX6_findError_61 rfl (tl_geti (f := 1) tl_ck6 dX6_findError_62 fl_X6_15 (Nat.le_of_ble_eq_true rfl) rfl h1 (tl_icmp_lt (tgt := 72) dX6_findError_65 (by decide) (fun c8 => ?_) (fun c8 => ?_)))))
        · replace h := tl_ip h c8
          exact tl_aload_n dX6_findError_72 rfl (tl_geti (f := 2) tl_ck6 dX6_findError_73 fl_X6_19 (Nat.le_of_ble_eq_true rfl) rfl h1 (tl_iretE dX6_findError_76 rfl rfl h))
        · replace h := tl_in h c8
          exact tl_iconst (v := (-1)) dX6_findError_68 ic_m1 (tl_goto (tgt := 76) dX6_findError_69 (by decide) (tl_iretE dX6_findError_76 rfl rfl h))
    · replace h := tl_in h c6
      refine tl_iload_n dX6_findError_34 rfl (tl_if_eq (tgt := 50) dX6_findError_35 (by decide) (fun c7 => ?_) (fun c7 => ?_))
      · replace h := tl_ip h c7
        refine tl_aload_n dX6_findError_50 rfl (tl_geti (f := 0) tl_ck0 dX6_findError_51 fl_X6_29 (Nat.le_of_ble_eq_true rfl) rfl h2 (tl_if_ne (tgt := 72) dX6_findError_54 (by decide) (fun c8 => ?_) (fun c8 => ?_)))
        · replace h := tl_in h c8
          exact tl_aload_n dX6_findError_72 rfl (tl_geti (f := 2) tl_ck6 dX6_findError_73 fl_X6_19 (Nat.le_of_ble_eq_true rfl) rfl h1 (tl_iretE dX6_findError_76 rfl rfl h))
        · replace h := tl_ip h c8
          refine tl_aload_n dX6_findError_57 rfl (tl_geti (f := 2) tl_ck6 dX6_findError_58 fl_X6_19 (Nat.le_of_ble_eq_true rfl) rfl h1 (tl_aload_n dX6_findError_61 rfl (tl_geti (f := 1) tl_ck6 dX6_findError_62 fl_X6_15 (Nat.le_of_ble_eq_true rfl) rfl h1 (tl_icmp_lt (tgt := 72) dX6_findError_65 (by decide) (fun c9 => ?_) (fun c9 => ?_)))))
          · replace h := tl_ip h c9
            exact tl_aload_n dX6_findError_72 rfl (tl_geti (f := 2) tl_ck6 dX6_findError_73 fl_X6_19 (Nat.le_of_ble_eq_true rfl) rfl h1 (tl_iretE dX6_findError_76 rfl rfl h))
          · replace h := tl_in h c9
            exact tl_iconst (v := (-1)) dX6_findError_68 ic_m1 (tl_goto (tgt := 76) dX6_findError_69 (by decide) (tl_iretE dX6_findError_76 rfl rfl h))
      · replace h := tl_in h c7
        obtain ⟨x10, u9, e8, h⟩ := tl_b2i h
        refine tl_aload_n dX6_findError_38 rfl (tl_aload_n dX6_findError_39 rfl (tl_iV1 tl_ck6 rfl h1 (l6_readCommand h1 h2 e8) dX6_findError_40 cs_X6_findError_40 ⟨rfl, rfl⟩ ⟨Nat.zero_le _, Nat.zero_le _⟩ (Nat.le_of_ble_eq_true rfl) (tl_istore_n dX6_findError_43 (Nat.le_of_ble_eq_true rfl) (tl_iincK dX6_findError_44 rfl (ii_1 _) (Nat.le_of_ble_eq_true rfl) (fun x11 e => ?_)))))
        have h := tl_leteq e h
        clear e
        refine tl_goto (tgt := 28) dX6_findError_47 (by decide) (?_)
        exact ih _ _ _ _ _  h1 h2 h

theorem l6_findError {E : tl_E} {a0 : Nat} {a1 : Nat}  {u : tl_S} {r : Int32} {v : tl_S} (h0 : tl_T E.2.1 a0 = some 6) (h1 : tl_T E.2.1 a1 = some 0) (h : f6_findError a0 a1 u = some (r, v)) : tl_MB E mX6_findError [.ref a0, .ref a1] u (fun q w => q = some (.int r) ∧ w = v) := by
  unfold f6_findError at h
  refine tl_start [some (.ref a0), some (.ref a1), none, none] rfl rfl rfl (Nat.le_of_ble_eq_true rfl) ?_
  refine tl_aload_n dX6_findError_0 rfl (tl_geti (f := 1) tl_ck6 dX6_findError_1 fl_X6_15 (Nat.le_of_ble_eq_true rfl) rfl h0 (tl_if_eq (tgt := 18) dX6_findError_4 (by decide) (fun c3 => ?_) (fun c3 => ?_)))
  · replace h := tl_ip h c3
    exact tl_iconst (v := 0) dX6_findError_18 ic_0 (tl_iretE dX6_findError_19 rfl rfl h)
  · replace h := tl_in h c3
    refine tl_aload_n dX6_findError_7 rfl (tl_getr (f := 0) (o := 1) tl_ck6 dX6_findError_8 fl_X6_9 (Nat.le_of_ble_eq_true rfl) rfl h0 (tl_iconst (v := 0) dX6_findError_11 ic_0 (tl_cald (j := 0) (fun _ _ => rfl) dX6_findError_12 (tt_6_0 h0) (li_0 120 rfl) lx_0 (tl_bipush (v := 84) dX6_findError_13 bp_84 (tl_icmp_eq (tgt := 20) dX6_findError_15 (by decide) (fun c4 => ?_) (fun c4 => ?_))))))
    · replace h := tl_ip h c4
      obtain ⟨u6, e5, h⟩ := tl_bi h
      refine tl_aload_n dX6_findError_20 rfl (tl_vV0 tl_ck6 rfl h0 (l6_startCommands h0 e5) dX6_findError_21 cs_X6_findError_21 ⟨rfl, rfl⟩ ⟨Nat.zero_le _, Nat.zero_le _⟩ (Nat.le_of_ble_eq_true rfl) (tl_iconst (v := 1) dX6_findError_24 ic_1 (tl_istore_n dX6_findError_25 (Nat.le_of_ble_eq_true rfl) (tl_iconst (v := 0) dX6_findError_26 ic_0 (tl_istore_n dX6_findError_27 (Nat.le_of_ble_eq_true rfl) (?_))))))
      exact l6_findError_p28 tl_F _ _ _ _ _  h0 h1 h
    · replace h := tl_in h c4
      exact tl_iconst (v := 0) dX6_findError_18 ic_0 (tl_iretE dX6_findError_19 rfl rfl h)

/-- the exception of a number -/
def f9_throwFor (x1 : Int32) (u : tl_S) : Option (Nat × Int32 × tl_S) :=
  if x1.toInt < 0 ∨ 2 < x1.toInt then some (3, 0, u) else if x1.toInt = 0 then some (0, 0, u) else if x1.toInt = 1 then some (1, 0, u) else some (2, 0, u)
theorem l9_throwFor {E : tl_E} {x1 : Int32} {u : tl_S} {t : Nat} {r : Int32} {v : tl_S} (h : f9_throwFor x1 u = some (t, r, v)) : tl_MX E mX9_throwFor [.int x1] u t none v := by
  unfold f9_throwFor at h
  refine tl_startX [some (.int x1)] rfl rfl rfl (Nat.le_of_ble_eq_true rfl) ?_
  refine tl_iload_n dX9_throwFor_0 rfl ?_
  by_cases c1 : x1.toInt < 0 ∨ 2 < x1.toInt
  · rw [if_pos c1] at h
    cases h
    exact tl_tableOut (tgt := 51) dX9_throwFor_1 c1 (by decide) (tl_throw (t := 3) (by decide) (by decide +kernel) kk_X9_324 in_java_lang_IllegalStateException rfl (fun s h => h.2.2.2.2.2.2.2.2.1) (fun w hw => tl_inGW ((by decide +kernel : ∀ w ∈ (vx_atS RX9 328 (tl_xn 3) ["java/lang/RuntimeException", "java/lang/Exception"]).filter goodWord, w ∈ tables_1) w hw) (List.mem_filter.mp hw).2) (by decide +kernel) (by decide +kernel) dX9_throwFor_51 dX9_throwFor_54 dX9_throwFor_55 dX9_throwFor_58 dX9_throwFor_61 (Nat.le_of_ble_eq_true rfl) (Nat.le_of_ble_eq_true rfl) (Nat.le_of_ble_eq_true rfl) (Nat.le_of_ble_eq_true rfl))
  · rw [if_neg c1] at h
    by_cases c2 : x1.toInt = 0
    · rw [if_pos c2] at h
      refine tl_tableIn (off := 27) (tgt := 28) dX9_throwFor_1 (by omega) (by omega) (by rw [c2]; rfl) (by decide) ?_
      exact tl_vretX dX9_throwFor_28 rfl (Nat.zero_le _) (Nat.zero_le _) h
    · rw [if_neg c2] at h
      by_cases c3 : x1.toInt = 1
      · rw [if_pos c3] at h
        cases h
        exact tl_tableIn (off := 28) (tgt := 29) dX9_throwFor_1 (by omega) (by omega) (by rw [c3]; rfl) (by decide) (tl_throw (t := 1) (by decide) (by decide +kernel) kk_X9_312 in_java_lang_IndexOutOfBoundsException rfl (fun s h => h.2.2.2.2.2.2.1) (fun w hw => tl_inGW ((by decide +kernel : ∀ w ∈ (vx_atS RX9 316 (tl_xn 1) ["java/lang/RuntimeException", "java/lang/Exception"]).filter goodWord, w ∈ tables_1) w hw) (List.mem_filter.mp hw).2) (by decide +kernel) (by decide +kernel) dX9_throwFor_29 dX9_throwFor_32 dX9_throwFor_33 dX9_throwFor_36 dX9_throwFor_39 (Nat.le_of_ble_eq_true rfl) (Nat.le_of_ble_eq_true rfl) (Nat.le_of_ble_eq_true rfl) (Nat.le_of_ble_eq_true rfl))
      · rw [if_neg c3] at h
        cases h
        exact tl_tableIn (off := 39) (tgt := 40) dX9_throwFor_1 (by omega) (by omega) (by rw [show x1.toInt = 2 by omega]; rfl) (by decide) (tl_throw (t := 2) (by decide) (by decide +kernel) kk_X9_319 in_java_lang_IllegalArgumentException rfl (fun s h => h.2.2.2.2.2.2.2.1) (fun w hw => tl_inGW ((by decide +kernel : ∀ w ∈ (vx_atS RX9 323 (tl_xn 2) ["java/lang/RuntimeException", "java/lang/Exception"]).filter goodWord, w ∈ tables_1) w hw) (List.mem_filter.mp hw).2) (by decide +kernel) (by decide +kernel) dX9_throwFor_40 dX9_throwFor_43 dX9_throwFor_44 dX9_throwFor_47 dX9_throwFor_50 (Nat.le_of_ble_eq_true rfl) (Nat.le_of_ble_eq_true rfl) (Nat.le_of_ble_eq_true rfl) (Nat.le_of_ble_eq_true rfl))

theorem cs_X9_demand_3 : tl_cS mX9_demand mX9_refusalOf 308 3 := ⟨cd_X9_refusalOf, ml_X9_308, sm_X9_refusalOf, in_X9, ⟨by decide, by decide, by decide +kernel⟩, Nat.le_of_ble_eq_true rfl, Nat.le_of_ble_eq_true rfl⟩
theorem cs_X9_demand_6 : tl_cS mX9_demand mX9_throwFor 299 1 := ⟨cd_X9_throwFor, ml_X9_299, sm_X9_throwFor, in_X9, ⟨by decide, by decide, by decide +kernel⟩, Nat.le_of_ble_eq_true rfl, Nat.le_of_ble_eq_true rfl⟩
def f9_demand (x1 : Int32) (x2 : Int32) (x3 : Int32) (u : tl_S) : Option (Nat × Int32 × tl_S) :=
  tl_b2 (f9_refusalOf x1 x2 x3 u) (fun x7 u6 => tl_bx (f9_throwFor x7 u6) (fun x10 u9 => some (0, 0, u9)))

theorem l9_demand {E : tl_E} {x1 : Int32} {x2 : Int32} {x3 : Int32}  {u : tl_S} {t : Nat} {r : Int32} {v : tl_S}  (h : f9_demand x1 x2 x3 u = some (t, r, v)) : tl_MX E mX9_demand [.int x1, .int x2, .int x3] u t none v := by
  unfold f9_demand at h
  refine tl_startX [some (.int x1), some (.int x2), some (.int x3)] rfl rfl rfl (Nat.le_of_ble_eq_true rfl) ?_
  obtain ⟨x7, u6, e5, h⟩ := tl_b2i h
  refine tl_iload_n dX9_demand_0 rfl (tl_iload_n dX9_demand_1 rfl (tl_iload_n dX9_demand_2 rfl (tl_iS3 (l9_refusalOf  e5) dX9_demand_3 cs_X9_demand_3 ⟨rfl, rfl⟩ ⟨Nat.le_of_ble_eq_true rfl, Nat.le_of_ble_eq_true rfl⟩ (Nat.le_of_ble_eq_true rfl) (?_))))
  rcases tl_bxi h with ⟨x10, u9, e8, h⟩ | ⟨t1, x10, e8, et⟩
  rotate_left
  · subst et; exact tl_xS1t (l9_throwFor  e8) dX9_demand_6 cs_X9_demand_6 ⟨Nat.le_of_ble_eq_true rfl, Nat.le_of_ble_eq_true rfl⟩ (Nat.le_of_ble_eq_true rfl)
  exact tl_xS1v (l9_throwFor  e8) dX9_demand_6 cs_X9_demand_6 ⟨Nat.le_of_ble_eq_true rfl, Nat.le_of_ble_eq_true rfl⟩ (Nat.le_of_ble_eq_true rfl) (tl_vretX dX9_demand_9 rfl (Nat.le_of_ble_eq_true rfl) (Nat.le_of_ble_eq_true rfl) h)

theorem cs_X9_append_6 : tl_cS mX9_append mX9_isWithin 51 3 := ⟨cd_X9_isWithin, ml_X9_51, sm_X9_isWithin, in_X9, ⟨by decide, by decide, by decide +kernel⟩, Nat.le_of_ble_eq_true rfl, Nat.le_of_ble_eq_true rfl⟩
theorem cs_X9_append_13 : tl_cV mX9_append mX6_isFull 55 0 := ⟨cd_X6_isFull, ml_X9_55, im_X6_isFull, se_X6_isFull, in_X6, ⟨by decide, by decide, by decide +kernel⟩, Nat.le_of_ble_eq_true rfl, Nat.le_of_ble_eq_true rfl⟩
theorem cs_X9_append_24 : tl_cS mX9_append mX9_demand 59 3 := ⟨cd_X9_demand, ml_X9_59, sm_X9_demand, in_X9, ⟨by decide, by decide, by decide +kernel⟩, Nat.le_of_ble_eq_true rfl, Nat.le_of_ble_eq_true rfl⟩
theorem cs_X9_append_33 : tl_cV mX9_append mX6_add 63 1 := ⟨cd_X6_add, ml_X9_63, im_X6_add, se_X6_add, in_X6, ⟨by decide, by decide, by decide +kernel⟩, Nat.le_of_ble_eq_true rfl, Nat.le_of_ble_eq_true rfl⟩
def f9_append (a0 : Nat) (x1 : Int32) (u : tl_S) : Option (Nat × Int32 × tl_S) :=
  tl_b2 (f9_isWithin x1 0 255 u) (fun x5 u4 => tl_b2 (f6_isFull (a0 + 1) u4) (fun x8 u7 => (if x8 = 0 then tl_bx (f9_demand 1 x5 1 u7) (fun x12 u11 => tl_b2 (f6_add (a0 + 1) ((x1.toUInt32 % 65536).toInt32) u11) (fun x15 u14 => some (0, x15, u14))) else tl_bx (f9_demand 1 x5 0 u7) (fun x12 u11 => tl_b2 (f6_add (a0 + 1) ((x1.toUInt32 % 65536).toInt32) u11) (fun x15 u14 => some (0, x15, u14))))))

theorem l9_append {E : tl_E} {a0 : Nat} {x1 : Int32}  {u : tl_S} {t : Nat} {r : Int32} {v : tl_S} (h0 : tl_T E.2.1 a0 = some 9) (h : f9_append a0 x1 u = some (t, r, v)) : tl_MX E mX9_append [.ref a0, .int x1] u t (some (.int r)) v := by
  unfold f9_append at h
  refine tl_startX [some (.ref a0), some (.int x1)] rfl rfl rfl (Nat.le_of_ble_eq_true rfl) ?_
  obtain ⟨x5, u4, e3, h⟩ := tl_b2i h
  obtain ⟨x8, u7, e6, h⟩ := tl_b2i h
  refine tl_iconst (v := 1) dX9_append_0 ic_1 (tl_iload_n dX9_append_1 rfl (tl_iconst (v := 0) dX9_append_2 ic_0 (tl_sipush (v := 255) dX9_append_3 sp_255 (tl_iS3 (l9_isWithin  e3) dX9_append_6 cs_X9_append_6 ⟨rfl, rfl⟩ ⟨Nat.le_of_ble_eq_true rfl, Nat.le_of_ble_eq_true rfl⟩ (Nat.le_of_ble_eq_true rfl) (tl_aload_n dX9_append_9 rfl (tl_getr (f := 0) (o := 1) tl_ck9 dX9_append_10 fl_X9_12 (Nat.le_of_ble_eq_true rfl) rfl h0 (tl_iV0 tl_ck6 rfl (tt_9_0 h0) (l6_isFull (tt_9_0 h0) e6) dX9_append_13 cs_X9_append_13 ⟨rfl, rfl⟩ ⟨Nat.le_of_ble_eq_true rfl, Nat.le_of_ble_eq_true rfl⟩ (Nat.le_of_ble_eq_true rfl) (tl_if_ne (tgt := 23) dX9_append_16 (by decide) (fun c9 => ?_) (fun c9 => ?_)))))))))
  · replace h := tl_in h c9
    refine tl_iconst (v := 0) dX9_append_23 ic_0 (?_)
    rcases tl_bxi h with ⟨x12, u11, e10, h⟩ | ⟨t1, x12, e10, et⟩
    rotate_left
    · subst et; exact tl_xS3t (l9_demand  e10) dX9_append_24 cs_X9_append_24 ⟨Nat.le_of_ble_eq_true rfl, Nat.le_of_ble_eq_true rfl⟩ (Nat.le_of_ble_eq_true rfl)
    obtain ⟨x15, u14, e13, h⟩ := tl_b2i h
    exact tl_xS3v (l9_demand  e10) dX9_append_24 cs_X9_append_24 ⟨Nat.le_of_ble_eq_true rfl, Nat.le_of_ble_eq_true rfl⟩ (Nat.le_of_ble_eq_true rfl) (tl_aload_n dX9_append_27 rfl (tl_getr (f := 0) (o := 1) tl_ck9 dX9_append_28 fl_X9_12 (Nat.le_of_ble_eq_true rfl) rfl h0 (tl_iload_n dX9_append_31 rfl (tl_i2c dX9_append_32 (tl_iV1 tl_ck6 rfl (tt_9_0 h0) (l6_add (tt_9_0 h0) e13) dX9_append_33 cs_X9_append_33 ⟨rfl, rfl⟩ ⟨Nat.le_of_ble_eq_true rfl, Nat.le_of_ble_eq_true rfl⟩ (Nat.le_of_ble_eq_true rfl) (tl_iretX dX9_append_36 rfl rfl (Nat.le_of_ble_eq_true rfl) (Nat.le_of_ble_eq_true rfl) h))))))
  · replace h := tl_ip h c9
    refine tl_iconst (v := 1) dX9_append_19 ic_1 (tl_goto (tgt := 24) dX9_append_20 (by decide) (?_))
    rcases tl_bxi h with ⟨x12, u11, e10, h⟩ | ⟨t1, x12, e10, et⟩
    rotate_left
    · subst et; exact tl_xS3t (l9_demand  e10) dX9_append_24 cs_X9_append_24 ⟨Nat.le_of_ble_eq_true rfl, Nat.le_of_ble_eq_true rfl⟩ (Nat.le_of_ble_eq_true rfl)
    obtain ⟨x15, u14, e13, h⟩ := tl_b2i h
    exact tl_xS3v (l9_demand  e10) dX9_append_24 cs_X9_append_24 ⟨Nat.le_of_ble_eq_true rfl, Nat.le_of_ble_eq_true rfl⟩ (Nat.le_of_ble_eq_true rfl) (tl_aload_n dX9_append_27 rfl (tl_getr (f := 0) (o := 1) tl_ck9 dX9_append_28 fl_X9_12 (Nat.le_of_ble_eq_true rfl) rfl h0 (tl_iload_n dX9_append_31 rfl (tl_i2c dX9_append_32 (tl_iV1 tl_ck6 rfl (tt_9_0 h0) (l6_add (tt_9_0 h0) e13) dX9_append_33 cs_X9_append_33 ⟨rfl, rfl⟩ ⟨Nat.le_of_ble_eq_true rfl, Nat.le_of_ble_eq_true rfl⟩ (Nat.le_of_ble_eq_true rfl) (tl_iretX dX9_append_36 rfl rfl (Nat.le_of_ble_eq_true rfl) (Nat.le_of_ble_eq_true rfl) h))))))

theorem cs_X9_load_10 : tl_cV mX9_load mX6_findError 71 1 := ⟨cd_X6_findError, ml_X9_71, im_X6_findError, se_X6_findError, in_X6, ⟨by decide, by decide, by decide +kernel⟩, Nat.le_of_ble_eq_true rfl, Nat.le_of_ble_eq_true rfl⟩
theorem cs_X9_load_22 : tl_cS mX9_load mX9_demand 59 3 := ⟨cd_X9_demand, ml_X9_59, sm_X9_demand, in_X9, ⟨by decide, by decide, by decide +kernel⟩, Nat.le_of_ble_eq_true rfl, Nat.le_of_ble_eq_true rfl⟩
theorem cs_X9_load_33 : tl_cV mX9_load mX5_copyFrom 75 1 := ⟨cd_X5_copyFrom, ml_X9_75, im_X5_copyFrom, se_X5_copyFrom, in_X5, ⟨by decide, by decide, by decide +kernel⟩, Nat.le_of_ble_eq_true rfl, Nat.le_of_ble_eq_true rfl⟩
theorem cs_X9_load_40 : tl_cV mX9_load mX2_forgetAll 79 0 := ⟨cd_X2_forgetAll, ml_X9_79, im_X2_forgetAll, se_X2_forgetAll, in_X2, ⟨by decide, by decide, by decide +kernel⟩, Nat.le_of_ble_eq_true rfl, Nat.le_of_ble_eq_true rfl⟩
theorem cs_X9_load_69 : tl_cV mX9_load mX6_startCommands 82 0 := ⟨cd_X6_startCommands, ml_X9_82, im_X6_startCommands, se_X6_startCommands, in_X6, ⟨by decide, by decide, by decide +kernel⟩, Nat.le_of_ble_eq_true rfl, Nat.le_of_ble_eq_true rfl⟩
theorem cs_X9_load_88 : tl_cV mX9_load mX6_readCommand 85 1 := ⟨cd_X6_readCommand, ml_X9_85, im_X6_readCommand, se_X6_readCommand, in_X6, ⟨by decide, by decide, by decide +kernel⟩, Nat.le_of_ble_eq_true rfl, Nat.le_of_ble_eq_true rfl⟩
theorem cs_X9_load_102 : tl_cV mX9_load mX5_attempt 89 1 := ⟨cd_X5_attempt, ml_X9_89, im_X5_attempt, se_X5_attempt, in_X5, ⟨by decide, by decide, by decide +kernel⟩, Nat.le_of_ble_eq_true rfl, Nat.le_of_ble_eq_true rfl⟩
def f9_load_p74 : Nat → Nat → Int32 → Int32 → tl_S → Option (Nat × Int32 × tl_S)
  | 0, _, _, _, _ => none
  | fu + 1, a1, x2, x3, u =>
  (if 120 ≤ x3 then some (0, x2, u) else tl_b2 (f6_readCommand (a1 + 1) (a1 + 3) u) (fun x8 u7 => (if x8 = 0 then some (0, x2, u7) else tl_b2 (f5_attempt (a1 + 4) (a1 + 3) u7) (fun x12 u11 => (if x12 = 0 then tl_let (x2 + 1) (fun x14 => tl_let (x3 + 1) (fun x15 => f9_load_p74 fu a1 x14 x15 u11)) else tl_let (x3 + 1) (fun x14 => f9_load_p74 fu a1 x2 x14 u11))))))

def f9_load_p45 : Nat → Nat → Int32 → tl_S → Option (Nat × Int32 × tl_S)
  | 0, _, _, _ => none
  | fu + 1, a1, x2, u =>
  (if 2 ≤ x2 then tl_b (f6_startCommands (a1 + 1) u) (fun u6 => f9_load_p74 tl_F a1 0 0 u6) else tl_g (¬ (x2 < 0 ∨ 2 ≤ x2.toNatClampNeg)) (tl_let ((tl_u u.1 (a1 + 500) x2.toNatClampNeg 0, u.2) : tl_S) (fun u6 => tl_let (x2 + 1) (fun x7 => f9_load_p45 fu a1 x7 u6))))

def f9_load (a0 : Nat) (u : tl_S) : Option (Nat × Int32 × tl_S) :=
  tl_b2 (f6_findError (a0 + 1) (a0 + 3) u) (fun x4 u3 => (if x4 = (-1) then tl_bx (f9_demand 1 1 1 u3) (fun x8 u7 => tl_b (f5_copyFrom (a0 + 4) (a0 + 33) u7) (fun u10 => tl_b (f2_forgetAll (a0 + 91) u10) (fun u12 => f9_load_p45 tl_F a0 0 u12))) else tl_bx (f9_demand 1 1 0 u3) (fun x8 u7 => tl_b (f5_copyFrom (a0 + 4) (a0 + 33) u7) (fun u10 => tl_b (f2_forgetAll (a0 + 91) u10) (fun u12 => f9_load_p45 tl_F a0 0 u12)))))

theorem l9_load_p74 {E : tl_E}  {t : Nat} {r : Int32} {v : tl_S} : ∀ (n : Nat) (a1 : Nat) (x2 : Int32) (x3 : Int32) (u : tl_S) , tl_T E.2.1 a1 = some 9 → f9_load_p74 n a1 x2 x3 u = some (t, r, v) → tl_R E mX9_load tl_XT (tl_ZX E mX9_load t (some (.int r)) v) 1 6 (tl_HB E u) 74 [some (.ref a1), some (.int x2), some (.int x3)] [] := by
  intro n
  induction n with
  | zero => intro a1 x2 x3 u  h1 h; exact absurd h (by simp [f9_load_p74])
  | succ n ih =>
    intro a1 x2 x3 u  h1 h
    rw [f9_load_p74] at h
    refine tl_iload_n dX9_load_74 rfl (tl_bipush (v := 120) dX9_load_75 bp_120 (tl_icmp_ge (tgt := 117) dX9_load_77 (by decide) (fun c5 => ?_) (fun c5 => ?_)))
    · replace h := tl_ip h c5
      exact tl_iload_n dX9_load_117 rfl (tl_iretX dX9_load_118 rfl rfl (Nat.le_of_ble_eq_true rfl) (Nat.le_of_ble_eq_true rfl) h)
    · replace h := tl_in h c5
      obtain ⟨x8, u7, e6, h⟩ := tl_b2i h
      refine tl_aload_n dX9_load_80 rfl (tl_getr (f := 0) (o := 1) tl_ck9 dX9_load_81 fl_X9_12 (Nat.le_of_ble_eq_true rfl) rfl h1 (tl_aload_n dX9_load_84 rfl (tl_getr (f := 1) (o := 3) tl_ck9 dX9_load_85 fl_X9_19 (Nat.le_of_ble_eq_true rfl) rfl h1 (tl_iV1 tl_ck6 rfl (tt_9_0 h1) (l6_readCommand (tt_9_0 h1) (tt_9_1 h1) e6) dX9_load_88 cs_X9_load_88 ⟨rfl, rfl⟩ ⟨Nat.le_of_ble_eq_true rfl, Nat.le_of_ble_eq_true rfl⟩ (Nat.le_of_ble_eq_true rfl) (tl_if_eq (tgt := 117) dX9_load_91 (by decide) (fun c9 => ?_) (fun c9 => ?_))))))
      · replace h := tl_ip h c9
        exact tl_iload_n dX9_load_117 rfl (tl_iretX dX9_load_118 rfl rfl (Nat.le_of_ble_eq_true rfl) (Nat.le_of_ble_eq_true rfl) h)
      · replace h := tl_in h c9
        obtain ⟨x12, u11, e10, h⟩ := tl_b2i h
        refine tl_aload_n dX9_load_94 rfl (tl_getr (f := 2) (o := 4) tl_ck9 dX9_load_95 fl_X9_26 (Nat.le_of_ble_eq_true rfl) rfl h1 (tl_aload_n dX9_load_98 rfl (tl_getr (f := 1) (o := 3) tl_ck9 dX9_load_99 fl_X9_19 (Nat.le_of_ble_eq_true rfl) rfl h1 (tl_iV1 tl_ck5 rfl (tt_9_2 h1) (l5_attempt (tt_9_2 h1) (tt_9_1 h1) e10) dX9_load_102 cs_X9_load_102 ⟨rfl, rfl⟩ ⟨Nat.le_of_ble_eq_true rfl, Nat.le_of_ble_eq_true rfl⟩ (Nat.le_of_ble_eq_true rfl) (tl_if_ne (tgt := 111) dX9_load_105 (by decide) (fun c13 => ?_) (fun c13 => ?_))))))
        · replace h := tl_in h c13
          refine tl_iincK dX9_load_111 rfl (ii_1 _) (Nat.le_of_ble_eq_true rfl) (fun x14 e => ?_)
          have h := tl_leteq e h
          clear e
          refine tl_goto (tgt := 74) dX9_load_114 (by decide) (?_)
          exact ih _ _ _ _  h1 h
        · replace h := tl_ip h c13
          refine tl_iincK dX9_load_108 rfl (ii_1 _) (Nat.le_of_ble_eq_true rfl) (fun x14 e => ?_)
          have h := tl_leteq e h
          clear e
          refine tl_iincK dX9_load_111 rfl (ii_1 _) (Nat.le_of_ble_eq_true rfl) (fun x15 e => ?_)
          have h := tl_leteq e h
          clear e
          refine tl_goto (tgt := 74) dX9_load_114 (by decide) (?_)
          exact ih _ _ _ _  h1 h

theorem l9_load_p45 {E : tl_E}  {t : Nat} {r : Int32} {v : tl_S} : ∀ (n : Nat) (a1 : Nat) (x2 : Int32) (u : tl_S) (d2 : Option Value), tl_T E.2.1 a1 = some 9 → f9_load_p45 n a1 x2 u = some (t, r, v) → tl_R E mX9_load tl_XT (tl_ZX E mX9_load t (some (.int r)) v) 1 6 (tl_HB E u) 45 [some (.ref a1), some (.int x2), d2] [] := by
  intro n
  induction n with
  | zero => intro a1 x2 u d2 h1 h; exact absurd h (by simp [f9_load_p45])
  | succ n ih =>
    intro a1 x2 u d2 h1 h
    rw [f9_load_p45] at h
    refine tl_iload_n dX9_load_45 rfl (tl_iconst (v := 2) dX9_load_46 ic_2 (tl_icmp_ge (tgt := 63) dX9_load_47 (by decide) (fun c4 => ?_) (fun c4 => ?_)))
    · replace h := tl_ip h c4
      obtain ⟨u6, e5, h⟩ := tl_bi h
      refine tl_iconst (v := 0) dX9_load_63 ic_0 (tl_istore_n dX9_load_64 (Nat.le_of_ble_eq_true rfl) (tl_aload_n dX9_load_65 rfl (tl_getr (f := 0) (o := 1) tl_ck9 dX9_load_66 fl_X9_12 (Nat.le_of_ble_eq_true rfl) rfl h1 (tl_vV0 tl_ck6 rfl (tt_9_0 h1) (l6_startCommands (tt_9_0 h1) e5) dX9_load_69 cs_X9_load_69 ⟨rfl, rfl⟩ ⟨Nat.le_of_ble_eq_true rfl, Nat.le_of_ble_eq_true rfl⟩ (Nat.le_of_ble_eq_true rfl) (tl_iconst (v := 0) dX9_load_72 ic_0 (tl_istore_n dX9_load_73 (Nat.le_of_ble_eq_true rfl) (?_)))))))
      exact l9_load_p74 tl_F _ _ _ _  h1 h
    · replace h := tl_in h c4
      obtain ⟨g5, h⟩ := tl_gi h
      refine tl_aload_n dX9_load_50 rfl (tl_getr (f := 7) (o := 500) tl_ck9 dX9_load_51 fl_X9_47 (Nat.le_of_ble_eq_true rfl) rfl h1 (tl_iload_n dX9_load_54 rfl (tl_iconst (v := 0) dX9_load_55 ic_0 (tl_zastK dX9_load_56 (tt_9_7 h1) (x2.toNatClampNeg) g5 rfl (Or.inl rfl) (fun u6 e => ?_)))))
      have h := tl_leteq e h
      clear e
      refine tl_iincK dX9_load_57 rfl (ii_1 _) (Nat.le_of_ble_eq_true rfl) (fun x7 e => ?_)
      have h := tl_leteq e h
      clear e
      refine tl_goto (tgt := 45) dX9_load_60 (by decide) (?_)
      exact ih _ _ _ _ h1 h

theorem l9_load {E : tl_E} {a0 : Nat}  {u : tl_S} {t : Nat} {r : Int32} {v : tl_S} (h0 : tl_T E.2.1 a0 = some 9) (h : f9_load a0 u = some (t, r, v)) : tl_MX E mX9_load [.ref a0] u t (some (.int r)) v := by
  unfold f9_load at h
  refine tl_startX [some (.ref a0), none, none] rfl rfl rfl (Nat.le_of_ble_eq_true rfl) ?_
  obtain ⟨x4, u3, e2, h⟩ := tl_b2i h
  refine tl_iconst (v := 1) dX9_load_0 ic_1 (tl_iconst (v := 1) dX9_load_1 ic_1 (tl_aload_n dX9_load_2 rfl (tl_getr (f := 0) (o := 1) tl_ck9 dX9_load_3 fl_X9_12 (Nat.le_of_ble_eq_true rfl) rfl h0 (tl_aload_n dX9_load_6 rfl (tl_getr (f := 1) (o := 3) tl_ck9 dX9_load_7 fl_X9_19 (Nat.le_of_ble_eq_true rfl) rfl h0 (tl_iV1 tl_ck6 rfl (tt_9_0 h0) (l6_findError (tt_9_0 h0) (tt_9_1 h0) e2) dX9_load_10 cs_X9_load_10 ⟨rfl, rfl⟩ ⟨Nat.le_of_ble_eq_true rfl, Nat.le_of_ble_eq_true rfl⟩ (Nat.le_of_ble_eq_true rfl) (tl_iconst (v := (-1)) dX9_load_13 ic_m1 (tl_icmp_ne (tgt := 21) dX9_load_14 (by decide) (fun c5 => ?_) (fun c5 => ?_)))))))))
  · replace h := tl_in h c5
    refine tl_iconst (v := 0) dX9_load_21 ic_0 (?_)
    rcases tl_bxi h with ⟨x8, u7, e6, h⟩ | ⟨t1, x8, e6, et⟩
    rotate_left
    · subst et; exact tl_xS3t (l9_demand  e6) dX9_load_22 cs_X9_load_22 ⟨Nat.le_of_ble_eq_true rfl, Nat.le_of_ble_eq_true rfl⟩ (Nat.le_of_ble_eq_true rfl)
    obtain ⟨u10, e9, h⟩ := tl_bi h
    obtain ⟨u12, e11, h⟩ := tl_bi h
    refine tl_xS3v (l9_demand  e6) dX9_load_22 cs_X9_load_22 ⟨Nat.le_of_ble_eq_true rfl, Nat.le_of_ble_eq_true rfl⟩ (Nat.le_of_ble_eq_true rfl) (tl_aload_n dX9_load_25 rfl (tl_getr (f := 2) (o := 4) tl_ck9 dX9_load_26 fl_X9_26 (Nat.le_of_ble_eq_true rfl) rfl h0 (tl_aload_n dX9_load_29 rfl (tl_getr (f := 3) (o := 33) tl_ck9 dX9_load_30 fl_X9_30 (Nat.le_of_ble_eq_true rfl) rfl h0 (tl_vV1 tl_ck5 rfl (tt_9_2 h0) (l5_copyFrom (tt_9_2 h0) (tt_9_3 h0) e9) dX9_load_33 cs_X9_load_33 ⟨rfl, rfl⟩ ⟨Nat.le_of_ble_eq_true rfl, Nat.le_of_ble_eq_true rfl⟩ (Nat.le_of_ble_eq_true rfl) (tl_aload_n dX9_load_36 rfl (tl_getr (f := 5) (o := 91) tl_ck9 dX9_load_37 fl_X9_39 (Nat.le_of_ble_eq_true rfl) rfl h0 (tl_vV0 tl_ck2 rfl (tt_9_5 h0) (l2_forgetAll (tt_9_5 h0) e11) dX9_load_40 cs_X9_load_40 ⟨rfl, rfl⟩ ⟨Nat.le_of_ble_eq_true rfl, Nat.le_of_ble_eq_true rfl⟩ (Nat.le_of_ble_eq_true rfl) (tl_iconst (v := 0) dX9_load_43 ic_0 (tl_istore_n dX9_load_44 (Nat.le_of_ble_eq_true rfl) (?_)))))))))))
    exact l9_load_p45 tl_F _ _ _ _ h0 h
  · replace h := tl_ip h c5
    refine tl_iconst (v := 1) dX9_load_17 ic_1 (tl_goto (tgt := 22) dX9_load_18 (by decide) (?_))
    rcases tl_bxi h with ⟨x8, u7, e6, h⟩ | ⟨t1, x8, e6, et⟩
    rotate_left
    · subst et; exact tl_xS3t (l9_demand  e6) dX9_load_22 cs_X9_load_22 ⟨Nat.le_of_ble_eq_true rfl, Nat.le_of_ble_eq_true rfl⟩ (Nat.le_of_ble_eq_true rfl)
    obtain ⟨u10, e9, h⟩ := tl_bi h
    obtain ⟨u12, e11, h⟩ := tl_bi h
    refine tl_xS3v (l9_demand  e6) dX9_load_22 cs_X9_load_22 ⟨Nat.le_of_ble_eq_true rfl, Nat.le_of_ble_eq_true rfl⟩ (Nat.le_of_ble_eq_true rfl) (tl_aload_n dX9_load_25 rfl (tl_getr (f := 2) (o := 4) tl_ck9 dX9_load_26 fl_X9_26 (Nat.le_of_ble_eq_true rfl) rfl h0 (tl_aload_n dX9_load_29 rfl (tl_getr (f := 3) (o := 33) tl_ck9 dX9_load_30 fl_X9_30 (Nat.le_of_ble_eq_true rfl) rfl h0 (tl_vV1 tl_ck5 rfl (tt_9_2 h0) (l5_copyFrom (tt_9_2 h0) (tt_9_3 h0) e9) dX9_load_33 cs_X9_load_33 ⟨rfl, rfl⟩ ⟨Nat.le_of_ble_eq_true rfl, Nat.le_of_ble_eq_true rfl⟩ (Nat.le_of_ble_eq_true rfl) (tl_aload_n dX9_load_36 rfl (tl_getr (f := 5) (o := 91) tl_ck9 dX9_load_37 fl_X9_39 (Nat.le_of_ble_eq_true rfl) rfl h0 (tl_vV0 tl_ck2 rfl (tt_9_5 h0) (l2_forgetAll (tt_9_5 h0) e11) dX9_load_40 cs_X9_load_40 ⟨rfl, rfl⟩ ⟨Nat.le_of_ble_eq_true rfl, Nat.le_of_ble_eq_true rfl⟩ (Nat.le_of_ble_eq_true rfl) (tl_iconst (v := 0) dX9_load_43 ic_0 (tl_istore_n dX9_load_44 (Nat.le_of_ble_eq_true rfl) (?_)))))))))))
    exact l9_load_p45 tl_F _ _ _ _ h0 h

theorem cs_X9_about_5 : tl_cS mX9_about mX9_isWithin 51 3 := ⟨cd_X9_isWithin, ml_X9_51, sm_X9_isWithin, in_X9, ⟨by decide, by decide, by decide +kernel⟩, Nat.le_of_ble_eq_true rfl, Nat.le_of_ble_eq_true rfl⟩
theorem cs_X9_about_9 : tl_cS mX9_about mX9_demand 59 3 := ⟨cd_X9_demand, ml_X9_59, sm_X9_demand, in_X9, ⟨by decide, by decide, by decide +kernel⟩, Nat.le_of_ble_eq_true rfl, Nat.le_of_ble_eq_true rfl⟩
theorem cs_X9_about_120 : tl_cV mX9_about mX5_oilInLamps 108 0 := ⟨cd_X5_oilInLamps, ml_X9_108, im_X5_oilInLamps, se_X5_oilInLamps, in_X5, ⟨by decide, by decide, by decide +kernel⟩, Nat.le_of_ble_eq_true rfl, Nat.le_of_ble_eq_true rfl⟩
def f9_about (a0 : Nat) (x1 : Int32) (u : tl_S) : Option (Nat × Int32 × tl_S) :=
  tl_b2 (f9_isWithin x1 0 12 u) (fun x5 u4 => tl_bx (f9_demand 1 x5 1 u4) (fun x8 u7 => (if x1.toInt < 0 ∨ 11 < x1.toInt then some (0, (u7.1 (a0 + 4) 13), u7) else (if x1.toInt = 0 then some (0, (u7.1 (a0 + 4) 4), u7) else (if x1.toInt = 1 then some (0, (u7.1 (a0 + 4) 5), u7) else (if x1.toInt = 2 then some (0, (u7.1 (a0 + 4) 6), u7) else (if x1.toInt = 3 then some (0, (u7.1 (a0 + 4) 7), u7) else (if x1.toInt = 4 then some (0, (u7.1 (a0 + 4) 8), u7) else (if x1.toInt = 5 then tl_b2 (f5_oilInLamps (a0 + 4) u7) (fun x13 u12 => some (0, x13, u12)) else (if x1.toInt = 6 then some (0, (u7.1 ((a0 + 4) + 4) 5), u7) else (if x1.toInt = 7 then some (0, (u7.1 (a0 + 4) 9), u7) else (if x1.toInt = 8 then some (0, (u7.1 (a0 + 4) 10), u7) else (if x1.toInt = 9 then some (0, (u7.1 (a0 + 4) 11), u7) else (if x1.toInt = 10 then some (0, (u7.1 ((a0 + 4) + 4) 1), u7) else some (0, (u7.1 (a0 + 4) 12), u7)))))))))))))))

theorem l9_about {E : tl_E} {a0 : Nat} {x1 : Int32}  {u : tl_S} {t : Nat} {r : Int32} {v : tl_S} (h0 : tl_T E.2.1 a0 = some 9) (h : f9_about a0 x1 u = some (t, r, v)) : tl_MX E mX9_about [.ref a0, .int x1] u t (some (.int r)) v := by
  unfold f9_about at h
  refine tl_startX [some (.ref a0), some (.int x1)] rfl rfl rfl (Nat.le_of_ble_eq_true rfl) ?_
  obtain ⟨x5, u4, e3, h⟩ := tl_b2i h
  refine tl_iconst (v := 1) dX9_about_0 ic_1 (tl_iload_n dX9_about_1 rfl (tl_iconst (v := 0) dX9_about_2 ic_0 (tl_bipush (v := 12) dX9_about_3 bp_12 (tl_iS3 (l9_isWithin  e3) dX9_about_5 cs_X9_about_5 ⟨rfl, rfl⟩ ⟨Nat.le_of_ble_eq_true rfl, Nat.le_of_ble_eq_true rfl⟩ (Nat.le_of_ble_eq_true rfl) (tl_iconst (v := 1) dX9_about_8 ic_1 (?_))))))
  rcases tl_bxi h with ⟨x8, u7, e6, h⟩ | ⟨t1, x8, e6, et⟩
  rotate_left
  · subst et; exact tl_xS3t (l9_demand  e6) dX9_about_9 cs_X9_about_9 ⟨Nat.le_of_ble_eq_true rfl, Nat.le_of_ble_eq_true rfl⟩ (Nat.le_of_ble_eq_true rfl)
  refine tl_xS3v (l9_demand  e6) dX9_about_9 cs_X9_about_9 ⟨Nat.le_of_ble_eq_true rfl, Nat.le_of_ble_eq_true rfl⟩ (Nat.le_of_ble_eq_true rfl) (tl_iload_n dX9_about_12 rfl (?_))
  by_cases c9 : x1.toInt < 0 ∨ 11 < x1.toInt
  · replace h := tl_ip h c9
    refine tl_tableOut (tgt := 178) dX9_about_13 c9 (by decide) ?_
    exact tl_aload_n dX9_about_178 rfl (tl_getr (f := 2) (o := 4) tl_ck9 dX9_about_179 fl_X9_26 (Nat.le_of_ble_eq_true rfl) rfl h0 (tl_geti (f := 13) tl_ck5 dX9_about_182 fl_X9_135 (Nat.le_of_ble_eq_true rfl) rfl (tt_9_2 h0) (tl_iretX dX9_about_185 rfl rfl (Nat.le_of_ble_eq_true rfl) (Nat.le_of_ble_eq_true rfl) h)))
  replace h := tl_in h c9
  by_cases c10_0 : x1.toInt = 0
  · replace h := tl_ip h c10_0
    refine tl_tableIn (off := 63) (tgt := 76) dX9_about_13 (by omega) (by omega) (by rw [c10_0]; rfl) (by decide) ?_
    exact tl_aload_n dX9_about_76 rfl (tl_getr (f := 2) (o := 4) tl_ck9 dX9_about_77 fl_X9_26 (Nat.le_of_ble_eq_true rfl) rfl h0 (tl_geti (f := 4) tl_ck5 dX9_about_80 fl_X9_92 (Nat.le_of_ble_eq_true rfl) rfl (tt_9_2 h0) (tl_iretX dX9_about_83 rfl rfl (Nat.le_of_ble_eq_true rfl) (Nat.le_of_ble_eq_true rfl) h)))
  replace h := tl_in h c10_0
  by_cases c10_1 : x1.toInt = 1
  · replace h := tl_ip h c10_1
    refine tl_tableIn (off := 71) (tgt := 84) dX9_about_13 (by omega) (by omega) (by rw [c10_1]; rfl) (by decide) ?_
    exact tl_aload_n dX9_about_84 rfl (tl_getr (f := 2) (o := 4) tl_ck9 dX9_about_85 fl_X9_26 (Nat.le_of_ble_eq_true rfl) rfl h0 (tl_geti (f := 5) tl_ck5 dX9_about_88 fl_X9_96 (Nat.le_of_ble_eq_true rfl) rfl (tt_9_2 h0) (tl_iretX dX9_about_91 rfl rfl (Nat.le_of_ble_eq_true rfl) (Nat.le_of_ble_eq_true rfl) h)))
  replace h := tl_in h c10_1
  by_cases c10_2 : x1.toInt = 2
  · replace h := tl_ip h c10_2
    refine tl_tableIn (off := 79) (tgt := 92) dX9_about_13 (by omega) (by omega) (by rw [c10_2]; rfl) (by decide) ?_
    exact tl_aload_n dX9_about_92 rfl (tl_getr (f := 2) (o := 4) tl_ck9 dX9_about_93 fl_X9_26 (Nat.le_of_ble_eq_true rfl) rfl h0 (tl_geti (f := 6) tl_ck5 dX9_about_96 fl_X9_99 (Nat.le_of_ble_eq_true rfl) rfl (tt_9_2 h0) (tl_iretX dX9_about_99 rfl rfl (Nat.le_of_ble_eq_true rfl) (Nat.le_of_ble_eq_true rfl) h)))
  replace h := tl_in h c10_2
  by_cases c10_3 : x1.toInt = 3
  · replace h := tl_ip h c10_3
    refine tl_tableIn (off := 87) (tgt := 100) dX9_about_13 (by omega) (by omega) (by rw [c10_3]; rfl) (by decide) ?_
    exact tl_aload_n dX9_about_100 rfl (tl_getr (f := 2) (o := 4) tl_ck9 dX9_about_101 fl_X9_26 (Nat.le_of_ble_eq_true rfl) rfl h0 (tl_geti (f := 7) tl_ck5 dX9_about_104 fl_X9_102 (Nat.le_of_ble_eq_true rfl) rfl (tt_9_2 h0) (tl_iretX dX9_about_107 rfl rfl (Nat.le_of_ble_eq_true rfl) (Nat.le_of_ble_eq_true rfl) h)))
  replace h := tl_in h c10_3
  by_cases c10_4 : x1.toInt = 4
  · replace h := tl_ip h c10_4
    refine tl_tableIn (off := 95) (tgt := 108) dX9_about_13 (by omega) (by omega) (by rw [c10_4]; rfl) (by decide) ?_
    exact tl_aload_n dX9_about_108 rfl (tl_getr (f := 2) (o := 4) tl_ck9 dX9_about_109 fl_X9_26 (Nat.le_of_ble_eq_true rfl) rfl h0 (tl_geti (f := 8) tl_ck5 dX9_about_112 fl_X9_105 (Nat.le_of_ble_eq_true rfl) rfl (tt_9_2 h0) (tl_iretX dX9_about_115 rfl rfl (Nat.le_of_ble_eq_true rfl) (Nat.le_of_ble_eq_true rfl) h)))
  replace h := tl_in h c10_4
  by_cases c10_5 : x1.toInt = 5
  · replace h := tl_ip h c10_5
    refine tl_tableIn (off := 103) (tgt := 116) dX9_about_13 (by omega) (by omega) (by rw [c10_5]; rfl) (by decide) ?_
    obtain ⟨x13, u12, e11, h⟩ := tl_b2i h
    exact tl_aload_n dX9_about_116 rfl (tl_getr (f := 2) (o := 4) tl_ck9 dX9_about_117 fl_X9_26 (Nat.le_of_ble_eq_true rfl) rfl h0 (tl_iV0 tl_ck5 rfl (tt_9_2 h0) (l5_oilInLamps (tt_9_2 h0) e11) dX9_about_120 cs_X9_about_120 ⟨rfl, rfl⟩ ⟨Nat.le_of_ble_eq_true rfl, Nat.le_of_ble_eq_true rfl⟩ (Nat.le_of_ble_eq_true rfl) (tl_iretX dX9_about_123 rfl rfl (Nat.le_of_ble_eq_true rfl) (Nat.le_of_ble_eq_true rfl) h)))
  replace h := tl_in h c10_5
  by_cases c10_6 : x1.toInt = 6
  · replace h := tl_ip h c10_6
    refine tl_tableIn (off := 111) (tgt := 124) dX9_about_13 (by omega) (by omega) (by rw [c10_6]; rfl) (by decide) ?_
    exact tl_aload_n dX9_about_124 rfl (tl_getr (f := 2) (o := 4) tl_ck9 dX9_about_125 fl_X9_26 (Nat.le_of_ble_eq_true rfl) rfl h0 (tl_getr (f := 3) (o := 4) tl_ck5 dX9_about_128 fl_X9_111 (Nat.le_of_ble_eq_true rfl) rfl (tt_9_2 h0) (tl_geti (f := 5) tl_ck3 dX9_about_131 fl_X9_115 (Nat.le_of_ble_eq_true rfl) rfl (tt_5_3 (tt_9_2 h0)) (tl_iretX dX9_about_134 rfl rfl (Nat.le_of_ble_eq_true rfl) (Nat.le_of_ble_eq_true rfl) h))))
  replace h := tl_in h c10_6
  by_cases c10_7 : x1.toInt = 7
  · replace h := tl_ip h c10_7
    refine tl_tableIn (off := 122) (tgt := 135) dX9_about_13 (by omega) (by omega) (by rw [c10_7]; rfl) (by decide) ?_
    exact tl_aload_n dX9_about_135 rfl (tl_getr (f := 2) (o := 4) tl_ck9 dX9_about_136 fl_X9_26 (Nat.le_of_ble_eq_true rfl) rfl h0 (tl_geti (f := 9) tl_ck5 dX9_about_139 fl_X9_120 (Nat.le_of_ble_eq_true rfl) rfl (tt_9_2 h0) (tl_iretX dX9_about_142 rfl rfl (Nat.le_of_ble_eq_true rfl) (Nat.le_of_ble_eq_true rfl) h)))
  replace h := tl_in h c10_7
  by_cases c10_8 : x1.toInt = 8
  · replace h := tl_ip h c10_8
    refine tl_tableIn (off := 130) (tgt := 143) dX9_about_13 (by omega) (by omega) (by rw [c10_8]; rfl) (by decide) ?_
    exact tl_aload_n dX9_about_143 rfl (tl_getr (f := 2) (o := 4) tl_ck9 dX9_about_144 fl_X9_26 (Nat.le_of_ble_eq_true rfl) rfl h0 (tl_geti (f := 10) tl_ck5 dX9_about_147 fl_X9_123 (Nat.le_of_ble_eq_true rfl) rfl (tt_9_2 h0) (tl_iretX dX9_about_150 rfl rfl (Nat.le_of_ble_eq_true rfl) (Nat.le_of_ble_eq_true rfl) h)))
  replace h := tl_in h c10_8
  by_cases c10_9 : x1.toInt = 9
  · replace h := tl_ip h c10_9
    refine tl_tableIn (off := 138) (tgt := 151) dX9_about_13 (by omega) (by omega) (by rw [c10_9]; rfl) (by decide) ?_
    exact tl_aload_n dX9_about_151 rfl (tl_getr (f := 2) (o := 4) tl_ck9 dX9_about_152 fl_X9_26 (Nat.le_of_ble_eq_true rfl) rfl h0 (tl_geti (f := 11) tl_ck5 dX9_about_155 fl_X9_126 (Nat.le_of_ble_eq_true rfl) rfl (tt_9_2 h0) (tl_iretX dX9_about_158 rfl rfl (Nat.le_of_ble_eq_true rfl) (Nat.le_of_ble_eq_true rfl) h)))
  replace h := tl_in h c10_9
  by_cases c10_10 : x1.toInt = 10
  · replace h := tl_ip h c10_10
    refine tl_tableIn (off := 146) (tgt := 159) dX9_about_13 (by omega) (by omega) (by rw [c10_10]; rfl) (by decide) ?_
    exact tl_aload_n dX9_about_159 rfl (tl_getr (f := 2) (o := 4) tl_ck9 dX9_about_160 fl_X9_26 (Nat.le_of_ble_eq_true rfl) rfl h0 (tl_getr (f := 3) (o := 4) tl_ck5 dX9_about_163 fl_X9_111 (Nat.le_of_ble_eq_true rfl) rfl (tt_9_2 h0) (tl_geti (f := 1) tl_ck3 dX9_about_166 fl_X9_129 (Nat.le_of_ble_eq_true rfl) rfl (tt_5_3 (tt_9_2 h0)) (tl_iretX dX9_about_169 rfl rfl (Nat.le_of_ble_eq_true rfl) (Nat.le_of_ble_eq_true rfl) h))))
  replace h := tl_in h c10_10
  have c10_11 : x1.toInt = 11 := by omega
  refine tl_tableIn (off := 157) (tgt := 170) dX9_about_13 (by omega) (by omega) (by rw [c10_11]; rfl) (by decide) ?_
  exact tl_aload_n dX9_about_170 rfl (tl_getr (f := 2) (o := 4) tl_ck9 dX9_about_171 fl_X9_26 (Nat.le_of_ble_eq_true rfl) rfl h0 (tl_geti (f := 12) tl_ck5 dX9_about_174 fl_X9_132 (Nat.le_of_ble_eq_true rfl) rfl (tt_9_2 h0) (tl_iretX dX9_about_177 rfl rfl (Nat.le_of_ble_eq_true rfl) (Nat.le_of_ble_eq_true rfl) h)))

theorem cs_X9_galleryOf_5 : tl_cV mX9_galleryOf mX5_hasGallery 138 1 := ⟨cd_X5_hasGallery, ml_X9_138, im_X5_hasGallery, se_X5_hasGallery, in_X5, ⟨by decide, by decide, by decide +kernel⟩, Nat.le_of_ble_eq_true rfl, Nat.le_of_ble_eq_true rfl⟩
theorem cs_X9_galleryOf_11 : tl_cS mX9_galleryOf mX9_isWithin 51 3 := ⟨cd_X9_isWithin, ml_X9_51, sm_X9_isWithin, in_X9, ⟨by decide, by decide, by decide +kernel⟩, Nat.le_of_ble_eq_true rfl, Nat.le_of_ble_eq_true rfl⟩
theorem cs_X9_galleryOf_15 : tl_cS mX9_galleryOf mX9_demand 59 3 := ⟨cd_X9_demand, ml_X9_59, sm_X9_demand, in_X9, ⟨by decide, by decide, by decide +kernel⟩, Nat.le_of_ble_eq_true rfl, Nat.le_of_ble_eq_true rfl⟩
theorem cs_X9_galleryOf_118 : tl_cV mX9_galleryOf mX5_lampsIn 166 1 := ⟨cd_X5_lampsIn, ml_X9_166, im_X5_lampsIn, se_X5_lampsIn, in_X5, ⟨by decide, by decide, by decide +kernel⟩, Nat.le_of_ble_eq_true rfl, Nat.le_of_ble_eq_true rfl⟩
theorem cs_X9_galleryOf_79 : tl_cS mX9_galleryOf mX9_strokesFor 154 2 := ⟨cd_X9_strokesFor, ml_X9_154, sm_X9_strokesFor, in_X9, ⟨by decide, by decide, by decide +kernel⟩, Nat.le_of_ble_eq_true rfl, Nat.le_of_ble_eq_true rfl⟩
theorem cs_X9_galleryOf_92 : tl_cV mX9_galleryOf mX5_isLit 158 2 := ⟨cd_X5_isLit, ml_X9_158, im_X5_isLit, se_X5_isLit, in_X5, ⟨by decide, by decide, by decide +kernel⟩, Nat.le_of_ble_eq_true rfl, Nat.le_of_ble_eq_true rfl⟩
theorem cs_X9_galleryOf_109 : tl_cV mX9_galleryOf mX5_minersIn 162 1 := ⟨cd_X5_minersIn, ml_X9_162, im_X5_minersIn, se_X5_minersIn, in_X5, ⟨by decide, by decide, by decide +kernel⟩, Nat.le_of_ble_eq_true rfl, Nat.le_of_ble_eq_true rfl⟩
def f9_galleryOf (a0 : Nat) (x1 : Int32) (x2 : Int32) (u : tl_S) : Option (Nat × Int32 × tl_S) :=
  tl_b2 (f5_hasGallery (a0 + 4) x1 u) (fun x6 u5 => tl_b2 (f9_isWithin x2 0 5 u5) (fun x9 u8 => tl_bx (f9_demand x6 x9 1 u8) (fun x12 u11 => tl_g (¬ (x1 < 0 ∨ 3 ≤ x1.toNatClampNeg)) ((if x2.toInt < 0 ∨ 4 < x2.toInt then tl_b2 (f5_lampsIn (a0 + 4) x1 u11) (fun x18 u17 => some (0, x18, u17)) else (if x2.toInt = 0 then some (0, (u11.1 (((a0 + 4) + 1) + (11 + x1.toNatClampNeg)) 0), u11) else (if x2.toInt = 1 then some (0, (u11.1 (((a0 + 4) + 1) + (11 + x1.toNatClampNeg)) 1), u11) else (if x2.toInt = 2 then tl_b2 (f9_strokesFor x1 (u11.1 (((a0 + 4) + 1) + (11 + x1.toNatClampNeg)) 0) u11) (fun x18 u17 => some (0, x18, u17)) else (if x2.toInt = 3 then tl_b2 (f5_isLit (a0 + 4) x1 (u11.1 (((a0 + 4) + 1) + (11 + x1.toNatClampNeg)) 0) u11) (fun x18 u17 => (if x18 = 0 then some (0, 0, u17) else some (0, 1, u17))) else tl_b2 (f5_minersIn (a0 + 4) x1 u11) (fun x18 u17 => some (0, x18, u17)))))))))))

theorem l9_galleryOf {E : tl_E} {a0 : Nat} {x1 : Int32} {x2 : Int32}  {u : tl_S} {t : Nat} {r : Int32} {v : tl_S} (h0 : tl_T E.2.1 a0 = some 9) (h : f9_galleryOf a0 x1 x2 u = some (t, r, v)) : tl_MX E mX9_galleryOf [.ref a0, .int x1, .int x2] u t (some (.int r)) v := by
  unfold f9_galleryOf at h
  refine tl_startX [some (.ref a0), some (.int x1), some (.int x2), none] rfl rfl rfl (Nat.le_of_ble_eq_true rfl) ?_
  obtain ⟨x6, u5, e4, h⟩ := tl_b2i h
  obtain ⟨x9, u8, e7, h⟩ := tl_b2i h
  refine tl_aload_n dX9_galleryOf_0 rfl (tl_getr (f := 2) (o := 4) tl_ck9 dX9_galleryOf_1 fl_X9_26 (Nat.le_of_ble_eq_true rfl) rfl h0 (tl_iload_n dX9_galleryOf_4 rfl (tl_iV1 tl_ck5 rfl (tt_9_2 h0) (l5_hasGallery (tt_9_2 h0) e4) dX9_galleryOf_5 cs_X9_galleryOf_5 ⟨rfl, rfl⟩ ⟨Nat.le_of_ble_eq_true rfl, Nat.le_of_ble_eq_true rfl⟩ (Nat.le_of_ble_eq_true rfl) (tl_iload_n dX9_galleryOf_8 rfl (tl_iconst (v := 0) dX9_galleryOf_9 ic_0 (tl_iconst (v := 5) dX9_galleryOf_10 ic_5 (tl_iS3 (l9_isWithin  e7) dX9_galleryOf_11 cs_X9_galleryOf_11 ⟨rfl, rfl⟩ ⟨Nat.le_of_ble_eq_true rfl, Nat.le_of_ble_eq_true rfl⟩ (Nat.le_of_ble_eq_true rfl) (tl_iconst (v := 1) dX9_galleryOf_14 ic_1 (?_)))))))))
  rcases tl_bxi h with ⟨x12, u11, e10, h⟩ | ⟨t1, x12, e10, et⟩
  rotate_left
  · subst et; exact tl_xS3t (l9_demand  e10) dX9_galleryOf_15 cs_X9_galleryOf_15 ⟨Nat.le_of_ble_eq_true rfl, Nat.le_of_ble_eq_true rfl⟩ (Nat.le_of_ble_eq_true rfl)
  obtain ⟨g13, h⟩ := tl_gi h
  refine tl_xS3v (l9_demand  e10) dX9_galleryOf_15 cs_X9_galleryOf_15 ⟨Nat.le_of_ble_eq_true rfl, Nat.le_of_ble_eq_true rfl⟩ (Nat.le_of_ble_eq_true rfl) (tl_aload_n dX9_galleryOf_18 rfl (tl_getr (f := 2) (o := 4) tl_ck9 dX9_galleryOf_19 fl_X9_26 (Nat.le_of_ble_eq_true rfl) rfl h0 (tl_getr (f := 0) (o := 1) tl_ck5 dX9_galleryOf_22 fl_X9_142 (Nat.le_of_ble_eq_true rfl) rfl (tt_9_2 h0) (tl_iload_n dX9_galleryOf_25 rfl (tl_ald18 dX9_galleryOf_26 (tt_5_0 (tt_9_2 h0)) (x1.toNatClampNeg) g13 rfl (tl_astore_n dX9_galleryOf_27 (Nat.le_of_ble_eq_true rfl) (tl_iload_n dX9_galleryOf_28 rfl (?_))))))))
  by_cases c14 : x2.toInt < 0 ∨ 4 < x2.toInt
  · replace h := tl_ip h c14
    refine tl_tableOut (tgt := 113) dX9_galleryOf_29 c14 (by decide) ?_
    obtain ⟨x18, u17, e16, h⟩ := tl_b2i h
    exact tl_aload_n dX9_galleryOf_113 rfl (tl_getr (f := 2) (o := 4) tl_ck9 dX9_galleryOf_114 fl_X9_26 (Nat.le_of_ble_eq_true rfl) rfl h0 (tl_iload_n dX9_galleryOf_117 rfl (tl_iV1 tl_ck5 rfl (tt_9_2 h0) (l5_lampsIn (tt_9_2 h0) e16) dX9_galleryOf_118 cs_X9_galleryOf_118 ⟨rfl, rfl⟩ ⟨Nat.le_of_ble_eq_true rfl, Nat.le_of_ble_eq_true rfl⟩ (Nat.le_of_ble_eq_true rfl) (tl_iretX dX9_galleryOf_121 rfl rfl (Nat.le_of_ble_eq_true rfl) (Nat.le_of_ble_eq_true rfl) h))))
  replace h := tl_in h c14
  by_cases c15_0 : x2.toInt = 0
  · replace h := tl_ip h c15_0
    refine tl_tableIn (off := 35) (tgt := 64) dX9_galleryOf_29 (by omega) (by omega) (by rw [c15_0]; rfl) (by decide) ?_
    exact tl_aload_n dX9_galleryOf_64 rfl (tl_geti (f := 0) tl_ck1 dX9_galleryOf_65 fl_X9_146 (Nat.le_of_ble_eq_true rfl) rfl (ta_18 (tt_5_0 (tt_9_2 h0)) (tl_inlt g13)) (tl_iretX dX9_galleryOf_68 rfl rfl (Nat.le_of_ble_eq_true rfl) (Nat.le_of_ble_eq_true rfl) h))
  replace h := tl_in h c15_0
  by_cases c15_1 : x2.toInt = 1
  · replace h := tl_ip h c15_1
    refine tl_tableIn (off := 40) (tgt := 69) dX9_galleryOf_29 (by omega) (by omega) (by rw [c15_1]; rfl) (by decide) ?_
    exact tl_aload_n dX9_galleryOf_69 rfl (tl_geti (f := 1) tl_ck1 dX9_galleryOf_70 fl_X9_151 (Nat.le_of_ble_eq_true rfl) rfl (ta_18 (tt_5_0 (tt_9_2 h0)) (tl_inlt g13)) (tl_iretX dX9_galleryOf_73 rfl rfl (Nat.le_of_ble_eq_true rfl) (Nat.le_of_ble_eq_true rfl) h))
  replace h := tl_in h c15_1
  by_cases c15_2 : x2.toInt = 2
  · replace h := tl_ip h c15_2
    refine tl_tableIn (off := 45) (tgt := 74) dX9_galleryOf_29 (by omega) (by omega) (by rw [c15_2]; rfl) (by decide) ?_
    obtain ⟨x18, u17, e16, h⟩ := tl_b2i h
    exact tl_iload_n dX9_galleryOf_74 rfl (tl_aload_n dX9_galleryOf_75 rfl (tl_geti (f := 0) tl_ck1 dX9_galleryOf_76 fl_X9_146 (Nat.le_of_ble_eq_true rfl) rfl (ta_18 (tt_5_0 (tt_9_2 h0)) (tl_inlt g13)) (tl_iS2 (l9_strokesFor  e16) dX9_galleryOf_79 cs_X9_galleryOf_79 ⟨rfl, rfl⟩ ⟨Nat.le_of_ble_eq_true rfl, Nat.le_of_ble_eq_true rfl⟩ (Nat.le_of_ble_eq_true rfl) (tl_iretX dX9_galleryOf_82 rfl rfl (Nat.le_of_ble_eq_true rfl) (Nat.le_of_ble_eq_true rfl) h))))
  replace h := tl_in h c15_2
  by_cases c15_3 : x2.toInt = 3
  · replace h := tl_ip h c15_3
    refine tl_tableIn (off := 54) (tgt := 83) dX9_galleryOf_29 (by omega) (by omega) (by rw [c15_3]; rfl) (by decide) ?_
    obtain ⟨x18, u17, e16, h⟩ := tl_b2i h
    refine tl_aload_n dX9_galleryOf_83 rfl (tl_getr (f := 2) (o := 4) tl_ck9 dX9_galleryOf_84 fl_X9_26 (Nat.le_of_ble_eq_true rfl) rfl h0 (tl_iload_n dX9_galleryOf_87 rfl (tl_aload_n dX9_galleryOf_88 rfl (tl_geti (f := 0) tl_ck1 dX9_galleryOf_89 fl_X9_146 (Nat.le_of_ble_eq_true rfl) rfl (ta_18 (tt_5_0 (tt_9_2 h0)) (tl_inlt g13)) (tl_iV2 tl_ck5 rfl (tt_9_2 h0) (l5_isLit (tt_9_2 h0) e16) dX9_galleryOf_92 cs_X9_galleryOf_92 ⟨rfl, rfl⟩ ⟨Nat.le_of_ble_eq_true rfl, Nat.le_of_ble_eq_true rfl⟩ (Nat.le_of_ble_eq_true rfl) (tl_if_eq (tgt := 102) dX9_galleryOf_95 (by decide) (fun c19 => ?_) (fun c19 => ?_)))))))
    · replace h := tl_ip h c19
      exact tl_iconst (v := 0) dX9_galleryOf_102 ic_0 (tl_iretX dX9_galleryOf_103 rfl rfl (Nat.le_of_ble_eq_true rfl) (Nat.le_of_ble_eq_true rfl) h)
    · replace h := tl_in h c19
      exact tl_iconst (v := 1) dX9_galleryOf_98 ic_1 (tl_goto (tgt := 103) dX9_galleryOf_99 (by decide) (tl_iretX dX9_galleryOf_103 rfl rfl (Nat.le_of_ble_eq_true rfl) (Nat.le_of_ble_eq_true rfl) h))
  replace h := tl_in h c15_3
  have c15_4 : x2.toInt = 4 := by omega
  refine tl_tableIn (off := 75) (tgt := 104) dX9_galleryOf_29 (by omega) (by omega) (by rw [c15_4]; rfl) (by decide) ?_
  obtain ⟨x18, u17, e16, h⟩ := tl_b2i h
  exact tl_aload_n dX9_galleryOf_104 rfl (tl_getr (f := 2) (o := 4) tl_ck9 dX9_galleryOf_105 fl_X9_26 (Nat.le_of_ble_eq_true rfl) rfl h0 (tl_iload_n dX9_galleryOf_108 rfl (tl_iV1 tl_ck5 rfl (tt_9_2 h0) (l5_minersIn (tt_9_2 h0) e16) dX9_galleryOf_109 cs_X9_galleryOf_109 ⟨rfl, rfl⟩ ⟨Nat.le_of_ble_eq_true rfl, Nat.le_of_ble_eq_true rfl⟩ (Nat.le_of_ble_eq_true rfl) (tl_iretX dX9_galleryOf_112 rfl rfl (Nat.le_of_ble_eq_true rfl) (Nat.le_of_ble_eq_true rfl) h))))

theorem cs_X9_minerOf_5 : tl_cV mX9_minerOf mX5_hasMiner 169 1 := ⟨cd_X5_hasMiner, ml_X9_169, im_X5_hasMiner, se_X5_hasMiner, in_X5, ⟨by decide, by decide, by decide +kernel⟩, Nat.le_of_ble_eq_true rfl, Nat.le_of_ble_eq_true rfl⟩
theorem cs_X9_minerOf_11 : tl_cS mX9_minerOf mX9_isWithin 51 3 := ⟨cd_X9_isWithin, ml_X9_51, sm_X9_isWithin, in_X9, ⟨by decide, by decide, by decide +kernel⟩, Nat.le_of_ble_eq_true rfl, Nat.le_of_ble_eq_true rfl⟩
theorem cs_X9_minerOf_15 : tl_cS mX9_minerOf mX9_demand 59 3 := ⟨cd_X9_demand, ml_X9_59, sm_X9_demand, in_X9, ⟨by decide, by decide, by decide +kernel⟩, Nat.le_of_ble_eq_true rfl, Nat.le_of_ble_eq_true rfl⟩
def f9_minerOf (a0 : Nat) (x1 : Int32) (x2 : Int32) (u : tl_S) : Option (Nat × Int32 × tl_S) :=
  tl_b2 (f5_hasMiner (a0 + 4) x1 u) (fun x6 u5 => tl_b2 (f9_isWithin x2 0 3 u5) (fun x9 u8 => tl_bx (f9_demand x6 x9 1 u8) (fun x12 u11 => tl_g (¬ (x1 < 0 ∨ 6 ≤ x1.toNatClampNeg)) ((if x2.toInt < 0 ∨ 2 < x2.toInt then some (0, (u11.1 (((a0 + 4) + 2) + (13 + x1.toNatClampNeg)) 3), u11) else (if x2.toInt = 0 then some (0, (u11.1 (((a0 + 4) + 2) + (13 + x1.toNatClampNeg)) 0), u11) else (if x2.toInt = 1 then some (0, (u11.1 (((a0 + 4) + 2) + (13 + x1.toNatClampNeg)) 1), u11) else some (0, (u11.1 (((a0 + 4) + 2) + (13 + x1.toNatClampNeg)) 2), u11))))))))

theorem l9_minerOf {E : tl_E} {a0 : Nat} {x1 : Int32} {x2 : Int32}  {u : tl_S} {t : Nat} {r : Int32} {v : tl_S} (h0 : tl_T E.2.1 a0 = some 9) (h : f9_minerOf a0 x1 x2 u = some (t, r, v)) : tl_MX E mX9_minerOf [.ref a0, .int x1, .int x2] u t (some (.int r)) v := by
  unfold f9_minerOf at h
  refine tl_startX [some (.ref a0), some (.int x1), some (.int x2), none] rfl rfl rfl (Nat.le_of_ble_eq_true rfl) ?_
  obtain ⟨x6, u5, e4, h⟩ := tl_b2i h
  obtain ⟨x9, u8, e7, h⟩ := tl_b2i h
  refine tl_aload_n dX9_minerOf_0 rfl (tl_getr (f := 2) (o := 4) tl_ck9 dX9_minerOf_1 fl_X9_26 (Nat.le_of_ble_eq_true rfl) rfl h0 (tl_iload_n dX9_minerOf_4 rfl (tl_iV1 tl_ck5 rfl (tt_9_2 h0) (l5_hasMiner (tt_9_2 h0) e4) dX9_minerOf_5 cs_X9_minerOf_5 ⟨rfl, rfl⟩ ⟨Nat.le_of_ble_eq_true rfl, Nat.le_of_ble_eq_true rfl⟩ (Nat.le_of_ble_eq_true rfl) (tl_iload_n dX9_minerOf_8 rfl (tl_iconst (v := 0) dX9_minerOf_9 ic_0 (tl_iconst (v := 3) dX9_minerOf_10 ic_3 (tl_iS3 (l9_isWithin  e7) dX9_minerOf_11 cs_X9_minerOf_11 ⟨rfl, rfl⟩ ⟨Nat.le_of_ble_eq_true rfl, Nat.le_of_ble_eq_true rfl⟩ (Nat.le_of_ble_eq_true rfl) (tl_iconst (v := 1) dX9_minerOf_14 ic_1 (?_)))))))))
  rcases tl_bxi h with ⟨x12, u11, e10, h⟩ | ⟨t1, x12, e10, et⟩
  rotate_left
  · subst et; exact tl_xS3t (l9_demand  e10) dX9_minerOf_15 cs_X9_minerOf_15 ⟨Nat.le_of_ble_eq_true rfl, Nat.le_of_ble_eq_true rfl⟩ (Nat.le_of_ble_eq_true rfl)
  obtain ⟨g13, h⟩ := tl_gi h
  refine tl_xS3v (l9_demand  e10) dX9_minerOf_15 cs_X9_minerOf_15 ⟨Nat.le_of_ble_eq_true rfl, Nat.le_of_ble_eq_true rfl⟩ (Nat.le_of_ble_eq_true rfl) (tl_aload_n dX9_minerOf_18 rfl (tl_getr (f := 2) (o := 4) tl_ck9 dX9_minerOf_19 fl_X9_26 (Nat.le_of_ble_eq_true rfl) rfl h0 (tl_getr (f := 1) (o := 2) tl_ck5 dX9_minerOf_22 fl_X9_172 (Nat.le_of_ble_eq_true rfl) rfl (tt_9_2 h0) (tl_iload_n dX9_minerOf_25 rfl (tl_ald19 dX9_minerOf_26 (tt_5_1 (tt_9_2 h0)) (x1.toNatClampNeg) g13 rfl (tl_astore_n dX9_minerOf_27 (Nat.le_of_ble_eq_true rfl) (tl_iload_n dX9_minerOf_28 rfl (?_))))))))
  by_cases c14 : x2.toInt < 0 ∨ 2 < x2.toInt
  · replace h := tl_ip h c14
    refine tl_tableOut (tgt := 71) dX9_minerOf_29 c14 (by decide) ?_
    exact tl_aload_n dX9_minerOf_71 rfl (tl_geti (f := 3) tl_ck7 dX9_minerOf_72 fl_X9_185 (Nat.le_of_ble_eq_true rfl) rfl (ta_19 (tt_5_1 (tt_9_2 h0)) (tl_inlt g13)) (tl_iretX dX9_minerOf_75 rfl rfl (Nat.le_of_ble_eq_true rfl) (Nat.le_of_ble_eq_true rfl) h))
  replace h := tl_in h c14
  by_cases c15_0 : x2.toInt = 0
  · replace h := tl_ip h c15_0
    refine tl_tableIn (off := 27) (tgt := 56) dX9_minerOf_29 (by omega) (by omega) (by rw [c15_0]; rfl) (by decide) ?_
    exact tl_aload_n dX9_minerOf_56 rfl (tl_geti (f := 0) tl_ck7 dX9_minerOf_57 fl_X9_176 (Nat.le_of_ble_eq_true rfl) rfl (ta_19 (tt_5_1 (tt_9_2 h0)) (tl_inlt g13)) (tl_iretX dX9_minerOf_60 rfl rfl (Nat.le_of_ble_eq_true rfl) (Nat.le_of_ble_eq_true rfl) h))
  replace h := tl_in h c15_0
  by_cases c15_1 : x2.toInt = 1
  · replace h := tl_ip h c15_1
    refine tl_tableIn (off := 32) (tgt := 61) dX9_minerOf_29 (by omega) (by omega) (by rw [c15_1]; rfl) (by decide) ?_
    exact tl_aload_n dX9_minerOf_61 rfl (tl_geti (f := 1) tl_ck7 dX9_minerOf_62 fl_X9_181 (Nat.le_of_ble_eq_true rfl) rfl (ta_19 (tt_5_1 (tt_9_2 h0)) (tl_inlt g13)) (tl_iretX dX9_minerOf_65 rfl rfl (Nat.le_of_ble_eq_true rfl) (Nat.le_of_ble_eq_true rfl) h))
  replace h := tl_in h c15_1
  have c15_2 : x2.toInt = 2 := by omega
  refine tl_tableIn (off := 37) (tgt := 66) dX9_minerOf_29 (by omega) (by omega) (by rw [c15_2]; rfl) (by decide) ?_
  exact tl_aload_n dX9_minerOf_66 rfl (tl_geti (f := 2) tl_ck7 dX9_minerOf_67 fl_X9_184 (Nat.le_of_ble_eq_true rfl) rfl (ta_19 (tt_5_1 (tt_9_2 h0)) (tl_inlt g13)) (tl_iretX dX9_minerOf_70 rfl rfl (Nat.le_of_ble_eq_true rfl) (Nat.le_of_ble_eq_true rfl) h))

theorem cs_X9_lampOf_5 : tl_cV mX9_lampOf mX5_hasLamp 186 1 := ⟨cd_X5_hasLamp, ml_X9_186, im_X5_hasLamp, se_X5_hasLamp, in_X5, ⟨by decide, by decide, by decide +kernel⟩, Nat.le_of_ble_eq_true rfl, Nat.le_of_ble_eq_true rfl⟩
theorem cs_X9_lampOf_11 : tl_cS mX9_lampOf mX9_isWithin 51 3 := ⟨cd_X9_isWithin, ml_X9_51, sm_X9_isWithin, in_X9, ⟨by decide, by decide, by decide +kernel⟩, Nat.le_of_ble_eq_true rfl, Nat.le_of_ble_eq_true rfl⟩
theorem cs_X9_lampOf_15 : tl_cS mX9_lampOf mX9_demand 59 3 := ⟨cd_X9_demand, ml_X9_59, sm_X9_demand, in_X9, ⟨by decide, by decide, by decide +kernel⟩, Nat.le_of_ble_eq_true rfl, Nat.le_of_ble_eq_true rfl⟩
def f9_lampOf (a0 : Nat) (x1 : Int32) (x2 : Int32) (u : tl_S) : Option (Nat × Int32 × tl_S) :=
  tl_b2 (f5_hasLamp (a0 + 4) x1 u) (fun x6 u5 => tl_b2 (f9_isWithin x2 0 4 u5) (fun x9 u8 => tl_bx (f9_demand x6 x9 1 u8) (fun x12 u11 => tl_g (¬ (x1 < 0 ∨ 8 ≤ x1.toNatClampNeg)) ((if x2.toInt < 0 ∨ 3 < x2.toInt then (if (u11.1 (((a0 + 4) + 3) + (18 + x1.toNatClampNeg)) 3) ≤ 0 then some (0, 0, u11) else some (0, 1, u11)) else (if x2.toInt = 0 then some (0, (u11.1 (((a0 + 4) + 3) + (18 + x1.toNatClampNeg)) 2), u11) else (if x2.toInt = 1 then some (0, (u11.1 (((a0 + 4) + 3) + (18 + x1.toNatClampNeg)) 3), u11) else (if x2.toInt = 2 then some (0, (u11.1 (((a0 + 4) + 3) + (18 + x1.toNatClampNeg)) 0), u11) else some (0, (u11.1 (((a0 + 4) + 3) + (18 + x1.toNatClampNeg)) 1), u11)))))))))

theorem l9_lampOf {E : tl_E} {a0 : Nat} {x1 : Int32} {x2 : Int32}  {u : tl_S} {t : Nat} {r : Int32} {v : tl_S} (h0 : tl_T E.2.1 a0 = some 9) (h : f9_lampOf a0 x1 x2 u = some (t, r, v)) : tl_MX E mX9_lampOf [.ref a0, .int x1, .int x2] u t (some (.int r)) v := by
  unfold f9_lampOf at h
  refine tl_startX [some (.ref a0), some (.int x1), some (.int x2), none] rfl rfl rfl (Nat.le_of_ble_eq_true rfl) ?_
  obtain ⟨x6, u5, e4, h⟩ := tl_b2i h
  obtain ⟨x9, u8, e7, h⟩ := tl_b2i h
  refine tl_aload_n dX9_lampOf_0 rfl (tl_getr (f := 2) (o := 4) tl_ck9 dX9_lampOf_1 fl_X9_26 (Nat.le_of_ble_eq_true rfl) rfl h0 (tl_iload_n dX9_lampOf_4 rfl (tl_iV1 tl_ck5 rfl (tt_9_2 h0) (l5_hasLamp (tt_9_2 h0) e4) dX9_lampOf_5 cs_X9_lampOf_5 ⟨rfl, rfl⟩ ⟨Nat.le_of_ble_eq_true rfl, Nat.le_of_ble_eq_true rfl⟩ (Nat.le_of_ble_eq_true rfl) (tl_iload_n dX9_lampOf_8 rfl (tl_iconst (v := 0) dX9_lampOf_9 ic_0 (tl_iconst (v := 4) dX9_lampOf_10 ic_4 (tl_iS3 (l9_isWithin  e7) dX9_lampOf_11 cs_X9_lampOf_11 ⟨rfl, rfl⟩ ⟨Nat.le_of_ble_eq_true rfl, Nat.le_of_ble_eq_true rfl⟩ (Nat.le_of_ble_eq_true rfl) (tl_iconst (v := 1) dX9_lampOf_14 ic_1 (?_)))))))))
  rcases tl_bxi h with ⟨x12, u11, e10, h⟩ | ⟨t1, x12, e10, et⟩
  rotate_left
  · subst et; exact tl_xS3t (l9_demand  e10) dX9_lampOf_15 cs_X9_lampOf_15 ⟨Nat.le_of_ble_eq_true rfl, Nat.le_of_ble_eq_true rfl⟩ (Nat.le_of_ble_eq_true rfl)
  obtain ⟨g13, h⟩ := tl_gi h
  refine tl_xS3v (l9_demand  e10) dX9_lampOf_15 cs_X9_lampOf_15 ⟨Nat.le_of_ble_eq_true rfl, Nat.le_of_ble_eq_true rfl⟩ (Nat.le_of_ble_eq_true rfl) (tl_aload_n dX9_lampOf_18 rfl (tl_getr (f := 2) (o := 4) tl_ck9 dX9_lampOf_19 fl_X9_26 (Nat.le_of_ble_eq_true rfl) rfl h0 (tl_getr (f := 2) (o := 3) tl_ck5 dX9_lampOf_22 fl_X9_189 (Nat.le_of_ble_eq_true rfl) rfl (tt_9_2 h0) (tl_iload_n dX9_lampOf_25 rfl (tl_ald20 dX9_lampOf_26 (tt_5_2 (tt_9_2 h0)) (x1.toNatClampNeg) g13 rfl (tl_astore_n dX9_lampOf_27 (Nat.le_of_ble_eq_true rfl) (tl_iload_n dX9_lampOf_28 rfl (?_))))))))
  by_cases c14 : x2.toInt < 0 ∨ 3 < x2.toInt
  · replace h := tl_ip h c14
    refine tl_tableOut (tgt := 80) dX9_lampOf_29 c14 (by decide) ?_
    refine tl_aload_n dX9_lampOf_80 rfl (tl_geti (f := 3) tl_ck4 dX9_lampOf_81 fl_X9_198 (Nat.le_of_ble_eq_true rfl) rfl (ta_20 (tt_5_2 (tt_9_2 h0)) (tl_inlt g13)) (tl_if_le (tgt := 91) dX9_lampOf_84 (by decide) (fun c16 => ?_) (fun c16 => ?_)))
    · replace h := tl_ip h c16
      exact tl_iconst (v := 0) dX9_lampOf_91 ic_0 (tl_iretX dX9_lampOf_92 rfl rfl (Nat.le_of_ble_eq_true rfl) (Nat.le_of_ble_eq_true rfl) h)
    · replace h := tl_in h c16
      exact tl_iconst (v := 1) dX9_lampOf_87 ic_1 (tl_goto (tgt := 92) dX9_lampOf_88 (by decide) (tl_iretX dX9_lampOf_92 rfl rfl (Nat.le_of_ble_eq_true rfl) (Nat.le_of_ble_eq_true rfl) h))
  replace h := tl_in h c14
  by_cases c15_0 : x2.toInt = 0
  · replace h := tl_ip h c15_0
    refine tl_tableIn (off := 31) (tgt := 60) dX9_lampOf_29 (by omega) (by omega) (by rw [c15_0]; rfl) (by decide) ?_
    exact tl_aload_n dX9_lampOf_60 rfl (tl_geti (f := 2) tl_ck4 dX9_lampOf_61 fl_X9_193 (Nat.le_of_ble_eq_true rfl) rfl (ta_20 (tt_5_2 (tt_9_2 h0)) (tl_inlt g13)) (tl_iretX dX9_lampOf_64 rfl rfl (Nat.le_of_ble_eq_true rfl) (Nat.le_of_ble_eq_true rfl) h))
  replace h := tl_in h c15_0
  by_cases c15_1 : x2.toInt = 1
  · replace h := tl_ip h c15_1
    refine tl_tableIn (off := 36) (tgt := 65) dX9_lampOf_29 (by omega) (by omega) (by rw [c15_1]; rfl) (by decide) ?_
    exact tl_aload_n dX9_lampOf_65 rfl (tl_geti (f := 3) tl_ck4 dX9_lampOf_66 fl_X9_198 (Nat.le_of_ble_eq_true rfl) rfl (ta_20 (tt_5_2 (tt_9_2 h0)) (tl_inlt g13)) (tl_iretX dX9_lampOf_69 rfl rfl (Nat.le_of_ble_eq_true rfl) (Nat.le_of_ble_eq_true rfl) h))
  replace h := tl_in h c15_1
  by_cases c15_2 : x2.toInt = 2
  · replace h := tl_ip h c15_2
    refine tl_tableIn (off := 41) (tgt := 70) dX9_lampOf_29 (by omega) (by omega) (by rw [c15_2]; rfl) (by decide) ?_
    exact tl_aload_n dX9_lampOf_70 rfl (tl_geti (f := 0) tl_ck4 dX9_lampOf_71 fl_X9_199 (Nat.le_of_ble_eq_true rfl) rfl (ta_20 (tt_5_2 (tt_9_2 h0)) (tl_inlt g13)) (tl_iretX dX9_lampOf_74 rfl rfl (Nat.le_of_ble_eq_true rfl) (Nat.le_of_ble_eq_true rfl) h))
  replace h := tl_in h c15_2
  have c15_3 : x2.toInt = 3 := by omega
  refine tl_tableIn (off := 46) (tgt := 75) dX9_lampOf_29 (by omega) (by omega) (by rw [c15_3]; rfl) (by decide) ?_
  exact tl_aload_n dX9_lampOf_75 rfl (tl_geti (f := 1) tl_ck4 dX9_lampOf_76 fl_X9_200 (Nat.le_of_ble_eq_true rfl) rfl (ta_20 (tt_5_2 (tt_9_2 h0)) (tl_inlt g13)) (tl_iretX dX9_lampOf_79 rfl rfl (Nat.le_of_ble_eq_true rfl) (Nat.le_of_ble_eq_true rfl) h))

theorem cs_X9_lad_4 : tl_cS mX9_lad mX9_isWithin 51 3 := ⟨cd_X9_isWithin, ml_X9_51, sm_X9_isWithin, in_X9, ⟨by decide, by decide, by decide +kernel⟩, Nat.le_of_ble_eq_true rfl, Nat.le_of_ble_eq_true rfl⟩
theorem cs_X9_lad_8 : tl_cS mX9_lad mX9_demand 59 3 := ⟨cd_X9_demand, ml_X9_59, sm_X9_demand, in_X9, ⟨by decide, by decide, by decide +kernel⟩, Nat.le_of_ble_eq_true rfl, Nat.le_of_ble_eq_true rfl⟩
theorem cs_X9_lad_81 : tl_cV mX9_lad mX5_copyFrom 75 1 := ⟨cd_X5_copyFrom, ml_X9_75, im_X5_copyFrom, se_X5_copyFrom, in_X5, ⟨by decide, by decide, by decide +kernel⟩, Nat.le_of_ble_eq_true rfl, Nat.le_of_ble_eq_true rfl⟩
theorem cs_X9_lad_91 : tl_cV mX9_lad mX5_ladWorks 208 1 := ⟨cd_X5_ladWorks, ml_X9_208, im_X5_ladWorks, se_X5_ladWorks, in_X5, ⟨by decide, by decide, by decide +kernel⟩, Nat.le_of_ble_eq_true rfl, Nat.le_of_ble_eq_true rfl⟩
def f9_lad (a0 : Nat) (x1 : Int32) (u : tl_S) : Option (Nat × Int32 × tl_S) :=
  tl_b2 (f9_isWithin x1 0 3 u) (fun x5 u4 => tl_bx (f9_demand 1 x5 1 u4) (fun x8 u7 => (if x1.toInt < 0 ∨ 2 < x1.toInt then tl_b (f5_copyFrom (a0 + 62) (a0 + 4) u7) (fun u12 => tl_b2 (f5_ladWorks (a0 + 62) 1440 u12) (fun x15 u14 => some (0, x15, u14))) else (if x1.toInt = 0 then some (0, (u7.1 ((a0 + 4) + 4) 2), u7) else (if x1.toInt = 1 then some (0, (u7.1 ((a0 + 4) + 4) 3), u7) else some (0, (u7.1 ((a0 + 4) + 4) 4), u7))))))

theorem l9_lad {E : tl_E} {a0 : Nat} {x1 : Int32}  {u : tl_S} {t : Nat} {r : Int32} {v : tl_S} (h0 : tl_T E.2.1 a0 = some 9) (h : f9_lad a0 x1 u = some (t, r, v)) : tl_MX E mX9_lad [.ref a0, .int x1] u t (some (.int r)) v := by
  unfold f9_lad at h
  refine tl_startX [some (.ref a0), some (.int x1)] rfl rfl rfl (Nat.le_of_ble_eq_true rfl) ?_
  obtain ⟨x5, u4, e3, h⟩ := tl_b2i h
  refine tl_iconst (v := 1) dX9_lad_0 ic_1 (tl_iload_n dX9_lad_1 rfl (tl_iconst (v := 0) dX9_lad_2 ic_0 (tl_iconst (v := 3) dX9_lad_3 ic_3 (tl_iS3 (l9_isWithin  e3) dX9_lad_4 cs_X9_lad_4 ⟨rfl, rfl⟩ ⟨Nat.le_of_ble_eq_true rfl, Nat.le_of_ble_eq_true rfl⟩ (Nat.le_of_ble_eq_true rfl) (tl_iconst (v := 1) dX9_lad_7 ic_1 (?_))))))
  rcases tl_bxi h with ⟨x8, u7, e6, h⟩ | ⟨t1, x8, e6, et⟩
  rotate_left
  · subst et; exact tl_xS3t (l9_demand  e6) dX9_lad_8 cs_X9_lad_8 ⟨Nat.le_of_ble_eq_true rfl, Nat.le_of_ble_eq_true rfl⟩ (Nat.le_of_ble_eq_true rfl)
  refine tl_xS3v (l9_demand  e6) dX9_lad_8 cs_X9_lad_8 ⟨Nat.le_of_ble_eq_true rfl, Nat.le_of_ble_eq_true rfl⟩ (Nat.le_of_ble_eq_true rfl) (tl_iload_n dX9_lad_11 rfl (?_))
  by_cases c9 : x1.toInt < 0 ∨ 2 < x1.toInt
  · replace h := tl_ip h c9
    refine tl_tableOut (tgt := 73) dX9_lad_12 c9 (by decide) ?_
    obtain ⟨u12, e11, h⟩ := tl_bi h
    obtain ⟨x15, u14, e13, h⟩ := tl_b2i h
    exact tl_aload_n dX9_lad_73 rfl (tl_getr (f := 4) (o := 62) tl_ck9 dX9_lad_74 fl_X9_33 (Nat.le_of_ble_eq_true rfl) rfl h0 (tl_aload_n dX9_lad_77 rfl (tl_getr (f := 2) (o := 4) tl_ck9 dX9_lad_78 fl_X9_26 (Nat.le_of_ble_eq_true rfl) rfl h0 (tl_vV1 tl_ck5 rfl (tt_9_4 h0) (l5_copyFrom (tt_9_4 h0) (tt_9_2 h0) e11) dX9_lad_81 cs_X9_lad_81 ⟨rfl, rfl⟩ ⟨Nat.le_of_ble_eq_true rfl, Nat.le_of_ble_eq_true rfl⟩ (Nat.le_of_ble_eq_true rfl) (tl_aload_n dX9_lad_84 rfl (tl_getr (f := 4) (o := 62) tl_ck9 dX9_lad_85 fl_X9_33 (Nat.le_of_ble_eq_true rfl) rfl h0 (tl_sipush (v := 1440) dX9_lad_88 sp_1440 (tl_iV1 tl_ck5 rfl (tt_9_4 h0) (l5_ladWorks (tt_9_4 h0) e13) dX9_lad_91 cs_X9_lad_91 ⟨rfl, rfl⟩ ⟨Nat.le_of_ble_eq_true rfl, Nat.le_of_ble_eq_true rfl⟩ (Nat.le_of_ble_eq_true rfl) (tl_iretX dX9_lad_94 rfl rfl (Nat.le_of_ble_eq_true rfl) (Nat.le_of_ble_eq_true rfl) h)))))))))
  replace h := tl_in h c9
  by_cases c10_0 : x1.toInt = 0
  · replace h := tl_ip h c10_0
    refine tl_tableIn (off := 28) (tgt := 40) dX9_lad_12 (by omega) (by omega) (by rw [c10_0]; rfl) (by decide) ?_
    exact tl_aload_n dX9_lad_40 rfl (tl_getr (f := 2) (o := 4) tl_ck9 dX9_lad_41 fl_X9_26 (Nat.le_of_ble_eq_true rfl) rfl h0 (tl_getr (f := 3) (o := 4) tl_ck5 dX9_lad_44 fl_X9_111 (Nat.le_of_ble_eq_true rfl) rfl (tt_9_2 h0) (tl_geti (f := 2) tl_ck3 dX9_lad_47 fl_X9_203 (Nat.le_of_ble_eq_true rfl) rfl (tt_5_3 (tt_9_2 h0)) (tl_iretX dX9_lad_50 rfl rfl (Nat.le_of_ble_eq_true rfl) (Nat.le_of_ble_eq_true rfl) h))))
  replace h := tl_in h c10_0
  by_cases c10_1 : x1.toInt = 1
  · replace h := tl_ip h c10_1
    refine tl_tableIn (off := 39) (tgt := 51) dX9_lad_12 (by omega) (by omega) (by rw [c10_1]; rfl) (by decide) ?_
    exact tl_aload_n dX9_lad_51 rfl (tl_getr (f := 2) (o := 4) tl_ck9 dX9_lad_52 fl_X9_26 (Nat.le_of_ble_eq_true rfl) rfl h0 (tl_getr (f := 3) (o := 4) tl_ck5 dX9_lad_55 fl_X9_111 (Nat.le_of_ble_eq_true rfl) rfl (tt_9_2 h0) (tl_geti (f := 3) tl_ck3 dX9_lad_58 fl_X9_204 (Nat.le_of_ble_eq_true rfl) rfl (tt_5_3 (tt_9_2 h0)) (tl_iretX dX9_lad_61 rfl rfl (Nat.le_of_ble_eq_true rfl) (Nat.le_of_ble_eq_true rfl) h))))
  replace h := tl_in h c10_1
  have c10_2 : x1.toInt = 2 := by omega
  refine tl_tableIn (off := 50) (tgt := 62) dX9_lad_12 (by omega) (by omega) (by rw [c10_2]; rfl) (by decide) ?_
  exact tl_aload_n dX9_lad_62 rfl (tl_getr (f := 2) (o := 4) tl_ck9 dX9_lad_63 fl_X9_26 (Nat.le_of_ble_eq_true rfl) rfl h0 (tl_getr (f := 3) (o := 4) tl_ck5 dX9_lad_66 fl_X9_111 (Nat.le_of_ble_eq_true rfl) rfl (tt_9_2 h0) (tl_geti (f := 4) tl_ck3 dX9_lad_69 fl_X9_205 (Nat.le_of_ble_eq_true rfl) rfl (tt_5_3 (tt_9_2 h0)) (tl_iretX dX9_lad_72 rfl rfl (Nat.le_of_ble_eq_true rfl) (Nat.le_of_ble_eq_true rfl) h))))

theorem cs_X9_orderOf_8 : tl_cV mX9_orderOf mX3_hasOrder 211 1 := ⟨cd_X3_hasOrder, ml_X9_211, im_X3_hasOrder, se_X3_hasOrder, in_X3, ⟨by decide, by decide, by decide +kernel⟩, Nat.le_of_ble_eq_true rfl, Nat.le_of_ble_eq_true rfl⟩
theorem cs_X9_orderOf_14 : tl_cS mX9_orderOf mX9_isWithin 51 3 := ⟨cd_X9_isWithin, ml_X9_51, sm_X9_isWithin, in_X9, ⟨by decide, by decide, by decide +kernel⟩, Nat.le_of_ble_eq_true rfl, Nat.le_of_ble_eq_true rfl⟩
theorem cs_X9_orderOf_18 : tl_cS mX9_orderOf mX9_demand 59 3 := ⟨cd_X9_demand, ml_X9_59, sm_X9_demand, in_X9, ⟨by decide, by decide, by decide +kernel⟩, Nat.le_of_ble_eq_true rfl, Nat.le_of_ble_eq_true rfl⟩
def f9_orderOf_p46 (x1 : Int32) (a2 : Nat) (x3 : Int32) (u : tl_S) : Option (Nat × Int32 × tl_S) :=
  (if x1.toInt < 0 ∨ 2 < x1.toInt then (if x3 = 0 then some (0, (-1), u) else some (0, (u.1 a2 3), u)) else (if x1.toInt = 0 then some (0, (u.1 a2 0), u) else (if x1.toInt = 1 then some (0, (u.1 a2 1), u) else (if x3 = 0 then some (0, (u.1 a2 4), u) else some (0, (u.1 a2 2), u)))))

def f9_orderOf (a0 : Nat) (x1 : Int32) (x2 : Int32) (u : tl_S) : Option (Nat × Int32 × tl_S) :=
  tl_b2 (f3_hasOrder ((a0 + 4) + 4) x1 u) (fun x6 u5 => tl_b2 (f9_isWithin x2 0 3 u5) (fun x9 u8 => tl_bx (f9_demand x6 x9 1 u8) (fun x12 u11 => tl_g (¬ (x1 < 0 ∨ 6 ≤ x1.toNatClampNeg)) (tl_g ((((a0 + 4) + 4) + 1) < (u11.2.1 (((a0 + 4) + 4) + 1) x1.toNatClampNeg) ∧ (u11.2.1 (((a0 + 4) + 4) + 1) x1.toNatClampNeg) < (((a0 + 4) + 4) + 1) + 7) ((if (u11.1 (u11.2.1 (((a0 + 4) + 4) + 1) x1.toNatClampNeg) 0) = 0 then f9_orderOf_p46 x2 ((u11.2.1 (((a0 + 4) + 4) + 1) x1.toNatClampNeg)) 1 u11 else f9_orderOf_p46 x2 ((u11.2.1 (((a0 + 4) + 4) + 1) x1.toNatClampNeg)) 0 u11))))))

theorem l9_orderOf_p46 {E : tl_E} {x1 : Int32} {a2 : Nat} {x3 : Int32}  {d0 : Option Value} {d1 : Option Value} {d4 : Option Value} {u : tl_S} {t : Nat} {r : Int32} {v : tl_S} (h2 : tl_T E.2.1 a2 = some 8) (h : f9_orderOf_p46 x1 a2 x3 u = some (t, r, v)) : tl_R E mX9_orderOf tl_XT (tl_ZX E mX9_orderOf t (some (.int r)) v) 1 6 (tl_HB E u) 46 [d0, d1, some (.int x1), some (.ref a2), d4] [.int x3] := by
  unfold f9_orderOf_p46 at h
  refine tl_istore dX9_orderOf_46 (Nat.le_of_ble_eq_true rfl) (tl_iload_n dX9_orderOf_48 rfl (?_))
  by_cases c5 : x1.toInt < 0 ∨ 2 < x1.toInt
  · replace h := tl_ip h c5
    refine tl_tableOut (tgt := 103) dX9_orderOf_49 c5 (by decide) ?_
    refine tl_iload dX9_orderOf_103 rfl (tl_if_eq (tgt := 115) dX9_orderOf_105 (by decide) (fun c7 => ?_) (fun c7 => ?_))
    · replace h := tl_ip h c7
      exact tl_iconst (v := (-1)) dX9_orderOf_115 ic_m1 (tl_iretX dX9_orderOf_116 rfl rfl (Nat.le_of_ble_eq_true rfl) (Nat.le_of_ble_eq_true rfl) h)
    · replace h := tl_in h c7
      exact tl_aload_n dX9_orderOf_108 rfl (tl_geti (f := 3) tl_ck8 dX9_orderOf_109 fl_X9_228 (Nat.le_of_ble_eq_true rfl) rfl h2 (tl_goto (tgt := 116) dX9_orderOf_112 (by decide) (tl_iretX dX9_orderOf_116 rfl rfl (Nat.le_of_ble_eq_true rfl) (Nat.le_of_ble_eq_true rfl) h)))
  replace h := tl_in h c5
  by_cases c6_0 : x1.toInt = 0
  · replace h := tl_ip h c6_0
    refine tl_tableIn (off := 27) (tgt := 76) dX9_orderOf_49 (by omega) (by omega) (by rw [c6_0]; rfl) (by decide) ?_
    exact tl_aload_n dX9_orderOf_76 rfl (tl_geti (f := 0) tl_ck8 dX9_orderOf_77 fl_X9_218 (Nat.le_of_ble_eq_true rfl) rfl h2 (tl_iretX dX9_orderOf_80 rfl rfl (Nat.le_of_ble_eq_true rfl) (Nat.le_of_ble_eq_true rfl) h))
  replace h := tl_in h c6_0
  by_cases c6_1 : x1.toInt = 1
  · replace h := tl_ip h c6_1
    refine tl_tableIn (off := 32) (tgt := 81) dX9_orderOf_49 (by omega) (by omega) (by rw [c6_1]; rfl) (by decide) ?_
    exact tl_aload_n dX9_orderOf_81 rfl (tl_geti (f := 1) tl_ck8 dX9_orderOf_82 fl_X9_223 (Nat.le_of_ble_eq_true rfl) rfl h2 (tl_iretX dX9_orderOf_85 rfl rfl (Nat.le_of_ble_eq_true rfl) (Nat.le_of_ble_eq_true rfl) h))
  replace h := tl_in h c6_1
  have c6_2 : x1.toInt = 2 := by omega
  refine tl_tableIn (off := 37) (tgt := 86) dX9_orderOf_49 (by omega) (by omega) (by rw [c6_2]; rfl) (by decide) ?_
  refine tl_iload dX9_orderOf_86 rfl (tl_if_eq (tgt := 98) dX9_orderOf_88 (by decide) (fun c7 => ?_) (fun c7 => ?_))
  · replace h := tl_ip h c7
    exact tl_aload_n dX9_orderOf_98 rfl (tl_geti (f := 4) tl_ck8 dX9_orderOf_99 fl_X9_225 (Nat.le_of_ble_eq_true rfl) rfl h2 (tl_iretX dX9_orderOf_102 rfl rfl (Nat.le_of_ble_eq_true rfl) (Nat.le_of_ble_eq_true rfl) h))
  · replace h := tl_in h c7
    exact tl_aload_n dX9_orderOf_91 rfl (tl_geti (f := 2) tl_ck8 dX9_orderOf_92 fl_X9_224 (Nat.le_of_ble_eq_true rfl) rfl h2 (tl_goto (tgt := 102) dX9_orderOf_95 (by decide) (tl_iretX dX9_orderOf_102 rfl rfl (Nat.le_of_ble_eq_true rfl) (Nat.le_of_ble_eq_true rfl) h)))

theorem l9_orderOf {E : tl_E} {a0 : Nat} {x1 : Int32} {x2 : Int32}  {u : tl_S} {t : Nat} {r : Int32} {v : tl_S} (h0 : tl_T E.2.1 a0 = some 9) (h : f9_orderOf a0 x1 x2 u = some (t, r, v)) : tl_MX E mX9_orderOf [.ref a0, .int x1, .int x2] u t (some (.int r)) v := by
  unfold f9_orderOf at h
  refine tl_startX [some (.ref a0), some (.int x1), some (.int x2), none, none] rfl rfl rfl (Nat.le_of_ble_eq_true rfl) ?_
  obtain ⟨x6, u5, e4, h⟩ := tl_b2i h
  obtain ⟨x9, u8, e7, h⟩ := tl_b2i h
  refine tl_aload_n dX9_orderOf_0 rfl (tl_getr (f := 2) (o := 4) tl_ck9 dX9_orderOf_1 fl_X9_26 (Nat.le_of_ble_eq_true rfl) rfl h0 (tl_getr (f := 3) (o := 4) tl_ck5 dX9_orderOf_4 fl_X9_111 (Nat.le_of_ble_eq_true rfl) rfl (tt_9_2 h0) (tl_iload_n dX9_orderOf_7 rfl (tl_iV1 tl_ck3 rfl (tt_5_3 (tt_9_2 h0)) (l3_hasOrder (tt_5_3 (tt_9_2 h0)) e4) dX9_orderOf_8 cs_X9_orderOf_8 ⟨rfl, rfl⟩ ⟨Nat.le_of_ble_eq_true rfl, Nat.le_of_ble_eq_true rfl⟩ (Nat.le_of_ble_eq_true rfl) (tl_iload_n dX9_orderOf_11 rfl (tl_iconst (v := 0) dX9_orderOf_12 ic_0 (tl_iconst (v := 3) dX9_orderOf_13 ic_3 (tl_iS3 (l9_isWithin  e7) dX9_orderOf_14 cs_X9_orderOf_14 ⟨rfl, rfl⟩ ⟨Nat.le_of_ble_eq_true rfl, Nat.le_of_ble_eq_true rfl⟩ (Nat.le_of_ble_eq_true rfl) (tl_iconst (v := 1) dX9_orderOf_17 ic_1 (?_))))))))))
  rcases tl_bxi h with ⟨x12, u11, e10, h⟩ | ⟨t1, x12, e10, et⟩
  rotate_left
  · subst et; exact tl_xS3t (l9_demand  e10) dX9_orderOf_18 cs_X9_orderOf_18 ⟨Nat.le_of_ble_eq_true rfl, Nat.le_of_ble_eq_true rfl⟩ (Nat.le_of_ble_eq_true rfl)
  obtain ⟨g13, h⟩ := tl_gi h
  obtain ⟨g14, h⟩ := tl_gi h
  refine tl_xS3v (l9_demand  e10) dX9_orderOf_18 cs_X9_orderOf_18 ⟨Nat.le_of_ble_eq_true rfl, Nat.le_of_ble_eq_true rfl⟩ (Nat.le_of_ble_eq_true rfl) (tl_aload_n dX9_orderOf_21 rfl (tl_getr (f := 2) (o := 4) tl_ck9 dX9_orderOf_22 fl_X9_26 (Nat.le_of_ble_eq_true rfl) rfl h0 (tl_getr (f := 3) (o := 4) tl_ck5 dX9_orderOf_25 fl_X9_111 (Nat.le_of_ble_eq_true rfl) rfl (tt_9_2 h0) (tl_getr (f := 0) (o := 1) tl_ck3 dX9_orderOf_28 fl_X9_214 (Nat.le_of_ble_eq_true rfl) rfl (tt_5_3 (tt_9_2 h0)) (tl_iload_n dX9_orderOf_31 rfl (tl_ald21 dX9_orderOf_32 (tt_3_0 (tt_5_3 (tt_9_2 h0))) (x1.toNatClampNeg) g13 rfl (tl_astore_n dX9_orderOf_33 (Nat.le_of_ble_eq_true rfl) (tl_aload_n dX9_orderOf_34 rfl (tl_geti (f := 0) tl_ck8 dX9_orderOf_35 fl_X9_218 (Nat.le_of_ble_eq_true rfl) rfl (ta_21b (tt_3_0 (tt_5_3 (tt_9_2 h0))) g14) (tl_if_ne (tgt := 45) dX9_orderOf_38 (by decide) (fun c15 => ?_) (fun c15 => ?_)))))))))))
  · replace h := tl_in h c15
    refine tl_iconst (v := 0) dX9_orderOf_45 ic_0 (?_)
    exact l9_orderOf_p46 (ta_21b (tt_3_0 (tt_5_3 (tt_9_2 h0))) g14) h
  · replace h := tl_ip h c15
    refine tl_iconst (v := 1) dX9_orderOf_41 ic_1 (tl_goto (tgt := 46) dX9_orderOf_42 (by decide) (?_))
    exact l9_orderOf_p46 (ta_21b (tt_3_0 (tt_5_3 (tt_9_2 h0))) g14) h

theorem cs_X9_lit_5 : tl_cV mX9_lit mX5_hasGallery 138 1 := ⟨cd_X5_hasGallery, ml_X9_138, im_X5_hasGallery, se_X5_hasGallery, in_X5, ⟨by decide, by decide, by decide +kernel⟩, Nat.le_of_ble_eq_true rfl, Nat.le_of_ble_eq_true rfl⟩
theorem cs_X9_lit_11 : tl_cS mX9_lit mX9_isWithin 51 3 := ⟨cd_X9_isWithin, ml_X9_51, sm_X9_isWithin, in_X9, ⟨by decide, by decide, by decide +kernel⟩, Nat.le_of_ble_eq_true rfl, Nat.le_of_ble_eq_true rfl⟩
theorem cs_X9_lit_15 : tl_cS mX9_lit mX9_demand 59 3 := ⟨cd_X9_demand, ml_X9_59, sm_X9_demand, in_X9, ⟨by decide, by decide, by decide +kernel⟩, Nat.le_of_ble_eq_true rfl, Nat.le_of_ble_eq_true rfl⟩
theorem cs_X9_lit_38 : tl_cV mX9_lit mX5_litBySpans 232 1 := ⟨cd_X5_litBySpans, ml_X9_232, im_X5_litBySpans, se_X5_litBySpans, in_X5, ⟨by decide, by decide, by decide +kernel⟩, Nat.le_of_ble_eq_true rfl, Nat.le_of_ble_eq_true rfl⟩
theorem cs_X9_lit_27 : tl_cV mX9_lit mX5_litCellByCell 229 1 := ⟨cd_X5_litCellByCell, ml_X9_229, im_X5_litCellByCell, se_X5_litCellByCell, in_X5, ⟨by decide, by decide, by decide +kernel⟩, Nat.le_of_ble_eq_true rfl, Nat.le_of_ble_eq_true rfl⟩
def f9_lit (a0 : Nat) (x1 : Int32) (x2 : Int32) (u : tl_S) : Option (Nat × Int32 × tl_S) :=
  tl_b2 (f5_hasGallery (a0 + 4) x1 u) (fun x6 u5 => tl_b2 (f9_isWithin x2 0 1 u5) (fun x9 u8 => tl_bx (f9_demand x6 x9 1 u8) (fun x12 u11 => (if x2 = 0 then tl_b2 (f5_litCellByCell (a0 + 4) x1 u11) (fun x16 u15 => some (0, x16, u15)) else tl_b2 (f5_litBySpans (a0 + 4) x1 u11) (fun x16 u15 => some (0, x16, u15))))))

theorem l9_lit {E : tl_E} {a0 : Nat} {x1 : Int32} {x2 : Int32}  {u : tl_S} {t : Nat} {r : Int32} {v : tl_S} (h0 : tl_T E.2.1 a0 = some 9) (h : f9_lit a0 x1 x2 u = some (t, r, v)) : tl_MX E mX9_lit [.ref a0, .int x1, .int x2] u t (some (.int r)) v := by
  unfold f9_lit at h
  refine tl_startX [some (.ref a0), some (.int x1), some (.int x2)] rfl rfl rfl (Nat.le_of_ble_eq_true rfl) ?_
  obtain ⟨x6, u5, e4, h⟩ := tl_b2i h
  obtain ⟨x9, u8, e7, h⟩ := tl_b2i h
  refine tl_aload_n dX9_lit_0 rfl (tl_getr (f := 2) (o := 4) tl_ck9 dX9_lit_1 fl_X9_26 (Nat.le_of_ble_eq_true rfl) rfl h0 (tl_iload_n dX9_lit_4 rfl (tl_iV1 tl_ck5 rfl (tt_9_2 h0) (l5_hasGallery (tt_9_2 h0) e4) dX9_lit_5 cs_X9_lit_5 ⟨rfl, rfl⟩ ⟨Nat.le_of_ble_eq_true rfl, Nat.le_of_ble_eq_true rfl⟩ (Nat.le_of_ble_eq_true rfl) (tl_iload_n dX9_lit_8 rfl (tl_iconst (v := 0) dX9_lit_9 ic_0 (tl_iconst (v := 1) dX9_lit_10 ic_1 (tl_iS3 (l9_isWithin  e7) dX9_lit_11 cs_X9_lit_11 ⟨rfl, rfl⟩ ⟨Nat.le_of_ble_eq_true rfl, Nat.le_of_ble_eq_true rfl⟩ (Nat.le_of_ble_eq_true rfl) (tl_iconst (v := 1) dX9_lit_14 ic_1 (?_)))))))))
  rcases tl_bxi h with ⟨x12, u11, e10, h⟩ | ⟨t1, x12, e10, et⟩
  rotate_left
  · subst et; exact tl_xS3t (l9_demand  e10) dX9_lit_15 cs_X9_lit_15 ⟨Nat.le_of_ble_eq_true rfl, Nat.le_of_ble_eq_true rfl⟩ (Nat.le_of_ble_eq_true rfl)
  refine tl_xS3v (l9_demand  e10) dX9_lit_15 cs_X9_lit_15 ⟨Nat.le_of_ble_eq_true rfl, Nat.le_of_ble_eq_true rfl⟩ (Nat.le_of_ble_eq_true rfl) (tl_iload_n dX9_lit_18 rfl (tl_if_ne (tgt := 33) dX9_lit_19 (by decide) (fun c13 => ?_) (fun c13 => ?_)))
  · replace h := tl_in h c13
    obtain ⟨x16, u15, e14, h⟩ := tl_b2i h
    exact tl_aload_n dX9_lit_33 rfl (tl_getr (f := 2) (o := 4) tl_ck9 dX9_lit_34 fl_X9_26 (Nat.le_of_ble_eq_true rfl) rfl h0 (tl_iload_n dX9_lit_37 rfl (tl_iV1 tl_ck5 rfl (tt_9_2 h0) (l5_litBySpans (tt_9_2 h0) e14) dX9_lit_38 cs_X9_lit_38 ⟨rfl, rfl⟩ ⟨Nat.le_of_ble_eq_true rfl, Nat.le_of_ble_eq_true rfl⟩ (Nat.le_of_ble_eq_true rfl) (tl_iretX dX9_lit_41 rfl rfl (Nat.le_of_ble_eq_true rfl) (Nat.le_of_ble_eq_true rfl) h))))
  · replace h := tl_ip h c13
    obtain ⟨x16, u15, e14, h⟩ := tl_b2i h
    exact tl_aload_n dX9_lit_22 rfl (tl_getr (f := 2) (o := 4) tl_ck9 dX9_lit_23 fl_X9_26 (Nat.le_of_ble_eq_true rfl) rfl h0 (tl_iload_n dX9_lit_26 rfl (tl_iV1 tl_ck5 rfl (tt_9_2 h0) (l5_litCellByCell (tt_9_2 h0) e14) dX9_lit_27 cs_X9_lit_27 ⟨rfl, rfl⟩ ⟨Nat.le_of_ble_eq_true rfl, Nat.le_of_ble_eq_true rfl⟩ (Nat.le_of_ble_eq_true rfl) (tl_goto (tgt := 41) dX9_lit_30 (by decide) (tl_iretX dX9_lit_41 rfl rfl (Nat.le_of_ble_eq_true rfl) (Nat.le_of_ble_eq_true rfl) h)))))

theorem cs_X9_act_11 : tl_cV mX9_act mX0_become 292 5 := ⟨cd_X0_become, ml_X9_292, im_X0_become, se_X0_become, in_X0, ⟨by decide, by decide, by decide +kernel⟩, Nat.le_of_ble_eq_true rfl, Nat.le_of_ble_eq_true rfl⟩
theorem cs_X9_act_22 : tl_cV mX9_act mX5_refusal 296 1 := ⟨cd_X5_refusal, ml_X9_296, im_X5_refusal, se_X5_refusal, in_X5, ⟨by decide, by decide, by decide +kernel⟩, Nat.le_of_ble_eq_true rfl, Nat.le_of_ble_eq_true rfl⟩
theorem cs_X9_act_25 : tl_cS mX9_act mX9_throwFor 299 1 := ⟨cd_X9_throwFor, ml_X9_299, sm_X9_throwFor, in_X9, ⟨by decide, by decide, by decide +kernel⟩, Nat.le_of_ble_eq_true rfl, Nat.le_of_ble_eq_true rfl⟩
theorem cs_X9_act_36 : tl_cV mX9_act mX2_remember 302 1 := ⟨cd_X2_remember, ml_X9_302, im_X2_remember, se_X2_remember, in_X2, ⟨by decide, by decide, by decide +kernel⟩, Nat.le_of_ble_eq_true rfl, Nat.le_of_ble_eq_true rfl⟩
theorem cs_X9_act_47 : tl_cV mX9_act mX5_perform 305 1 := ⟨cd_X5_perform, ml_X9_305, im_X5_perform, se_X5_perform, in_X5, ⟨by decide, by decide, by decide +kernel⟩, Nat.le_of_ble_eq_true rfl, Nat.le_of_ble_eq_true rfl⟩
def f9_act (a0 : Nat) (x1 : Int32) (x2 : Int32) (x3 : Int32) (x4 : Int32) (x5 : Int32) (u : tl_S) : Option (Nat × Int32 × tl_S) :=
  tl_b (f0_become (a0 + 3) x1 x2 x3 x4 x5 u) (fun u8 => tl_b2 (f5_refusal (a0 + 4) (a0 + 3) u8) (fun x11 u10 => tl_bx (f9_throwFor x11 u10) (fun x14 u13 => tl_b (f2_remember (a0 + 91) (a0 + 4) u13) (fun u16 => tl_b2 (f5_perform (a0 + 4) (a0 + 3) u16) (fun x19 u18 => some (0, x19, u18))))))

theorem l9_act {E : tl_E} {a0 : Nat} {x1 : Int32} {x2 : Int32} {x3 : Int32} {x4 : Int32} {x5 : Int32}  {u : tl_S} {t : Nat} {r : Int32} {v : tl_S} (h0 : tl_T E.2.1 a0 = some 9) (h : f9_act a0 x1 x2 x3 x4 x5 u = some (t, r, v)) : tl_MX E mX9_act [.ref a0, .int x1, .int x2, .int x3, .int x4, .int x5] u t (some (.int r)) v := by
  unfold f9_act at h
  refine tl_startX [some (.ref a0), some (.int x1), some (.int x2), some (.int x3), some (.int x4), some (.int x5)] rfl rfl rfl (Nat.le_of_ble_eq_true rfl) ?_
  obtain ⟨u8, e7, h⟩ := tl_bi h
  obtain ⟨x11, u10, e9, h⟩ := tl_b2i h
  refine tl_aload_n dX9_act_0 rfl (tl_getr (f := 1) (o := 3) tl_ck9 dX9_act_1 fl_X9_19 (Nat.le_of_ble_eq_true rfl) rfl h0 (tl_iload_n dX9_act_4 rfl (tl_iload_n dX9_act_5 rfl (tl_iload_n dX9_act_6 rfl (tl_iload dX9_act_7 rfl (tl_iload dX9_act_9 rfl (tl_vV5 tl_ck0 rfl (tt_9_1 h0) (l0_become (tt_9_1 h0) e7) dX9_act_11 cs_X9_act_11 ⟨rfl, rfl⟩ ⟨Nat.le_of_ble_eq_true rfl, Nat.le_of_ble_eq_true rfl⟩ (Nat.le_of_ble_eq_true rfl) (tl_aload_n dX9_act_14 rfl (tl_getr (f := 2) (o := 4) tl_ck9 dX9_act_15 fl_X9_26 (Nat.le_of_ble_eq_true rfl) rfl h0 (tl_aload_n dX9_act_18 rfl (tl_getr (f := 1) (o := 3) tl_ck9 dX9_act_19 fl_X9_19 (Nat.le_of_ble_eq_true rfl) rfl h0 (tl_iV1 tl_ck5 rfl (tt_9_2 h0) (l5_refusal (tt_9_2 h0) (tt_9_1 h0) e9) dX9_act_22 cs_X9_act_22 ⟨rfl, rfl⟩ ⟨Nat.le_of_ble_eq_true rfl, Nat.le_of_ble_eq_true rfl⟩ (Nat.le_of_ble_eq_true rfl) (?_)))))))))))))
  rcases tl_bxi h with ⟨x14, u13, e12, h⟩ | ⟨t1, x14, e12, et⟩
  rotate_left
  · subst et; exact tl_xS1t (l9_throwFor  e12) dX9_act_25 cs_X9_act_25 ⟨Nat.le_of_ble_eq_true rfl, Nat.le_of_ble_eq_true rfl⟩ (Nat.le_of_ble_eq_true rfl)
  obtain ⟨u16, e15, h⟩ := tl_bi h
  obtain ⟨x19, u18, e17, h⟩ := tl_b2i h
  exact tl_xS1v (l9_throwFor  e12) dX9_act_25 cs_X9_act_25 ⟨Nat.le_of_ble_eq_true rfl, Nat.le_of_ble_eq_true rfl⟩ (Nat.le_of_ble_eq_true rfl) (tl_aload_n dX9_act_28 rfl (tl_getr (f := 5) (o := 91) tl_ck9 dX9_act_29 fl_X9_39 (Nat.le_of_ble_eq_true rfl) rfl h0 (tl_aload_n dX9_act_32 rfl (tl_getr (f := 2) (o := 4) tl_ck9 dX9_act_33 fl_X9_26 (Nat.le_of_ble_eq_true rfl) rfl h0 (tl_vV1 tl_ck2 rfl (tt_9_5 h0) (l2_remember (tt_9_5 h0) (tt_9_2 h0) e15) dX9_act_36 cs_X9_act_36 ⟨rfl, rfl⟩ ⟨Nat.le_of_ble_eq_true rfl, Nat.le_of_ble_eq_true rfl⟩ (Nat.le_of_ble_eq_true rfl) (tl_aload_n dX9_act_39 rfl (tl_getr (f := 2) (o := 4) tl_ck9 dX9_act_40 fl_X9_26 (Nat.le_of_ble_eq_true rfl) rfl h0 (tl_aload_n dX9_act_43 rfl (tl_getr (f := 1) (o := 3) tl_ck9 dX9_act_44 fl_X9_19 (Nat.le_of_ble_eq_true rfl) rfl h0 (tl_iV1 tl_ck5 rfl (tt_9_2 h0) (l5_perform (tt_9_2 h0) (tt_9_1 h0) e17) dX9_act_47 cs_X9_act_47 ⟨rfl, rfl⟩ ⟨Nat.le_of_ble_eq_true rfl, Nat.le_of_ble_eq_true rfl⟩ (Nat.le_of_ble_eq_true rfl) (tl_iretX dX9_act_50 rfl rfl (Nat.le_of_ble_eq_true rfl) (Nat.le_of_ble_eq_true rfl) h)))))))))))

theorem cs_X9_gallery_6 : tl_cV mX9_gallery mX9_act 235 5 := ⟨cd_X9_act, ml_X9_235, im_X9_act, se_X9_act, in_X9, ⟨by decide, by decide, by decide +kernel⟩, Nat.le_of_ble_eq_true rfl, Nat.le_of_ble_eq_true rfl⟩
def f9_gallery (a0 : Nat) (x1 : Int32) (u : tl_S) : Option (Nat × Int32 × tl_S) :=
  tl_bx (f9_act a0 1 x1 0 0 0 u) (fun x5 u4 => some (0, x5, u4))

theorem l9_gallery {E : tl_E} {a0 : Nat} {x1 : Int32}  {u : tl_S} {t : Nat} {r : Int32} {v : tl_S} (h0 : tl_T E.2.1 a0 = some 9) (h : f9_gallery a0 x1 u = some (t, r, v)) : tl_MX E mX9_gallery [.ref a0, .int x1] u t (some (.int r)) v := by
  unfold f9_gallery at h
  refine tl_startX [some (.ref a0), some (.int x1)] rfl rfl rfl (Nat.le_of_ble_eq_true rfl) ?_
  refine tl_aload_n dX9_gallery_0 rfl (tl_iconst (v := 1) dX9_gallery_1 ic_1 (tl_iload_n dX9_gallery_2 rfl (tl_iconst (v := 0) dX9_gallery_3 ic_0 (tl_iconst (v := 0) dX9_gallery_4 ic_0 (tl_iconst (v := 0) dX9_gallery_5 ic_0 (?_))))))
  rcases tl_bxi h with ⟨x5, u4, e3, h⟩ | ⟨t1, x5, e3, et⟩
  rotate_left
  · subst et; exact tl_xV5t tl_ck9 rfl h0 (l9_act h0 e3) dX9_gallery_6 cs_X9_gallery_6 ⟨Nat.le_of_ble_eq_true rfl, Nat.le_of_ble_eq_true rfl⟩ (Nat.le_of_ble_eq_true rfl)
  exact tl_xV5i tl_ck9 rfl h0 (l9_act h0 e3) dX9_gallery_6 cs_X9_gallery_6 ⟨Nat.le_of_ble_eq_true rfl, Nat.le_of_ble_eq_true rfl⟩ (Nat.le_of_ble_eq_true rfl) (tl_iretX dX9_gallery_9 rfl rfl (Nat.le_of_ble_eq_true rfl) (Nat.le_of_ble_eq_true rfl) h)

theorem cs_X9_miner_6 : tl_cV mX9_miner mX9_act 235 5 := ⟨cd_X9_act, ml_X9_235, im_X9_act, se_X9_act, in_X9, ⟨by decide, by decide, by decide +kernel⟩, Nat.le_of_ble_eq_true rfl, Nat.le_of_ble_eq_true rfl⟩
def f9_miner (a0 : Nat) (x1 : Int32) (x2 : Int32) (u : tl_S) : Option (Nat × Int32 × tl_S) :=
  tl_bx (f9_act a0 2 x1 x2 0 0 u) (fun x6 u5 => some (0, x6, u5))

theorem l9_miner {E : tl_E} {a0 : Nat} {x1 : Int32} {x2 : Int32}  {u : tl_S} {t : Nat} {r : Int32} {v : tl_S} (h0 : tl_T E.2.1 a0 = some 9) (h : f9_miner a0 x1 x2 u = some (t, r, v)) : tl_MX E mX9_miner [.ref a0, .int x1, .int x2] u t (some (.int r)) v := by
  unfold f9_miner at h
  refine tl_startX [some (.ref a0), some (.int x1), some (.int x2)] rfl rfl rfl (Nat.le_of_ble_eq_true rfl) ?_
  refine tl_aload_n dX9_miner_0 rfl (tl_iconst (v := 2) dX9_miner_1 ic_2 (tl_iload_n dX9_miner_2 rfl (tl_iload_n dX9_miner_3 rfl (tl_iconst (v := 0) dX9_miner_4 ic_0 (tl_iconst (v := 0) dX9_miner_5 ic_0 (?_))))))
  rcases tl_bxi h with ⟨x6, u5, e4, h⟩ | ⟨t1, x6, e4, et⟩
  rotate_left
  · subst et; exact tl_xV5t tl_ck9 rfl h0 (l9_act h0 e4) dX9_miner_6 cs_X9_miner_6 ⟨Nat.le_of_ble_eq_true rfl, Nat.le_of_ble_eq_true rfl⟩ (Nat.le_of_ble_eq_true rfl)
  exact tl_xV5i tl_ck9 rfl h0 (l9_act h0 e4) dX9_miner_6 cs_X9_miner_6 ⟨Nat.le_of_ble_eq_true rfl, Nat.le_of_ble_eq_true rfl⟩ (Nat.le_of_ble_eq_true rfl) (tl_iretX dX9_miner_9 rfl rfl (Nat.le_of_ble_eq_true rfl) (Nat.le_of_ble_eq_true rfl) h)

theorem cs_X9_send_6 : tl_cV mX9_send mX9_act 235 5 := ⟨cd_X9_act, ml_X9_235, im_X9_act, se_X9_act, in_X9, ⟨by decide, by decide, by decide +kernel⟩, Nat.le_of_ble_eq_true rfl, Nat.le_of_ble_eq_true rfl⟩
def f9_send (a0 : Nat) (x1 : Int32) (x2 : Int32) (u : tl_S) : Option (Nat × Int32 × tl_S) :=
  tl_bx (f9_act a0 3 x1 x2 0 0 u) (fun x6 u5 => some (0, x6, u5))

theorem l9_send {E : tl_E} {a0 : Nat} {x1 : Int32} {x2 : Int32}  {u : tl_S} {t : Nat} {r : Int32} {v : tl_S} (h0 : tl_T E.2.1 a0 = some 9) (h : f9_send a0 x1 x2 u = some (t, r, v)) : tl_MX E mX9_send [.ref a0, .int x1, .int x2] u t (some (.int r)) v := by
  unfold f9_send at h
  refine tl_startX [some (.ref a0), some (.int x1), some (.int x2)] rfl rfl rfl (Nat.le_of_ble_eq_true rfl) ?_
  refine tl_aload_n dX9_send_0 rfl (tl_iconst (v := 3) dX9_send_1 ic_3 (tl_iload_n dX9_send_2 rfl (tl_iload_n dX9_send_3 rfl (tl_iconst (v := 0) dX9_send_4 ic_0 (tl_iconst (v := 0) dX9_send_5 ic_0 (?_))))))
  rcases tl_bxi h with ⟨x6, u5, e4, h⟩ | ⟨t1, x6, e4, et⟩
  rotate_left
  · subst et; exact tl_xV5t tl_ck9 rfl h0 (l9_act h0 e4) dX9_send_6 cs_X9_send_6 ⟨Nat.le_of_ble_eq_true rfl, Nat.le_of_ble_eq_true rfl⟩ (Nat.le_of_ble_eq_true rfl)
  exact tl_xV5i tl_ck9 rfl h0 (l9_act h0 e4) dX9_send_6 cs_X9_send_6 ⟨Nat.le_of_ble_eq_true rfl, Nat.le_of_ble_eq_true rfl⟩ (Nat.le_of_ble_eq_true rfl) (tl_iretX dX9_send_9 rfl rfl (Nat.le_of_ble_eq_true rfl) (Nat.le_of_ble_eq_true rfl) h)

theorem cs_X9_lamp_7 : tl_cV mX9_lamp mX9_act 235 5 := ⟨cd_X9_act, ml_X9_235, im_X9_act, se_X9_act, in_X9, ⟨by decide, by decide, by decide +kernel⟩, Nat.le_of_ble_eq_true rfl, Nat.le_of_ble_eq_true rfl⟩
def f9_lamp (a0 : Nat) (x1 : Int32) (x2 : Int32) (x3 : Int32) (x4 : Int32) (u : tl_S) : Option (Nat × Int32 × tl_S) :=
  tl_bx (f9_act a0 4 x1 x2 x3 x4 u) (fun x8 u7 => some (0, x8, u7))

theorem l9_lamp {E : tl_E} {a0 : Nat} {x1 : Int32} {x2 : Int32} {x3 : Int32} {x4 : Int32}  {u : tl_S} {t : Nat} {r : Int32} {v : tl_S} (h0 : tl_T E.2.1 a0 = some 9) (h : f9_lamp a0 x1 x2 x3 x4 u = some (t, r, v)) : tl_MX E mX9_lamp [.ref a0, .int x1, .int x2, .int x3, .int x4] u t (some (.int r)) v := by
  unfold f9_lamp at h
  refine tl_startX [some (.ref a0), some (.int x1), some (.int x2), some (.int x3), some (.int x4)] rfl rfl rfl (Nat.le_of_ble_eq_true rfl) ?_
  refine tl_aload_n dX9_lamp_0 rfl (tl_iconst (v := 4) dX9_lamp_1 ic_4 (tl_iload_n dX9_lamp_2 rfl (tl_iload_n dX9_lamp_3 rfl (tl_iload_n dX9_lamp_4 rfl (tl_iload dX9_lamp_5 rfl (?_))))))
  rcases tl_bxi h with ⟨x8, u7, e6, h⟩ | ⟨t1, x8, e6, et⟩
  rotate_left
  · subst et; exact tl_xV5t tl_ck9 rfl h0 (l9_act h0 e6) dX9_lamp_7 cs_X9_lamp_7 ⟨Nat.le_of_ble_eq_true rfl, Nat.le_of_ble_eq_true rfl⟩ (Nat.le_of_ble_eq_true rfl)
  exact tl_xV5i tl_ck9 rfl h0 (l9_act h0 e6) dX9_lamp_7 cs_X9_lamp_7 ⟨Nat.le_of_ble_eq_true rfl, Nat.le_of_ble_eq_true rfl⟩ (Nat.le_of_ble_eq_true rfl) (tl_iretX dX9_lamp_10 rfl rfl (Nat.le_of_ble_eq_true rfl) (Nat.le_of_ble_eq_true rfl) h)

theorem cs_X9_store_6 : tl_cV mX9_store mX9_act 235 5 := ⟨cd_X9_act, ml_X9_235, im_X9_act, se_X9_act, in_X9, ⟨by decide, by decide, by decide +kernel⟩, Nat.le_of_ble_eq_true rfl, Nat.le_of_ble_eq_true rfl⟩
def f9_store (a0 : Nat) (x1 : Int32) (u : tl_S) : Option (Nat × Int32 × tl_S) :=
  tl_bx (f9_act a0 5 x1 0 0 0 u) (fun x5 u4 => some (0, x5, u4))

theorem l9_store {E : tl_E} {a0 : Nat} {x1 : Int32}  {u : tl_S} {t : Nat} {r : Int32} {v : tl_S} (h0 : tl_T E.2.1 a0 = some 9) (h : f9_store a0 x1 u = some (t, r, v)) : tl_MX E mX9_store [.ref a0, .int x1] u t (some (.int r)) v := by
  unfold f9_store at h
  refine tl_startX [some (.ref a0), some (.int x1)] rfl rfl rfl (Nat.le_of_ble_eq_true rfl) ?_
  refine tl_aload_n dX9_store_0 rfl (tl_iconst (v := 5) dX9_store_1 ic_5 (tl_iload_n dX9_store_2 rfl (tl_iconst (v := 0) dX9_store_3 ic_0 (tl_iconst (v := 0) dX9_store_4 ic_0 (tl_iconst (v := 0) dX9_store_5 ic_0 (?_))))))
  rcases tl_bxi h with ⟨x5, u4, e3, h⟩ | ⟨t1, x5, e3, et⟩
  rotate_left
  · subst et; exact tl_xV5t tl_ck9 rfl h0 (l9_act h0 e3) dX9_store_6 cs_X9_store_6 ⟨Nat.le_of_ble_eq_true rfl, Nat.le_of_ble_eq_true rfl⟩ (Nat.le_of_ble_eq_true rfl)
  exact tl_xV5i tl_ck9 rfl h0 (l9_act h0 e3) dX9_store_6 cs_X9_store_6 ⟨Nat.le_of_ble_eq_true rfl, Nat.le_of_ble_eq_true rfl⟩ (Nat.le_of_ble_eq_true rfl) (tl_iretX dX9_store_9 rfl rfl (Nat.le_of_ble_eq_true rfl) (Nat.le_of_ble_eq_true rfl) h)

theorem cs_X9_hang_7 : tl_cV mX9_hang mX9_act 235 5 := ⟨cd_X9_act, ml_X9_235, im_X9_act, se_X9_act, in_X9, ⟨by decide, by decide, by decide +kernel⟩, Nat.le_of_ble_eq_true rfl, Nat.le_of_ble_eq_true rfl⟩
def f9_hang (a0 : Nat) (x1 : Int32) (x2 : Int32) (x3 : Int32) (u : tl_S) : Option (Nat × Int32 × tl_S) :=
  tl_bx (f9_act a0 6 x1 x2 x3 0 u) (fun x7 u6 => some (0, x7, u6))

theorem l9_hang {E : tl_E} {a0 : Nat} {x1 : Int32} {x2 : Int32} {x3 : Int32}  {u : tl_S} {t : Nat} {r : Int32} {v : tl_S} (h0 : tl_T E.2.1 a0 = some 9) (h : f9_hang a0 x1 x2 x3 u = some (t, r, v)) : tl_MX E mX9_hang [.ref a0, .int x1, .int x2, .int x3] u t (some (.int r)) v := by
  unfold f9_hang at h
  refine tl_startX [some (.ref a0), some (.int x1), some (.int x2), some (.int x3)] rfl rfl rfl (Nat.le_of_ble_eq_true rfl) ?_
  refine tl_aload_n dX9_hang_0 rfl (tl_bipush (v := 6) dX9_hang_1 bp_6 (tl_iload_n dX9_hang_3 rfl (tl_iload_n dX9_hang_4 rfl (tl_iload_n dX9_hang_5 rfl (tl_iconst (v := 0) dX9_hang_6 ic_0 (?_))))))
  rcases tl_bxi h with ⟨x7, u6, e5, h⟩ | ⟨t1, x7, e5, et⟩
  rotate_left
  · subst et; exact tl_xV5t tl_ck9 rfl h0 (l9_act h0 e5) dX9_hang_7 cs_X9_hang_7 ⟨Nat.le_of_ble_eq_true rfl, Nat.le_of_ble_eq_true rfl⟩ (Nat.le_of_ble_eq_true rfl)
  exact tl_xV5i tl_ck9 rfl h0 (l9_act h0 e5) dX9_hang_7 cs_X9_hang_7 ⟨Nat.le_of_ble_eq_true rfl, Nat.le_of_ble_eq_true rfl⟩ (Nat.le_of_ble_eq_true rfl) (tl_iretX dX9_hang_10 rfl rfl (Nat.le_of_ble_eq_true rfl) (Nat.le_of_ble_eq_true rfl) h)

theorem cs_X9_fill_7 : tl_cV mX9_fill mX9_act 235 5 := ⟨cd_X9_act, ml_X9_235, im_X9_act, se_X9_act, in_X9, ⟨by decide, by decide, by decide +kernel⟩, Nat.le_of_ble_eq_true rfl, Nat.le_of_ble_eq_true rfl⟩
def f9_fill (a0 : Nat) (x1 : Int32) (x2 : Int32) (u : tl_S) : Option (Nat × Int32 × tl_S) :=
  tl_bx (f9_act a0 7 x1 x2 0 0 u) (fun x6 u5 => some (0, x6, u5))

theorem l9_fill {E : tl_E} {a0 : Nat} {x1 : Int32} {x2 : Int32}  {u : tl_S} {t : Nat} {r : Int32} {v : tl_S} (h0 : tl_T E.2.1 a0 = some 9) (h : f9_fill a0 x1 x2 u = some (t, r, v)) : tl_MX E mX9_fill [.ref a0, .int x1, .int x2] u t (some (.int r)) v := by
  unfold f9_fill at h
  refine tl_startX [some (.ref a0), some (.int x1), some (.int x2)] rfl rfl rfl (Nat.le_of_ble_eq_true rfl) ?_
  refine tl_aload_n dX9_fill_0 rfl (tl_bipush (v := 7) dX9_fill_1 bp_7 (tl_iload_n dX9_fill_3 rfl (tl_iload_n dX9_fill_4 rfl (tl_iconst (v := 0) dX9_fill_5 ic_0 (tl_iconst (v := 0) dX9_fill_6 ic_0 (?_))))))
  rcases tl_bxi h with ⟨x6, u5, e4, h⟩ | ⟨t1, x6, e4, et⟩
  rotate_left
  · subst et; exact tl_xV5t tl_ck9 rfl h0 (l9_act h0 e4) dX9_fill_7 cs_X9_fill_7 ⟨Nat.le_of_ble_eq_true rfl, Nat.le_of_ble_eq_true rfl⟩ (Nat.le_of_ble_eq_true rfl)
  exact tl_xV5i tl_ck9 rfl h0 (l9_act h0 e4) dX9_fill_7 cs_X9_fill_7 ⟨Nat.le_of_ble_eq_true rfl, Nat.le_of_ble_eq_true rfl⟩ (Nat.le_of_ble_eq_true rfl) (tl_iretX dX9_fill_10 rfl rfl (Nat.le_of_ble_eq_true rfl) (Nat.le_of_ble_eq_true rfl) h)

theorem cs_X9_drop_7 : tl_cV mX9_drop mX9_act 235 5 := ⟨cd_X9_act, ml_X9_235, im_X9_act, se_X9_act, in_X9, ⟨by decide, by decide, by decide +kernel⟩, Nat.le_of_ble_eq_true rfl, Nat.le_of_ble_eq_true rfl⟩
def f9_drop (a0 : Nat) (x1 : Int32) (u : tl_S) : Option (Nat × Int32 × tl_S) :=
  tl_bx (f9_act a0 8 x1 0 0 0 u) (fun x5 u4 => some (0, x5, u4))

theorem l9_drop {E : tl_E} {a0 : Nat} {x1 : Int32}  {u : tl_S} {t : Nat} {r : Int32} {v : tl_S} (h0 : tl_T E.2.1 a0 = some 9) (h : f9_drop a0 x1 u = some (t, r, v)) : tl_MX E mX9_drop [.ref a0, .int x1] u t (some (.int r)) v := by
  unfold f9_drop at h
  refine tl_startX [some (.ref a0), some (.int x1)] rfl rfl rfl (Nat.le_of_ble_eq_true rfl) ?_
  refine tl_aload_n dX9_drop_0 rfl (tl_bipush (v := 8) dX9_drop_1 bp_8 (tl_iload_n dX9_drop_3 rfl (tl_iconst (v := 0) dX9_drop_4 ic_0 (tl_iconst (v := 0) dX9_drop_5 ic_0 (tl_iconst (v := 0) dX9_drop_6 ic_0 (?_))))))
  rcases tl_bxi h with ⟨x5, u4, e3, h⟩ | ⟨t1, x5, e3, et⟩
  rotate_left
  · subst et; exact tl_xV5t tl_ck9 rfl h0 (l9_act h0 e3) dX9_drop_7 cs_X9_drop_7 ⟨Nat.le_of_ble_eq_true rfl, Nat.le_of_ble_eq_true rfl⟩ (Nat.le_of_ble_eq_true rfl)
  exact tl_xV5i tl_ck9 rfl h0 (l9_act h0 e3) dX9_drop_7 cs_X9_drop_7 ⟨Nat.le_of_ble_eq_true rfl, Nat.le_of_ble_eq_true rfl⟩ (Nat.le_of_ble_eq_true rfl) (tl_iretX dX9_drop_10 rfl rfl (Nat.le_of_ble_eq_true rfl) (Nat.le_of_ble_eq_true rfl) h)

theorem cs_X9_set_7 : tl_cV mX9_set mX9_act 235 5 := ⟨cd_X9_act, ml_X9_235, im_X9_act, se_X9_act, in_X9, ⟨by decide, by decide, by decide +kernel⟩, Nat.le_of_ble_eq_true rfl, Nat.le_of_ble_eq_true rfl⟩
def f9_set (a0 : Nat) (x1 : Int32) (x2 : Int32) (u : tl_S) : Option (Nat × Int32 × tl_S) :=
  tl_bx (f9_act a0 9 x1 x2 0 0 u) (fun x6 u5 => some (0, x6, u5))

theorem l9_set {E : tl_E} {a0 : Nat} {x1 : Int32} {x2 : Int32}  {u : tl_S} {t : Nat} {r : Int32} {v : tl_S} (h0 : tl_T E.2.1 a0 = some 9) (h : f9_set a0 x1 x2 u = some (t, r, v)) : tl_MX E mX9_set [.ref a0, .int x1, .int x2] u t (some (.int r)) v := by
  unfold f9_set at h
  refine tl_startX [some (.ref a0), some (.int x1), some (.int x2)] rfl rfl rfl (Nat.le_of_ble_eq_true rfl) ?_
  refine tl_aload_n dX9_set_0 rfl (tl_bipush (v := 9) dX9_set_1 bp_9 (tl_iload_n dX9_set_3 rfl (tl_iload_n dX9_set_4 rfl (tl_iconst (v := 0) dX9_set_5 ic_0 (tl_iconst (v := 0) dX9_set_6 ic_0 (?_))))))
  rcases tl_bxi h with ⟨x6, u5, e4, h⟩ | ⟨t1, x6, e4, et⟩
  rotate_left
  · subst et; exact tl_xV5t tl_ck9 rfl h0 (l9_act h0 e4) dX9_set_7 cs_X9_set_7 ⟨Nat.le_of_ble_eq_true rfl, Nat.le_of_ble_eq_true rfl⟩ (Nat.le_of_ble_eq_true rfl)
  exact tl_xV5i tl_ck9 rfl h0 (l9_act h0 e4) dX9_set_7 cs_X9_set_7 ⟨Nat.le_of_ble_eq_true rfl, Nat.le_of_ble_eq_true rfl⟩ (Nat.le_of_ble_eq_true rfl) (tl_iretX dX9_set_10 rfl rfl (Nat.le_of_ble_eq_true rfl) (Nat.le_of_ble_eq_true rfl) h)

theorem cs_X9_hours_7 : tl_cV mX9_hours mX9_act 235 5 := ⟨cd_X9_act, ml_X9_235, im_X9_act, se_X9_act, in_X9, ⟨by decide, by decide, by decide +kernel⟩, Nat.le_of_ble_eq_true rfl, Nat.le_of_ble_eq_true rfl⟩
def f9_hours (a0 : Nat) (x1 : Int32) (u : tl_S) : Option (Nat × Int32 × tl_S) :=
  tl_bx (f9_act a0 10 x1 0 0 0 u) (fun x5 u4 => some (0, x5, u4))

theorem l9_hours {E : tl_E} {a0 : Nat} {x1 : Int32}  {u : tl_S} {t : Nat} {r : Int32} {v : tl_S} (h0 : tl_T E.2.1 a0 = some 9) (h : f9_hours a0 x1 u = some (t, r, v)) : tl_MX E mX9_hours [.ref a0, .int x1] u t (some (.int r)) v := by
  unfold f9_hours at h
  refine tl_startX [some (.ref a0), some (.int x1)] rfl rfl rfl (Nat.le_of_ble_eq_true rfl) ?_
  refine tl_aload_n dX9_hours_0 rfl (tl_bipush (v := 10) dX9_hours_1 bp_10 (tl_iload_n dX9_hours_3 rfl (tl_iconst (v := 0) dX9_hours_4 ic_0 (tl_iconst (v := 0) dX9_hours_5 ic_0 (tl_iconst (v := 0) dX9_hours_6 ic_0 (?_))))))
  rcases tl_bxi h with ⟨x5, u4, e3, h⟩ | ⟨t1, x5, e3, et⟩
  rotate_left
  · subst et; exact tl_xV5t tl_ck9 rfl h0 (l9_act h0 e3) dX9_hours_7 cs_X9_hours_7 ⟨Nat.le_of_ble_eq_true rfl, Nat.le_of_ble_eq_true rfl⟩ (Nat.le_of_ble_eq_true rfl)
  exact tl_xV5i tl_ck9 rfl h0 (l9_act h0 e3) dX9_hours_7 cs_X9_hours_7 ⟨Nat.le_of_ble_eq_true rfl, Nat.le_of_ble_eq_true rfl⟩ (Nat.le_of_ble_eq_true rfl) (tl_iretX dX9_hours_10 rfl rfl (Nat.le_of_ble_eq_true rfl) (Nat.le_of_ble_eq_true rfl) h)

theorem cs_X9_undo_17 : tl_cS mX9_undo mX9_demand 59 3 := ⟨cd_X9_demand, ml_X9_59, sm_X9_demand, in_X9, ⟨by decide, by decide, by decide +kernel⟩, Nat.le_of_ble_eq_true rfl, Nat.le_of_ble_eq_true rfl⟩
theorem cs_X9_undo_28 : tl_cV mX9_undo mX2_takeBack 242 1 := ⟨cd_X2_takeBack, ml_X9_242, im_X2_takeBack, se_X2_takeBack, in_X2, ⟨by decide, by decide, by decide +kernel⟩, Nat.le_of_ble_eq_true rfl, Nat.le_of_ble_eq_true rfl⟩
def f9_undo (a0 : Nat) (u : tl_S) : Option (Nat × Int32 × tl_S) :=
  (if (u.1 (a0 + 91) 2) ≤ 0 then tl_bx (f9_demand 1 1 0 u) (fun x5 u4 => tl_b (f2_takeBack (a0 + 91) (a0 + 4) u4) (fun u7 => some (0, (u7.1 (a0 + 91) 2), u7))) else tl_bx (f9_demand 1 1 1 u) (fun x5 u4 => tl_b (f2_takeBack (a0 + 91) (a0 + 4) u4) (fun u7 => some (0, (u7.1 (a0 + 91) 2), u7))))

theorem l9_undo {E : tl_E} {a0 : Nat}  {u : tl_S} {t : Nat} {r : Int32} {v : tl_S} (h0 : tl_T E.2.1 a0 = some 9) (h : f9_undo a0 u = some (t, r, v)) : tl_MX E mX9_undo [.ref a0] u t (some (.int r)) v := by
  unfold f9_undo at h
  refine tl_startX [some (.ref a0)] rfl rfl rfl (Nat.le_of_ble_eq_true rfl) ?_
  refine tl_iconst (v := 1) dX9_undo_0 ic_1 (tl_iconst (v := 1) dX9_undo_1 ic_1 (tl_aload_n dX9_undo_2 rfl (tl_getr (f := 5) (o := 91) tl_ck9 dX9_undo_3 fl_X9_39 (Nat.le_of_ble_eq_true rfl) rfl h0 (tl_geti (f := 2) tl_ck2 dX9_undo_6 fl_X9_239 (Nat.le_of_ble_eq_true rfl) rfl (tt_9_5 h0) (tl_if_le (tgt := 16) dX9_undo_9 (by decide) (fun c2 => ?_) (fun c2 => ?_))))))
  · replace h := tl_ip h c2
    refine tl_iconst (v := 0) dX9_undo_16 ic_0 (?_)
    rcases tl_bxi h with ⟨x5, u4, e3, h⟩ | ⟨t1, x5, e3, et⟩
    rotate_left
    · subst et; exact tl_xS3t (l9_demand  e3) dX9_undo_17 cs_X9_undo_17 ⟨Nat.le_of_ble_eq_true rfl, Nat.le_of_ble_eq_true rfl⟩ (Nat.le_of_ble_eq_true rfl)
    obtain ⟨u7, e6, h⟩ := tl_bi h
    exact tl_xS3v (l9_demand  e3) dX9_undo_17 cs_X9_undo_17 ⟨Nat.le_of_ble_eq_true rfl, Nat.le_of_ble_eq_true rfl⟩ (Nat.le_of_ble_eq_true rfl) (tl_aload_n dX9_undo_20 rfl (tl_getr (f := 5) (o := 91) tl_ck9 dX9_undo_21 fl_X9_39 (Nat.le_of_ble_eq_true rfl) rfl h0 (tl_aload_n dX9_undo_24 rfl (tl_getr (f := 2) (o := 4) tl_ck9 dX9_undo_25 fl_X9_26 (Nat.le_of_ble_eq_true rfl) rfl h0 (tl_vV1 tl_ck2 rfl (tt_9_5 h0) (l2_takeBack (tt_9_5 h0) (tt_9_2 h0) e6) dX9_undo_28 cs_X9_undo_28 ⟨rfl, rfl⟩ ⟨Nat.le_of_ble_eq_true rfl, Nat.le_of_ble_eq_true rfl⟩ (Nat.le_of_ble_eq_true rfl) (tl_aload_n dX9_undo_31 rfl (tl_getr (f := 5) (o := 91) tl_ck9 dX9_undo_32 fl_X9_39 (Nat.le_of_ble_eq_true rfl) rfl h0 (tl_geti (f := 2) tl_ck2 dX9_undo_35 fl_X9_239 (Nat.le_of_ble_eq_true rfl) rfl (tt_9_5 h0) (tl_iretX dX9_undo_38 rfl rfl (Nat.le_of_ble_eq_true rfl) (Nat.le_of_ble_eq_true rfl) h)))))))))
  · replace h := tl_in h c2
    refine tl_iconst (v := 1) dX9_undo_12 ic_1 (tl_goto (tgt := 17) dX9_undo_13 (by decide) (?_))
    rcases tl_bxi h with ⟨x5, u4, e3, h⟩ | ⟨t1, x5, e3, et⟩
    rotate_left
    · subst et; exact tl_xS3t (l9_demand  e3) dX9_undo_17 cs_X9_undo_17 ⟨Nat.le_of_ble_eq_true rfl, Nat.le_of_ble_eq_true rfl⟩ (Nat.le_of_ble_eq_true rfl)
    obtain ⟨u7, e6, h⟩ := tl_bi h
    exact tl_xS3v (l9_demand  e3) dX9_undo_17 cs_X9_undo_17 ⟨Nat.le_of_ble_eq_true rfl, Nat.le_of_ble_eq_true rfl⟩ (Nat.le_of_ble_eq_true rfl) (tl_aload_n dX9_undo_20 rfl (tl_getr (f := 5) (o := 91) tl_ck9 dX9_undo_21 fl_X9_39 (Nat.le_of_ble_eq_true rfl) rfl h0 (tl_aload_n dX9_undo_24 rfl (tl_getr (f := 2) (o := 4) tl_ck9 dX9_undo_25 fl_X9_26 (Nat.le_of_ble_eq_true rfl) rfl h0 (tl_vV1 tl_ck2 rfl (tt_9_5 h0) (l2_takeBack (tt_9_5 h0) (tt_9_2 h0) e6) dX9_undo_28 cs_X9_undo_28 ⟨rfl, rfl⟩ ⟨Nat.le_of_ble_eq_true rfl, Nat.le_of_ble_eq_true rfl⟩ (Nat.le_of_ble_eq_true rfl) (tl_aload_n dX9_undo_31 rfl (tl_getr (f := 5) (o := 91) tl_ck9 dX9_undo_32 fl_X9_39 (Nat.le_of_ble_eq_true rfl) rfl h0 (tl_geti (f := 2) tl_ck2 dX9_undo_35 fl_X9_239 (Nat.le_of_ble_eq_true rfl) rfl (tt_9_5 h0) (tl_iretX dX9_undo_38 rfl rfl (Nat.le_of_ble_eq_true rfl) (Nat.le_of_ble_eq_true rfl) h)))))))))

theorem cs_X9_darkIn_5 : tl_cV mX9_darkIn mX5_hasGallery 138 1 := ⟨cd_X5_hasGallery, ml_X9_138, im_X5_hasGallery, se_X5_hasGallery, in_X5, ⟨by decide, by decide, by decide +kernel⟩, Nat.le_of_ble_eq_true rfl, Nat.le_of_ble_eq_true rfl⟩
theorem cs_X9_darkIn_10 : tl_cS mX9_darkIn mX9_demand 59 3 := ⟨cd_X9_demand, ml_X9_59, sm_X9_demand, in_X9, ⟨by decide, by decide, by decide +kernel⟩, Nat.le_of_ble_eq_true rfl, Nat.le_of_ble_eq_true rfl⟩
theorem cs_X9_darkIn_21 : tl_cV mX9_darkIn mX5_copyFrom 75 1 := ⟨cd_X5_copyFrom, ml_X9_75, im_X5_copyFrom, se_X5_copyFrom, in_X5, ⟨by decide, by decide, by decide +kernel⟩, Nat.le_of_ble_eq_true rfl, Nat.le_of_ble_eq_true rfl⟩
theorem cs_X9_darkIn_50 : tl_cV mX9_darkIn mX5_isLit 158 2 := ⟨cd_X5_isLit, ml_X9_158, im_X5_isLit, se_X5_isLit, in_X5, ⟨by decide, by decide, by decide +kernel⟩, Nat.le_of_ble_eq_true rfl, Nat.le_of_ble_eq_true rfl⟩
theorem cs_X9_darkIn_63 : tl_cV mX9_darkIn mX5_letHoursGo 245 1 := ⟨cd_X5_letHoursGo, ml_X9_245, im_X5_letHoursGo, se_X5_letHoursGo, in_X5, ⟨by decide, by decide, by decide +kernel⟩, Nat.le_of_ble_eq_true rfl, Nat.le_of_ble_eq_true rfl⟩
def f9_darkIn_p26 : Nat → Nat → Int32 → Int32 → tl_S → Option (Nat × Int32 × tl_S)
  | 0, _, _, _, _ => none
  | fu + 1, a1, x2, x3, u =>
  (if 200 < x3 then some (0, (-1), u) else tl_g (¬ (x2 < 0 ∨ 3 ≤ x2.toNatClampNeg)) (tl_b2 (f5_isLit (a1 + 62) x2 (u.1 (((a1 + 62) + 1) + (11 + x2.toNatClampNeg)) 0) u) (fun x9 u8 => (if x9 = 0 then some (0, x3, u8) else tl_b2 (f5_letHoursGo (a1 + 62) 1 u8) (fun x13 u12 => tl_let (x3 + 1) (fun x14 => f9_darkIn_p26 fu a1 x2 x14 u12))))))

def f9_darkIn (a0 : Nat) (x1 : Int32) (u : tl_S) : Option (Nat × Int32 × tl_S) :=
  tl_b2 (f5_hasGallery (a0 + 4) x1 u) (fun x5 u4 => tl_bx (f9_demand x5 1 1 u4) (fun x8 u7 => tl_b (f5_copyFrom (a0 + 62) (a0 + 4) u7) (fun u10 => f9_darkIn_p26 tl_F a0 x1 0 u10)))

theorem l9_darkIn_p26 {E : tl_E}  {t : Nat} {r : Int32} {v : tl_S} : ∀ (n : Nat) (a1 : Nat) (x2 : Int32) (x3 : Int32) (u : tl_S) , tl_T E.2.1 a1 = some 9 → f9_darkIn_p26 n a1 x2 x3 u = some (t, r, v) → tl_R E mX9_darkIn tl_XT (tl_ZX E mX9_darkIn t (some (.int r)) v) 1 6 (tl_HB E u) 26 [some (.ref a1), some (.int x2), some (.int x3)] [] := by
  intro n
  induction n with
  | zero => intro a1 x2 x3 u  h1 h; exact absurd h (by simp [f9_darkIn_p26])
  | succ n ih =>
    intro a1 x2 x3 u  h1 h
    rw [f9_darkIn_p26] at h
    refine tl_iload_n dX9_darkIn_26 rfl (tl_sipush (v := 200) dX9_darkIn_27 sp_200 (tl_icmp_gt (tgt := 73) dX9_darkIn_30 (by decide) (fun c5 => ?_) (fun c5 => ?_)))
    · replace h := tl_ip h c5
      exact tl_iconst (v := (-1)) dX9_darkIn_73 ic_m1 (tl_iretX dX9_darkIn_74 rfl rfl (Nat.le_of_ble_eq_true rfl) (Nat.le_of_ble_eq_true rfl) h)
    · replace h := tl_in h c5
      obtain ⟨g6, h⟩ := tl_gi h
      obtain ⟨x9, u8, e7, h⟩ := tl_b2i h
      refine tl_aload_n dX9_darkIn_33 rfl (tl_getr (f := 4) (o := 62) tl_ck9 dX9_darkIn_34 fl_X9_33 (Nat.le_of_ble_eq_true rfl) rfl h1 (tl_iload_n dX9_darkIn_37 rfl (tl_aload_n dX9_darkIn_38 rfl (tl_getr (f := 4) (o := 62) tl_ck9 dX9_darkIn_39 fl_X9_33 (Nat.le_of_ble_eq_true rfl) rfl h1 (tl_getr (f := 0) (o := 1) tl_ck5 dX9_darkIn_42 fl_X9_142 (Nat.le_of_ble_eq_true rfl) rfl (tt_9_4 h1) (tl_iload_n dX9_darkIn_45 rfl (tl_ald18 dX9_darkIn_46 (tt_5_0 (tt_9_4 h1)) (x2.toNatClampNeg) g6 rfl (tl_geti (f := 0) tl_ck1 dX9_darkIn_47 fl_X9_146 (Nat.le_of_ble_eq_true rfl) rfl (ta_18 (tt_5_0 (tt_9_4 h1)) (tl_inlt g6)) (tl_iV2 tl_ck5 rfl (tt_9_4 h1) (l5_isLit (tt_9_4 h1) e7) dX9_darkIn_50 cs_X9_darkIn_50 ⟨rfl, rfl⟩ ⟨Nat.le_of_ble_eq_true rfl, Nat.le_of_ble_eq_true rfl⟩ (Nat.le_of_ble_eq_true rfl) (tl_if_ne (tgt := 58) dX9_darkIn_53 (by decide) (fun c10 => ?_) (fun c10 => ?_)))))))))))
      · replace h := tl_in h c10
        obtain ⟨x13, u12, e11, h⟩ := tl_b2i h
        refine tl_aload_n dX9_darkIn_58 rfl (tl_getr (f := 4) (o := 62) tl_ck9 dX9_darkIn_59 fl_X9_33 (Nat.le_of_ble_eq_true rfl) rfl h1 (tl_iconst (v := 1) dX9_darkIn_62 ic_1 (tl_iV1 tl_ck5 rfl (tt_9_4 h1) (l5_letHoursGo (tt_9_4 h1) e11) dX9_darkIn_63 cs_X9_darkIn_63 ⟨rfl, rfl⟩ ⟨Nat.le_of_ble_eq_true rfl, Nat.le_of_ble_eq_true rfl⟩ (Nat.le_of_ble_eq_true rfl) (tl_pop dX9_darkIn_66 rfl (tl_iincK dX9_darkIn_67 rfl (ii_1 _) (Nat.le_of_ble_eq_true rfl) (fun x14 e => ?_))))))
        have h := tl_leteq e h
        clear e
        refine tl_goto (tgt := 26) dX9_darkIn_70 (by decide) (?_)
        exact ih _ _ _ _  h1 h
      · replace h := tl_ip h c10
        exact tl_iload_n dX9_darkIn_56 rfl (tl_iretX dX9_darkIn_57 rfl rfl (Nat.le_of_ble_eq_true rfl) (Nat.le_of_ble_eq_true rfl) h)

theorem l9_darkIn {E : tl_E} {a0 : Nat} {x1 : Int32}  {u : tl_S} {t : Nat} {r : Int32} {v : tl_S} (h0 : tl_T E.2.1 a0 = some 9) (h : f9_darkIn a0 x1 u = some (t, r, v)) : tl_MX E mX9_darkIn [.ref a0, .int x1] u t (some (.int r)) v := by
  unfold f9_darkIn at h
  refine tl_startX [some (.ref a0), some (.int x1), none] rfl rfl rfl (Nat.le_of_ble_eq_true rfl) ?_
  obtain ⟨x5, u4, e3, h⟩ := tl_b2i h
  refine tl_aload_n dX9_darkIn_0 rfl (tl_getr (f := 2) (o := 4) tl_ck9 dX9_darkIn_1 fl_X9_26 (Nat.le_of_ble_eq_true rfl) rfl h0 (tl_iload_n dX9_darkIn_4 rfl (tl_iV1 tl_ck5 rfl (tt_9_2 h0) (l5_hasGallery (tt_9_2 h0) e3) dX9_darkIn_5 cs_X9_darkIn_5 ⟨rfl, rfl⟩ ⟨Nat.le_of_ble_eq_true rfl, Nat.le_of_ble_eq_true rfl⟩ (Nat.le_of_ble_eq_true rfl) (tl_iconst (v := 1) dX9_darkIn_8 ic_1 (tl_iconst (v := 1) dX9_darkIn_9 ic_1 (?_))))))
  rcases tl_bxi h with ⟨x8, u7, e6, h⟩ | ⟨t1, x8, e6, et⟩
  rotate_left
  · subst et; exact tl_xS3t (l9_demand  e6) dX9_darkIn_10 cs_X9_darkIn_10 ⟨Nat.le_of_ble_eq_true rfl, Nat.le_of_ble_eq_true rfl⟩ (Nat.le_of_ble_eq_true rfl)
  obtain ⟨u10, e9, h⟩ := tl_bi h
  refine tl_xS3v (l9_demand  e6) dX9_darkIn_10 cs_X9_darkIn_10 ⟨Nat.le_of_ble_eq_true rfl, Nat.le_of_ble_eq_true rfl⟩ (Nat.le_of_ble_eq_true rfl) (tl_aload_n dX9_darkIn_13 rfl (tl_getr (f := 4) (o := 62) tl_ck9 dX9_darkIn_14 fl_X9_33 (Nat.le_of_ble_eq_true rfl) rfl h0 (tl_aload_n dX9_darkIn_17 rfl (tl_getr (f := 2) (o := 4) tl_ck9 dX9_darkIn_18 fl_X9_26 (Nat.le_of_ble_eq_true rfl) rfl h0 (tl_vV1 tl_ck5 rfl (tt_9_4 h0) (l5_copyFrom (tt_9_4 h0) (tt_9_2 h0) e9) dX9_darkIn_21 cs_X9_darkIn_21 ⟨rfl, rfl⟩ ⟨Nat.le_of_ble_eq_true rfl, Nat.le_of_ble_eq_true rfl⟩ (Nat.le_of_ble_eq_true rfl) (tl_iconst (v := 0) dX9_darkIn_24 ic_0 (tl_istore_n dX9_darkIn_25 (Nat.le_of_ble_eq_true rfl) (?_))))))))
  exact l9_darkIn_p26 tl_F _ _ _ _  h0 h

theorem cs_X9_depthIn_5 : tl_cV mX9_depthIn mX5_hasGallery 138 1 := ⟨cd_X5_hasGallery, ml_X9_138, im_X5_hasGallery, se_X5_hasGallery, in_X5, ⟨by decide, by decide, by decide +kernel⟩, Nat.le_of_ble_eq_true rfl, Nat.le_of_ble_eq_true rfl⟩
theorem cs_X9_depthIn_13 : tl_cS mX9_depthIn mX9_isWithin 51 3 := ⟨cd_X9_isWithin, ml_X9_51, sm_X9_isWithin, in_X9, ⟨by decide, by decide, by decide +kernel⟩, Nat.le_of_ble_eq_true rfl, Nat.le_of_ble_eq_true rfl⟩
theorem cs_X9_depthIn_17 : tl_cS mX9_depthIn mX9_demand 59 3 := ⟨cd_X9_demand, ml_X9_59, sm_X9_demand, in_X9, ⟨by decide, by decide, by decide +kernel⟩, Nat.le_of_ble_eq_true rfl, Nat.le_of_ble_eq_true rfl⟩
theorem cs_X9_depthIn_28 : tl_cV mX9_depthIn mX5_copyFrom 75 1 := ⟨cd_X5_copyFrom, ml_X9_75, im_X5_copyFrom, se_X5_copyFrom, in_X5, ⟨by decide, by decide, by decide +kernel⟩, Nat.le_of_ble_eq_true rfl, Nat.le_of_ble_eq_true rfl⟩
theorem cs_X9_depthIn_36 : tl_cV mX9_depthIn mX5_letHoursGo 245 1 := ⟨cd_X5_letHoursGo, ml_X9_245, im_X5_letHoursGo, se_X5_letHoursGo, in_X5, ⟨by decide, by decide, by decide +kernel⟩, Nat.le_of_ble_eq_true rfl, Nat.le_of_ble_eq_true rfl⟩
def f9_depthIn (a0 : Nat) (x1 : Int32) (x2 : Int32) (u : tl_S) : Option (Nat × Int32 × tl_S) :=
  tl_b2 (f5_hasGallery (a0 + 4) x1 u) (fun x6 u5 => tl_b2 (f9_isWithin x2 1 200 u5) (fun x9 u8 => tl_bx (f9_demand x6 x9 1 u8) (fun x12 u11 => tl_b (f5_copyFrom (a0 + 62) (a0 + 4) u11) (fun u14 => tl_b2 (f5_letHoursGo (a0 + 62) x2 u14) (fun x17 u16 => tl_g (¬ (x1 < 0 ∨ 3 ≤ x1.toNatClampNeg)) (some (0, (u16.1 (((a0 + 62) + 1) + (11 + x1.toNatClampNeg)) 0), u16)))))))

theorem l9_depthIn {E : tl_E} {a0 : Nat} {x1 : Int32} {x2 : Int32}  {u : tl_S} {t : Nat} {r : Int32} {v : tl_S} (h0 : tl_T E.2.1 a0 = some 9) (h : f9_depthIn a0 x1 x2 u = some (t, r, v)) : tl_MX E mX9_depthIn [.ref a0, .int x1, .int x2] u t (some (.int r)) v := by
  unfold f9_depthIn at h
  refine tl_startX [some (.ref a0), some (.int x1), some (.int x2)] rfl rfl rfl (Nat.le_of_ble_eq_true rfl) ?_
  obtain ⟨x6, u5, e4, h⟩ := tl_b2i h
  obtain ⟨x9, u8, e7, h⟩ := tl_b2i h
  refine tl_aload_n dX9_depthIn_0 rfl (tl_getr (f := 2) (o := 4) tl_ck9 dX9_depthIn_1 fl_X9_26 (Nat.le_of_ble_eq_true rfl) rfl h0 (tl_iload_n dX9_depthIn_4 rfl (tl_iV1 tl_ck5 rfl (tt_9_2 h0) (l5_hasGallery (tt_9_2 h0) e4) dX9_depthIn_5 cs_X9_depthIn_5 ⟨rfl, rfl⟩ ⟨Nat.le_of_ble_eq_true rfl, Nat.le_of_ble_eq_true rfl⟩ (Nat.le_of_ble_eq_true rfl) (tl_iload_n dX9_depthIn_8 rfl (tl_iconst (v := 1) dX9_depthIn_9 ic_1 (tl_sipush (v := 200) dX9_depthIn_10 sp_200 (tl_iS3 (l9_isWithin  e7) dX9_depthIn_13 cs_X9_depthIn_13 ⟨rfl, rfl⟩ ⟨Nat.le_of_ble_eq_true rfl, Nat.le_of_ble_eq_true rfl⟩ (Nat.le_of_ble_eq_true rfl) (tl_iconst (v := 1) dX9_depthIn_16 ic_1 (?_)))))))))
  rcases tl_bxi h with ⟨x12, u11, e10, h⟩ | ⟨t1, x12, e10, et⟩
  rotate_left
  · subst et; exact tl_xS3t (l9_demand  e10) dX9_depthIn_17 cs_X9_depthIn_17 ⟨Nat.le_of_ble_eq_true rfl, Nat.le_of_ble_eq_true rfl⟩ (Nat.le_of_ble_eq_true rfl)
  obtain ⟨u14, e13, h⟩ := tl_bi h
  obtain ⟨x17, u16, e15, h⟩ := tl_b2i h
  obtain ⟨g18, h⟩ := tl_gi h
  exact tl_xS3v (l9_demand  e10) dX9_depthIn_17 cs_X9_depthIn_17 ⟨Nat.le_of_ble_eq_true rfl, Nat.le_of_ble_eq_true rfl⟩ (Nat.le_of_ble_eq_true rfl) (tl_aload_n dX9_depthIn_20 rfl (tl_getr (f := 4) (o := 62) tl_ck9 dX9_depthIn_21 fl_X9_33 (Nat.le_of_ble_eq_true rfl) rfl h0 (tl_aload_n dX9_depthIn_24 rfl (tl_getr (f := 2) (o := 4) tl_ck9 dX9_depthIn_25 fl_X9_26 (Nat.le_of_ble_eq_true rfl) rfl h0 (tl_vV1 tl_ck5 rfl (tt_9_4 h0) (l5_copyFrom (tt_9_4 h0) (tt_9_2 h0) e13) dX9_depthIn_28 cs_X9_depthIn_28 ⟨rfl, rfl⟩ ⟨Nat.le_of_ble_eq_true rfl, Nat.le_of_ble_eq_true rfl⟩ (Nat.le_of_ble_eq_true rfl) (tl_aload_n dX9_depthIn_31 rfl (tl_getr (f := 4) (o := 62) tl_ck9 dX9_depthIn_32 fl_X9_33 (Nat.le_of_ble_eq_true rfl) rfl h0 (tl_iload_n dX9_depthIn_35 rfl (tl_iV1 tl_ck5 rfl (tt_9_4 h0) (l5_letHoursGo (tt_9_4 h0) e15) dX9_depthIn_36 cs_X9_depthIn_36 ⟨rfl, rfl⟩ ⟨Nat.le_of_ble_eq_true rfl, Nat.le_of_ble_eq_true rfl⟩ (Nat.le_of_ble_eq_true rfl) (tl_pop dX9_depthIn_39 rfl (tl_aload_n dX9_depthIn_40 rfl (tl_getr (f := 4) (o := 62) tl_ck9 dX9_depthIn_41 fl_X9_33 (Nat.le_of_ble_eq_true rfl) rfl h0 (tl_getr (f := 0) (o := 1) tl_ck5 dX9_depthIn_44 fl_X9_142 (Nat.le_of_ble_eq_true rfl) rfl (tt_9_4 h0) (tl_iload_n dX9_depthIn_47 rfl (tl_ald18 dX9_depthIn_48 (tt_5_0 (tt_9_4 h0)) (x1.toNatClampNeg) g18 rfl (tl_geti (f := 0) tl_ck1 dX9_depthIn_49 fl_X9_146 (Nat.le_of_ble_eq_true rfl) rfl (ta_18 (tt_5_0 (tt_9_4 h0)) (tl_inlt g18)) (tl_iretX dX9_depthIn_52 rfl rfl (Nat.le_of_ble_eq_true rfl) (Nat.le_of_ble_eq_true rfl) h)))))))))))))))))

theorem cs_X9_doneIn_8 : tl_cV mX9_doneIn mX5_copyFrom 75 1 := ⟨cd_X5_copyFrom, ml_X9_75, im_X5_copyFrom, se_X5_copyFrom, in_X5, ⟨by decide, by decide, by decide +kernel⟩, Nat.le_of_ble_eq_true rfl, Nat.le_of_ble_eq_true rfl⟩
theorem cs_X9_doneIn_48 : tl_cV mX9_doneIn mX5_letHoursGo 245 1 := ⟨cd_X5_letHoursGo, ml_X9_245, im_X5_letHoursGo, se_X5_letHoursGo, in_X5, ⟨by decide, by decide, by decide +kernel⟩, Nat.le_of_ble_eq_true rfl, Nat.le_of_ble_eq_true rfl⟩
def f9_doneIn_p21 : Nat → Nat → Int32 → tl_S → Option (Int32 × tl_S)
  | 0, _, _, _ => none
  | fu + 1, a1, x2, u =>
  (if 200 < x2 then some ((-1), u) else (if (u.1 ((a1 + 62) + 4) 1) = 0 then some (x2, u) else tl_b2 (f5_letHoursGo (a1 + 62) 1 u) (fun x8 u7 => tl_let (x2 + 1) (fun x9 => f9_doneIn_p21 fu a1 x9 u7))))

def f9_doneIn (a0 : Nat) (u : tl_S) : Option (Int32 × tl_S) :=
  tl_b (f5_copyFrom (a0 + 62) (a0 + 4) u) (fun u3 => tl_let ((tl_u u3.1 (a0 + 62) 15 0, u3.2) : tl_S) (fun u4 => f9_doneIn_p21 tl_F a0 0 u4))

theorem l9_doneIn_p21 {E : tl_E}  {r : Int32} {v : tl_S} : ∀ (n : Nat) (a1 : Nat) (x2 : Int32) (u : tl_S) , tl_T E.2.1 a1 = some 9 → f9_doneIn_p21 n a1 x2 u = some (r, v) → tl_R E mX9_doneIn tl_X0 (tl_ZB E mX9_doneIn (fun q w => q = some (.int r) ∧ w = v)) 0 0 (tl_HB E u) 21 [some (.ref a1), some (.int x2)] [] := by
  intro n
  induction n with
  | zero => intro a1 x2 u  h1 h; exact absurd h (by simp [f9_doneIn_p21])
  | succ n ih =>
    intro a1 x2 u  h1 h
    rw [f9_doneIn_p21] at h
    refine tl_iload_n dX9_doneIn_21 rfl (tl_sipush (v := 200) dX9_doneIn_22 sp_200 (tl_icmp_gt (tgt := 58) dX9_doneIn_25 (by decide) (fun c4 => ?_) (fun c4 => ?_)))
    · replace h := tl_ip h c4
      exact tl_iconst (v := (-1)) dX9_doneIn_58 ic_m1 (tl_iretE dX9_doneIn_59 rfl rfl h)
    · replace h := tl_in h c4
      refine tl_aload_n dX9_doneIn_28 rfl (tl_getr (f := 4) (o := 62) tl_ck9 dX9_doneIn_29 fl_X9_33 (Nat.le_of_ble_eq_true rfl) rfl h1 (tl_getr (f := 3) (o := 4) tl_ck5 dX9_doneIn_32 fl_X9_111 (Nat.le_of_ble_eq_true rfl) rfl (tt_9_4 h1) (tl_geti (f := 1) tl_ck3 dX9_doneIn_35 fl_X9_129 (Nat.le_of_ble_eq_true rfl) rfl (tt_5_3 (tt_9_4 h1)) (tl_if_ne (tgt := 43) dX9_doneIn_38 (by decide) (fun c5 => ?_) (fun c5 => ?_)))))
      · replace h := tl_in h c5
        obtain ⟨x8, u7, e6, h⟩ := tl_b2i h
        refine tl_aload_n dX9_doneIn_43 rfl (tl_getr (f := 4) (o := 62) tl_ck9 dX9_doneIn_44 fl_X9_33 (Nat.le_of_ble_eq_true rfl) rfl h1 (tl_iconst (v := 1) dX9_doneIn_47 ic_1 (tl_iV1 tl_ck5 rfl (tt_9_4 h1) (l5_letHoursGo (tt_9_4 h1) e6) dX9_doneIn_48 cs_X9_doneIn_48 ⟨rfl, rfl⟩ ⟨Nat.zero_le _, Nat.zero_le _⟩ (Nat.le_of_ble_eq_true rfl) (tl_pop dX9_doneIn_51 rfl (tl_iincK dX9_doneIn_52 rfl (ii_1 _) (Nat.le_of_ble_eq_true rfl) (fun x9 e => ?_))))))
        have h := tl_leteq e h
        clear e
        refine tl_goto (tgt := 21) dX9_doneIn_55 (by decide) (?_)
        exact ih _ _ _  h1 h
      · replace h := tl_ip h c5
        exact tl_iload_n dX9_doneIn_41 rfl (tl_iretE dX9_doneIn_42 rfl rfl h)

theorem l9_doneIn {E : tl_E} {a0 : Nat}  {u : tl_S} {r : Int32} {v : tl_S} (h0 : tl_T E.2.1 a0 = some 9) (h : f9_doneIn a0 u = some (r, v)) : tl_MB E mX9_doneIn [.ref a0] u (fun q w => q = some (.int r) ∧ w = v) := by
  unfold f9_doneIn at h
  refine tl_start [some (.ref a0), none] rfl rfl rfl (Nat.le_of_ble_eq_true rfl) ?_
  obtain ⟨u3, e2, h⟩ := tl_bi h
  refine tl_aload_n dX9_doneIn_0 rfl (tl_getr (f := 4) (o := 62) tl_ck9 dX9_doneIn_1 fl_X9_33 (Nat.le_of_ble_eq_true rfl) rfl h0 (tl_aload_n dX9_doneIn_4 rfl (tl_getr (f := 2) (o := 4) tl_ck9 dX9_doneIn_5 fl_X9_26 (Nat.le_of_ble_eq_true rfl) rfl h0 (tl_vV1 tl_ck5 rfl (tt_9_4 h0) (l5_copyFrom (tt_9_4 h0) (tt_9_2 h0) e2) dX9_doneIn_8 cs_X9_doneIn_8 ⟨rfl, rfl⟩ ⟨Nat.zero_le _, Nat.zero_le _⟩ (Nat.le_of_ble_eq_true rfl) (tl_aload_n dX9_doneIn_11 rfl (tl_getr (f := 4) (o := 62) tl_ck9 dX9_doneIn_12 fl_X9_33 (Nat.le_of_ble_eq_true rfl) rfl h0 (tl_iconst (v := 0) dX9_doneIn_15 ic_0 (tl_puti (f := 15) tl_ck5 dX9_doneIn_16 fl_X9_248 (Nat.le_of_ble_eq_true rfl) rfl rfl rfl (tt_9_4 h0) (fun u4 e => ?_)))))))))
  have h := tl_leteq e h
  clear e
  refine tl_iconst (v := 0) dX9_doneIn_19 ic_0 (tl_istore_n dX9_doneIn_20 (Nat.le_of_ble_eq_true rfl) (?_))
  exact l9_doneIn_p21 tl_F _ _ _  h0 h

theorem cs_X9_bestCell_5 : tl_cV mX9_bestCell mX5_hasLamp 186 1 := ⟨cd_X5_hasLamp, ml_X9_186, im_X5_hasLamp, se_X5_hasLamp, in_X5, ⟨by decide, by decide, by decide +kernel⟩, Nat.le_of_ble_eq_true rfl, Nat.le_of_ble_eq_true rfl⟩
theorem cs_X9_bestCell_31 : tl_cS mX9_bestCell mX9_isWithin 51 3 := ⟨cd_X9_isWithin, ml_X9_51, sm_X9_isWithin, in_X9, ⟨by decide, by decide, by decide +kernel⟩, Nat.le_of_ble_eq_true rfl, Nat.le_of_ble_eq_true rfl⟩
theorem cs_X9_bestCell_41 : tl_cV mX9_bestCell mX3_hasRoomForOrder 251 0 := ⟨cd_X3_hasRoomForOrder, ml_X9_251, im_X3_hasRoomForOrder, se_X3_hasRoomForOrder, in_X3, ⟨by decide, by decide, by decide +kernel⟩, Nat.le_of_ble_eq_true rfl, Nat.le_of_ble_eq_true rfl⟩
theorem cs_X9_bestCell_44 : tl_cS mX9_bestCell mX9_demand 59 3 := ⟨cd_X9_demand, ml_X9_59, sm_X9_demand, in_X9, ⟨by decide, by decide, by decide +kernel⟩, Nat.le_of_ble_eq_true rfl, Nat.le_of_ble_eq_true rfl⟩
theorem cs_X9_bestCell_81 : tl_cV mX9_bestCell mX5_copyFrom 75 1 := ⟨cd_X5_copyFrom, ml_X9_75, im_X5_copyFrom, se_X5_copyFrom, in_X5, ⟨by decide, by decide, by decide +kernel⟩, Nat.le_of_ble_eq_true rfl, Nat.le_of_ble_eq_true rfl⟩
theorem cs_X9_bestCell_95 : tl_cV mX9_bestCell mX3_addHang 254 3 := ⟨cd_X3_addHang, ml_X9_254, im_X3_addHang, se_X3_addHang, in_X3, ⟨by decide, by decide, by decide +kernel⟩, Nat.le_of_ble_eq_true rfl, Nat.le_of_ble_eq_true rfl⟩
theorem cs_X9_bestCell_104 : tl_cV mX9_bestCell mX5_letHoursGo 245 1 := ⟨cd_X5_letHoursGo, ml_X9_245, im_X5_letHoursGo, se_X5_letHoursGo, in_X5, ⟨by decide, by decide, by decide +kernel⟩, Nat.le_of_ble_eq_true rfl, Nat.le_of_ble_eq_true rfl⟩
theorem cs_X9_bestCell_16 : tl_cV mX9_bestCell mX5_hasGallery 138 1 := ⟨cd_X5_hasGallery, ml_X9_138, im_X5_hasGallery, se_X5_hasGallery, in_X5, ⟨by decide, by decide, by decide +kernel⟩, Nat.le_of_ble_eq_true rfl, Nat.le_of_ble_eq_true rfl⟩
def f9_bestCell_p56 : Nat → Nat → Int32 → Int32 → Int32 → Int32 → Int32 → Int32 → tl_S → Option (Nat × Int32 × tl_S)
  | 0, _, _, _, _, _, _, _, _ => none
  | fu + 1, a1, x2, x3, x4, x5, x6, x7, u =>
  tl_g (¬ (x3 < 0 ∨ 3 ≤ x3.toNatClampNeg)) ((if (u.1 (((a1 + 4) + 1) + (11 + x3.toNatClampNeg)) 0) ≤ x7 then some (0, x5, u) else tl_b (f5_copyFrom (a1 + 62) (a1 + 4) u) (fun u12 => tl_b2 (f3_addHang ((a1 + 62) + 4) x2 x3 x7 u12) (fun x15 u14 => tl_b2 (f5_letHoursGo (a1 + 62) x4 u14) (fun x18 u17 => (if x18 < x6 then tl_let (x7 + 1) (fun x20 => f9_bestCell_p56 fu a1 x2 x3 x4 x5 x6 x20 u17) else tl_let (x7 + 1) (fun x20 => f9_bestCell_p56 fu a1 x2 x3 x4 x7 x18 x20 u17)))))))

def f9_bestCell_p27 (a1 : Nat) (x2 : Int32) (x3 : Int32) (x4 : Int32) (x5 : Int32) (u : tl_S) : Option (Nat × Int32 × tl_S) :=
  tl_b2 (f9_isWithin x4 1 100 u) (fun x9 u8 => tl_b2 (f3_hasRoomForOrder ((a1 + 4) + 4) u8) (fun x12 u11 => tl_bx (f9_demand x5 x9 x12 u11) (fun x15 u14 => f9_bestCell_p56 tl_F a1 x2 x3 x4 ((-1)) 0 0 u14)))

def f9_bestCell_p26 (a1 : Nat) (x2 : Int32) (x3 : Int32) (x4 : Int32) (u : tl_S) : Option (Nat × Int32 × tl_S) :=
  f9_bestCell_p27 a1 x2 x3 x4 0 u

def f9_bestCell (a0 : Nat) (x1 : Int32) (x2 : Int32) (x3 : Int32) (u : tl_S) : Option (Nat × Int32 × tl_S) :=
  tl_b2 (f5_hasLamp (a0 + 4) x1 u) (fun x7 u6 => (if x7 = 0 then f9_bestCell_p26 a0 x1 x2 x3 u6 else tl_b2 (f5_hasGallery (a0 + 4) x2 u6) (fun x11 u10 => (if x11 = 0 then f9_bestCell_p26 a0 x1 x2 x3 u10 else f9_bestCell_p27 a0 x1 x2 x3 1 u10))))

theorem l9_bestCell_p56 {E : tl_E}  {t : Nat} {r : Int32} {v : tl_S} : ∀ (n : Nat) (a1 : Nat) (x2 : Int32) (x3 : Int32) (x4 : Int32) (x5 : Int32) (x6 : Int32) (x7 : Int32) (u : tl_S) (d7 : Option Value), tl_T E.2.1 a1 = some 9 → f9_bestCell_p56 n a1 x2 x3 x4 x5 x6 x7 u = some (t, r, v) → tl_R E mX9_bestCell tl_XT (tl_ZX E mX9_bestCell t (some (.int r)) v) 1 6 (tl_HB E u) 56 [some (.ref a1), some (.int x2), some (.int x3), some (.int x4), some (.int x5), some (.int x6), some (.int x7), d7] [] := by
  intro n
  induction n with
  | zero => intro a1 x2 x3 x4 x5 x6 x7 u d7 h1 h; exact absurd h (by simp [f9_bestCell_p56])
  | succ n ih =>
    intro a1 x2 x3 x4 x5 x6 x7 u d7 h1 h
    rw [f9_bestCell_p56] at h
    obtain ⟨g9, h⟩ := tl_gi h
    refine tl_iload dX9_bestCell_56 rfl (tl_aload_n dX9_bestCell_58 rfl (tl_getr (f := 2) (o := 4) tl_ck9 dX9_bestCell_59 fl_X9_26 (Nat.le_of_ble_eq_true rfl) rfl h1 (tl_getr (f := 0) (o := 1) tl_ck5 dX9_bestCell_62 fl_X9_142 (Nat.le_of_ble_eq_true rfl) rfl (tt_9_2 h1) (tl_iload_n dX9_bestCell_65 rfl (tl_ald18 dX9_bestCell_66 (tt_5_0 (tt_9_2 h1)) (x3.toNatClampNeg) g9 rfl (tl_geti (f := 0) tl_ck1 dX9_bestCell_67 fl_X9_146 (Nat.le_of_ble_eq_true rfl) rfl (ta_18 (tt_5_0 (tt_9_2 h1)) (tl_inlt g9)) (tl_icmp_ge (tgt := 130) dX9_bestCell_70 (by decide) (fun c10 => ?_) (fun c10 => ?_))))))))
    · replace h := tl_ip h c10
      exact tl_iload dX9_bestCell_130 rfl (tl_iretX dX9_bestCell_132 rfl rfl (Nat.le_of_ble_eq_true rfl) (Nat.le_of_ble_eq_true rfl) h)
    · replace h := tl_in h c10
      obtain ⟨u12, e11, h⟩ := tl_bi h
      obtain ⟨x15, u14, e13, h⟩ := tl_b2i h
      obtain ⟨x18, u17, e16, h⟩ := tl_b2i h
      refine tl_aload_n dX9_bestCell_73 rfl (tl_getr (f := 4) (o := 62) tl_ck9 dX9_bestCell_74 fl_X9_33 (Nat.le_of_ble_eq_true rfl) rfl h1 (tl_aload_n dX9_bestCell_77 rfl (tl_getr (f := 2) (o := 4) tl_ck9 dX9_bestCell_78 fl_X9_26 (Nat.le_of_ble_eq_true rfl) rfl h1 (tl_vV1 tl_ck5 rfl (tt_9_4 h1) (l5_copyFrom (tt_9_4 h1) (tt_9_2 h1) e11) dX9_bestCell_81 cs_X9_bestCell_81 ⟨rfl, rfl⟩ ⟨Nat.le_of_ble_eq_true rfl, Nat.le_of_ble_eq_true rfl⟩ (Nat.le_of_ble_eq_true rfl) (tl_aload_n dX9_bestCell_84 rfl (tl_getr (f := 4) (o := 62) tl_ck9 dX9_bestCell_85 fl_X9_33 (Nat.le_of_ble_eq_true rfl) rfl h1 (tl_getr (f := 3) (o := 4) tl_ck5 dX9_bestCell_88 fl_X9_111 (Nat.le_of_ble_eq_true rfl) rfl (tt_9_4 h1) (tl_iload_n dX9_bestCell_91 rfl (tl_iload_n dX9_bestCell_92 rfl (tl_iload dX9_bestCell_93 rfl (tl_iV3 tl_ck3 rfl (tt_5_3 (tt_9_4 h1)) (l3_addHang (tt_5_3 (tt_9_4 h1)) e13) dX9_bestCell_95 cs_X9_bestCell_95 ⟨rfl, rfl⟩ ⟨Nat.le_of_ble_eq_true rfl, Nat.le_of_ble_eq_true rfl⟩ (Nat.le_of_ble_eq_true rfl) (tl_pop dX9_bestCell_98 rfl (tl_aload_n dX9_bestCell_99 rfl (tl_getr (f := 4) (o := 62) tl_ck9 dX9_bestCell_100 fl_X9_33 (Nat.le_of_ble_eq_true rfl) rfl h1 (tl_iload_n dX9_bestCell_103 rfl (tl_iV1 tl_ck5 rfl (tt_9_4 h1) (l5_letHoursGo (tt_9_4 h1) e16) dX9_bestCell_104 cs_X9_bestCell_104 ⟨rfl, rfl⟩ ⟨Nat.le_of_ble_eq_true rfl, Nat.le_of_ble_eq_true rfl⟩ (Nat.le_of_ble_eq_true rfl) (tl_istore dX9_bestCell_107 (Nat.le_of_ble_eq_true rfl) (tl_iload dX9_bestCell_109 rfl (tl_iload dX9_bestCell_111 rfl (tl_icmp_lt (tgt := 124) dX9_bestCell_113 (by decide) (fun c19 => ?_) (fun c19 => ?_)))))))))))))))))))))
      · replace h := tl_ip h c19
        refine tl_iincK dX9_bestCell_124 rfl (ii_1 _) (Nat.le_of_ble_eq_true rfl) (fun x20 e => ?_)
        have h := tl_leteq e h
        clear e
        refine tl_goto (tgt := 56) dX9_bestCell_127 (by decide) (?_)
        exact ih _ _ _ _ _ _ _ _ _ h1 h
      · replace h := tl_in h c19
        refine tl_iload dX9_bestCell_116 rfl (tl_istore dX9_bestCell_118 (Nat.le_of_ble_eq_true rfl) (tl_iload dX9_bestCell_120 rfl (tl_istore dX9_bestCell_122 (Nat.le_of_ble_eq_true rfl) (tl_iincK dX9_bestCell_124 rfl (ii_1 _) (Nat.le_of_ble_eq_true rfl) (fun x20 e => ?_)))))
        have h := tl_leteq e h
        clear e
        refine tl_goto (tgt := 56) dX9_bestCell_127 (by decide) (?_)
        exact ih _ _ _ _ _ _ _ _ _ h1 h

theorem l9_bestCell_p27 {E : tl_E} {a1 : Nat} {x2 : Int32} {x3 : Int32} {x4 : Int32} {x5 : Int32}  {d4 : Option Value} {d5 : Option Value} {d6 : Option Value} {d7 : Option Value} {u : tl_S} {t : Nat} {r : Int32} {v : tl_S} (h1 : tl_T E.2.1 a1 = some 9) (h : f9_bestCell_p27 a1 x2 x3 x4 x5 u = some (t, r, v)) : tl_R E mX9_bestCell tl_XT (tl_ZX E mX9_bestCell t (some (.int r)) v) 0 0 (tl_HB E u) 27 [some (.ref a1), some (.int x2), some (.int x3), some (.int x4), d4, d5, d6, d7] [.int x5] := by
  unfold f9_bestCell_p27 at h
  obtain ⟨x9, u8, e7, h⟩ := tl_b2i h
  obtain ⟨x12, u11, e10, h⟩ := tl_b2i h
  refine tl_iload_n dX9_bestCell_27 rfl (tl_iconst (v := 1) dX9_bestCell_28 ic_1 (tl_bipush (v := 100) dX9_bestCell_29 bp_100 (tl_iS3 (l9_isWithin  e7) dX9_bestCell_31 cs_X9_bestCell_31 ⟨rfl, rfl⟩ ⟨Nat.le_of_ble_eq_true rfl, Nat.le_of_ble_eq_true rfl⟩ (Nat.le_of_ble_eq_true rfl) (tl_aload_n dX9_bestCell_34 rfl (tl_getr (f := 2) (o := 4) tl_ck9 dX9_bestCell_35 fl_X9_26 (Nat.le_of_ble_eq_true rfl) rfl h1 (tl_getr (f := 3) (o := 4) tl_ck5 dX9_bestCell_38 fl_X9_111 (Nat.le_of_ble_eq_true rfl) rfl (tt_9_2 h1) (tl_iV0 tl_ck3 rfl (tt_5_3 (tt_9_2 h1)) (l3_hasRoomForOrder (tt_5_3 (tt_9_2 h1)) e10) dX9_bestCell_41 cs_X9_bestCell_41 ⟨rfl, rfl⟩ ⟨Nat.le_of_ble_eq_true rfl, Nat.le_of_ble_eq_true rfl⟩ (Nat.le_of_ble_eq_true rfl) (?_))))))))
  rcases tl_bxi h with ⟨x15, u14, e13, h⟩ | ⟨t1, x15, e13, et⟩
  rotate_left
  · subst et; exact tl_xS3t (l9_demand  e13) dX9_bestCell_44 cs_X9_bestCell_44 ⟨Nat.le_of_ble_eq_true rfl, Nat.le_of_ble_eq_true rfl⟩ (Nat.le_of_ble_eq_true rfl)
  refine tl_xS3v (l9_demand  e13) dX9_bestCell_44 cs_X9_bestCell_44 ⟨Nat.le_of_ble_eq_true rfl, Nat.le_of_ble_eq_true rfl⟩ (Nat.le_of_ble_eq_true rfl) (tl_iconst (v := (-1)) dX9_bestCell_47 ic_m1 (tl_istore dX9_bestCell_48 (Nat.le_of_ble_eq_true rfl) (tl_iconst (v := 0) dX9_bestCell_50 ic_0 (tl_istore dX9_bestCell_51 (Nat.le_of_ble_eq_true rfl) (tl_iconst (v := 0) dX9_bestCell_53 ic_0 (tl_istore dX9_bestCell_54 (Nat.le_of_ble_eq_true rfl) (?_)))))))
  exact l9_bestCell_p56 tl_F _ _ _ _ _ _ _ _ _ h1 h

theorem l9_bestCell_p26 {E : tl_E} {a1 : Nat} {x2 : Int32} {x3 : Int32} {x4 : Int32}  {d4 : Option Value} {d5 : Option Value} {d6 : Option Value} {d7 : Option Value} {u : tl_S} {t : Nat} {r : Int32} {v : tl_S} (h1 : tl_T E.2.1 a1 = some 9) (h : f9_bestCell_p26 a1 x2 x3 x4 u = some (t, r, v)) : tl_R E mX9_bestCell tl_XT (tl_ZX E mX9_bestCell t (some (.int r)) v) 0 0 (tl_HB E u) 26 [some (.ref a1), some (.int x2), some (.int x3), some (.int x4), d4, d5, d6, d7] [] := by
  unfold f9_bestCell_p26 at h
  refine tl_iconst (v := 0) dX9_bestCell_26 ic_0 (?_)
  exact l9_bestCell_p27 h1 h

theorem l9_bestCell {E : tl_E} {a0 : Nat} {x1 : Int32} {x2 : Int32} {x3 : Int32}  {u : tl_S} {t : Nat} {r : Int32} {v : tl_S} (h0 : tl_T E.2.1 a0 = some 9) (h : f9_bestCell a0 x1 x2 x3 u = some (t, r, v)) : tl_MX E mX9_bestCell [.ref a0, .int x1, .int x2, .int x3] u t (some (.int r)) v := by
  unfold f9_bestCell at h
  refine tl_startX [some (.ref a0), some (.int x1), some (.int x2), some (.int x3), none, none, none, none] rfl rfl rfl (Nat.le_of_ble_eq_true rfl) ?_
  obtain ⟨x7, u6, e5, h⟩ := tl_b2i h
  refine tl_aload_n dX9_bestCell_0 rfl (tl_getr (f := 2) (o := 4) tl_ck9 dX9_bestCell_1 fl_X9_26 (Nat.le_of_ble_eq_true rfl) rfl h0 (tl_iload_n dX9_bestCell_4 rfl (tl_iV1 tl_ck5 rfl (tt_9_2 h0) (l5_hasLamp (tt_9_2 h0) e5) dX9_bestCell_5 cs_X9_bestCell_5 ⟨rfl, rfl⟩ ⟨Nat.le_of_ble_eq_true rfl, Nat.le_of_ble_eq_true rfl⟩ (Nat.le_of_ble_eq_true rfl) (tl_if_eq (tgt := 26) dX9_bestCell_8 (by decide) (fun c8 => ?_) (fun c8 => ?_)))))
  · replace h := tl_ip h c8
    exact l9_bestCell_p26 h0 h
  · replace h := tl_in h c8
    obtain ⟨x11, u10, e9, h⟩ := tl_b2i h
    refine tl_aload_n dX9_bestCell_11 rfl (tl_getr (f := 2) (o := 4) tl_ck9 dX9_bestCell_12 fl_X9_26 (Nat.le_of_ble_eq_true rfl) rfl h0 (tl_iload_n dX9_bestCell_15 rfl (tl_iV1 tl_ck5 rfl (tt_9_2 h0) (l5_hasGallery (tt_9_2 h0) e9) dX9_bestCell_16 cs_X9_bestCell_16 ⟨rfl, rfl⟩ ⟨Nat.le_of_ble_eq_true rfl, Nat.le_of_ble_eq_true rfl⟩ (Nat.le_of_ble_eq_true rfl) (tl_if_eq (tgt := 26) dX9_bestCell_19 (by decide) (fun c12 => ?_) (fun c12 => ?_)))))
    · replace h := tl_ip h c12
      exact l9_bestCell_p26 h0 h
    · replace h := tl_in h c12
      refine tl_iconst (v := 1) dX9_bestCell_22 ic_1 (tl_goto (tgt := 27) dX9_bestCell_23 (by decide) (?_))
      exact l9_bestCell_p27 h0 h

theorem cs_X9_steps_6 : tl_cV mX9_steps mX5_hasCell 258 2 := ⟨cd_X5_hasCell, ml_X9_258, im_X5_hasCell, se_X5_hasCell, in_X5, ⟨by decide, by decide, by decide +kernel⟩, Nat.le_of_ble_eq_true rfl, Nat.le_of_ble_eq_true rfl⟩
theorem cs_X9_steps_32 : tl_cS mX9_steps mX9_demand 59 3 := ⟨cd_X9_demand, ml_X9_59, sm_X9_demand, in_X9, ⟨by decide, by decide, by decide +kernel⟩, Nat.le_of_ble_eq_true rfl, Nat.le_of_ble_eq_true rfl⟩
theorem cs_X9_steps_19 : tl_cV mX9_steps mX5_hasCell 258 2 := ⟨cd_X5_hasCell, ml_X9_258, im_X5_hasCell, se_X5_hasCell, in_X5, ⟨by decide, by decide, by decide +kernel⟩, Nat.le_of_ble_eq_true rfl, Nat.le_of_ble_eq_true rfl⟩
def f9_steps_p30 (x1 : Int32) (x2 : Int32) (x3 : Int32) (x4 : Int32) (x5 : Int32) (u : tl_S) : Option (Nat × Int32 × tl_S) :=
  tl_bx (f9_demand x5 1 1 u) (fun x9 u8 => (if x1 = x3 then some (0, (if 0 ≤ (x2 - x4) then (x2 - x4) else 0 - (x2 - x4)), u8) else some (0, (x2 + x4), u8)))

def f9_steps_p29 (x1 : Int32) (x2 : Int32) (x3 : Int32) (x4 : Int32) (u : tl_S) : Option (Nat × Int32 × tl_S) :=
  f9_steps_p30 x1 x2 x3 x4 0 u

def f9_steps (a0 : Nat) (x1 : Int32) (x2 : Int32) (x3 : Int32) (x4 : Int32) (u : tl_S) : Option (Nat × Int32 × tl_S) :=
  tl_b2 (f5_hasCell (a0 + 4) x1 x2 u) (fun x8 u7 => (if x8 = 0 then f9_steps_p29 x1 x2 x3 x4 u7 else tl_b2 (f5_hasCell (a0 + 4) x3 x4 u7) (fun x12 u11 => (if x12 = 0 then f9_steps_p29 x1 x2 x3 x4 u11 else f9_steps_p30 x1 x2 x3 x4 1 u11))))

theorem l9_steps_p30 {E : tl_E} {x1 : Int32} {x2 : Int32} {x3 : Int32} {x4 : Int32} {x5 : Int32}  {d0 : Option Value} {u : tl_S} {t : Nat} {r : Int32} {v : tl_S}  (h : f9_steps_p30 x1 x2 x3 x4 x5 u = some (t, r, v)) : tl_R E mX9_steps tl_XT (tl_ZX E mX9_steps t (some (.int r)) v) 0 0 (tl_HB E u) 30 [d0, some (.int x1), some (.int x2), some (.int x3), some (.int x4)] [.int x5] := by
  unfold f9_steps_p30 at h
  refine tl_iconst (v := 1) dX9_steps_30 ic_1 (tl_iconst (v := 1) dX9_steps_31 ic_1 (?_))
  rcases tl_bxi h with ⟨x9, u8, e7, h⟩ | ⟨t1, x9, e7, et⟩
  rotate_left
  · subst et; exact tl_xS3t (l9_demand  e7) dX9_steps_32 cs_X9_steps_32 ⟨Nat.le_of_ble_eq_true rfl, Nat.le_of_ble_eq_true rfl⟩ (Nat.le_of_ble_eq_true rfl)
  refine tl_xS3v (l9_demand  e7) dX9_steps_32 cs_X9_steps_32 ⟨Nat.le_of_ble_eq_true rfl, Nat.le_of_ble_eq_true rfl⟩ (Nat.le_of_ble_eq_true rfl) (tl_iload_n dX9_steps_35 rfl (tl_iload_n dX9_steps_36 rfl (tl_icmp_ne (tgt := 50) dX9_steps_37 (by decide) (fun c10 => ?_) (fun c10 => ?_))))
  · replace h := tl_in h c10
    exact tl_iload_n dX9_steps_50 rfl (tl_iload dX9_steps_51 rfl (tl_iadd dX9_steps_53 (tl_iretX dX9_steps_54 rfl rfl (Nat.le_of_ble_eq_true rfl) (Nat.le_of_ble_eq_true rfl) h)))
  · replace h := tl_ip h c10
    exact tl_iload_n dX9_steps_40 rfl (tl_iload dX9_steps_41 rfl (tl_isub dX9_steps_43 (tl_mabs dX9_steps_44 ml_X9_261 ⟨Nat.le_of_ble_eq_true rfl, Nat.le_of_ble_eq_true rfl⟩ (Nat.le_of_ble_eq_true rfl) (Nat.le_of_ble_eq_true rfl) (Nat.le_of_ble_eq_true rfl) (tl_goto (tgt := 54) dX9_steps_47 (by decide) (tl_iretX dX9_steps_54 rfl rfl (Nat.le_of_ble_eq_true rfl) (Nat.le_of_ble_eq_true rfl) h)))))

theorem l9_steps_p29 {E : tl_E} {x1 : Int32} {x2 : Int32} {x3 : Int32} {x4 : Int32}  {d0 : Option Value} {u : tl_S} {t : Nat} {r : Int32} {v : tl_S}  (h : f9_steps_p29 x1 x2 x3 x4 u = some (t, r, v)) : tl_R E mX9_steps tl_XT (tl_ZX E mX9_steps t (some (.int r)) v) 0 0 (tl_HB E u) 29 [d0, some (.int x1), some (.int x2), some (.int x3), some (.int x4)] [] := by
  unfold f9_steps_p29 at h
  refine tl_iconst (v := 0) dX9_steps_29 ic_0 (?_)
  exact l9_steps_p30  h

theorem l9_steps {E : tl_E} {a0 : Nat} {x1 : Int32} {x2 : Int32} {x3 : Int32} {x4 : Int32}  {u : tl_S} {t : Nat} {r : Int32} {v : tl_S} (h0 : tl_T E.2.1 a0 = some 9) (h : f9_steps a0 x1 x2 x3 x4 u = some (t, r, v)) : tl_MX E mX9_steps [.ref a0, .int x1, .int x2, .int x3, .int x4] u t (some (.int r)) v := by
  unfold f9_steps at h
  refine tl_startX [some (.ref a0), some (.int x1), some (.int x2), some (.int x3), some (.int x4)] rfl rfl rfl (Nat.le_of_ble_eq_true rfl) ?_
  obtain ⟨x8, u7, e6, h⟩ := tl_b2i h
  refine tl_aload_n dX9_steps_0 rfl (tl_getr (f := 2) (o := 4) tl_ck9 dX9_steps_1 fl_X9_26 (Nat.le_of_ble_eq_true rfl) rfl h0 (tl_iload_n dX9_steps_4 rfl (tl_iload_n dX9_steps_5 rfl (tl_iV2 tl_ck5 rfl (tt_9_2 h0) (l5_hasCell (tt_9_2 h0) e6) dX9_steps_6 cs_X9_steps_6 ⟨rfl, rfl⟩ ⟨Nat.le_of_ble_eq_true rfl, Nat.le_of_ble_eq_true rfl⟩ (Nat.le_of_ble_eq_true rfl) (tl_if_eq (tgt := 29) dX9_steps_9 (by decide) (fun c9 => ?_) (fun c9 => ?_))))))
  · replace h := tl_ip h c9
    exact l9_steps_p29  h
  · replace h := tl_in h c9
    obtain ⟨x12, u11, e10, h⟩ := tl_b2i h
    refine tl_aload_n dX9_steps_12 rfl (tl_getr (f := 2) (o := 4) tl_ck9 dX9_steps_13 fl_X9_26 (Nat.le_of_ble_eq_true rfl) rfl h0 (tl_iload_n dX9_steps_16 rfl (tl_iload dX9_steps_17 rfl (tl_iV2 tl_ck5 rfl (tt_9_2 h0) (l5_hasCell (tt_9_2 h0) e10) dX9_steps_19 cs_X9_steps_19 ⟨rfl, rfl⟩ ⟨Nat.le_of_ble_eq_true rfl, Nat.le_of_ble_eq_true rfl⟩ (Nat.le_of_ble_eq_true rfl) (tl_if_eq (tgt := 29) dX9_steps_22 (by decide) (fun c13 => ?_) (fun c13 => ?_))))))
    · replace h := tl_ip h c13
      exact l9_steps_p29  h
    · replace h := tl_in h c13
      refine tl_iconst (v := 1) dX9_steps_25 ic_1 (tl_goto (tgt := 30) dX9_steps_26 (by decide) (?_))
      exact l9_steps_p30  h

theorem cs_X9_runScript_4 : tl_cS mX9_runScript mX9_isWithin 51 3 := ⟨cd_X9_isWithin, ml_X9_51, sm_X9_isWithin, in_X9, ⟨by decide, by decide, by decide +kernel⟩, Nat.le_of_ble_eq_true rfl, Nat.le_of_ble_eq_true rfl⟩
theorem cs_X9_runScript_31 : tl_cS mX9_runScript mX9_demand 59 3 := ⟨cd_X9_demand, ml_X9_59, sm_X9_demand, in_X9, ⟨by decide, by decide, by decide +kernel⟩, Nat.le_of_ble_eq_true rfl, Nat.le_of_ble_eq_true rfl⟩
theorem cs_X9_runScript_42 : tl_cV mX9_runScript mX5_copyFrom 75 1 := ⟨cd_X5_copyFrom, ml_X9_75, im_X5_copyFrom, se_X5_copyFrom, in_X5, ⟨by decide, by decide, by decide +kernel⟩, Nat.le_of_ble_eq_true rfl, Nat.le_of_ble_eq_true rfl⟩
theorem cs_X9_runScript_61 : tl_cS mX9_runScript mX9_numbersOf 266 1 := ⟨cd_X9_numbersOf, ml_X9_266, sm_X9_numbersOf, in_X9, ⟨by decide, by decide, by decide +kernel⟩, Nat.le_of_ble_eq_true rfl, Nat.le_of_ble_eq_true rfl⟩
theorem cs_X9_runScript_78 : tl_cV mX9_runScript mX0_readGroup 272 1 := ⟨cd_X0_readGroup, ml_X9_272, im_X0_readGroup, se_X0_readGroup, in_X0, ⟨by decide, by decide, by decide +kernel⟩, Nat.le_of_ble_eq_true rfl, Nat.le_of_ble_eq_true rfl⟩
theorem cs_X9_runScript_91 : tl_cV mX9_runScript mX0_isTest 275 0 := ⟨cd_X0_isTest, ml_X9_275, im_X0_isTest, se_X0_isTest, in_X0, ⟨by decide, by decide, by decide +kernel⟩, Nat.le_of_ble_eq_true rfl, Nat.le_of_ble_eq_true rfl⟩
theorem cs_X9_runScript_122 : tl_cV mX9_runScript mX5_attempt 89 1 := ⟨cd_X5_attempt, ml_X9_89, im_X5_attempt, se_X5_attempt, in_X5, ⟨by decide, by decide, by decide +kernel⟩, Nat.le_of_ble_eq_true rfl, Nat.le_of_ble_eq_true rfl⟩
theorem cs_X9_runScript_105 : tl_cV mX9_runScript mX5_passes 278 1 := ⟨cd_X5_passes, ml_X9_278, im_X5_passes, se_X5_passes, in_X5, ⟨by decide, by decide, by decide +kernel⟩, Nat.le_of_ble_eq_true rfl, Nat.le_of_ble_eq_true rfl⟩
theorem cs_X9_runScript_18 : tl_cS mX9_runScript mX9_numbersOf 266 1 := ⟨cd_X9_numbersOf, ml_X9_266, sm_X9_numbersOf, in_X9, ⟨by decide, by decide, by decide +kernel⟩, Nat.le_of_ble_eq_true rfl, Nat.le_of_ble_eq_true rfl⟩
def f9_runScript_p48 : Nat → Nat → Int32 → Int64 → Int32 → tl_S → Option (Nat × Int32 × tl_S)
  | 0, _, _, _, _, _ => none
  | fu + 1, a1, x2, x3, x4, u =>
  (if x2 ≤ x4 then some (0, (-1), u) else tl_b2 (f9_numbersOf ((x2 - 1) - x4) u) (fun x9 u8 => tl_g (¬ x9 = 0) (tl_let ((((x3 / x9) - (x3 / x9) / 1000000 * 1000000) : Int64).toInt32) (fun x11 => tl_b2 (f0_readGroup (a1 + 3) x11 u8) (fun x14 u13 => (if x14 = 0 then some (0, x4, u13) else tl_b2 (f0_isTest (a1 + 3) u13) (fun x18 u17 => (if x18 = 0 then tl_b2 (f5_attempt (a1 + 62) (a1 + 3) u17) (fun x22 u21 => (if x22 = 0 then some (0, x4, u21) else tl_let (x4 + 1) (fun x24 => f9_runScript_p48 fu a1 x2 x3 x24 u21))) else tl_b2 (f5_passes (a1 + 62) (a1 + 3) u17) (fun x22 u21 => (if x22 = 0 then some (0, x4, u21) else tl_let (x4 + 1) (fun x24 => f9_runScript_p48 fu a1 x2 x3 x24 u21)))))))))))

def f9_runScript_p29 (a1 : Nat) (x2 : Int32) (x3 : Int64) (x4 : Int32) (u : tl_S) : Option (Nat × Int32 × tl_S) :=
  tl_bx (f9_demand x4 0 1 u) (fun x8 u7 => tl_b (f5_copyFrom (a1 + 62) (a1 + 4) u7) (fun u10 => f9_runScript_p48 tl_F a1 x2 x3 0 u10))

def f9_runScript (a0 : Nat) (x1 : Int32) (x2 : Int64) (u : tl_S) : Option (Nat × Int32 × tl_S) :=
  tl_b2 (f9_isWithin x1 1 3 u) (fun x6 u5 => (if x6 = 0 then f9_runScript_p29 a0 x1 x2 1 u5 else (if (lg_cmp x2 0) < 0 then f9_runScript_p29 a0 x1 x2 1 u5 else tl_b2 (f9_numbersOf x1 u5) (fun x11 u10 => (if 0 ≤ (lg_cmp x2 x11) then f9_runScript_p29 a0 x1 x2 1 u10 else tl_bx (f9_demand 1 1 1 u10) (fun x15 u14 => tl_b (f5_copyFrom (a0 + 62) (a0 + 4) u14) (fun u17 => f9_runScript_p48 tl_F a0 x1 x2 0 u17)))))))

theorem l9_runScript_p48 {E : tl_E}  {t : Nat} {r : Int32} {v : tl_S} : ∀ (n : Nat) (a1 : Nat) (x2 : Int32) (x3 : Int64) (x4 : Int32) (u : tl_S) (d3 : Option Value) (d5 : Option Value), tl_T E.2.1 a1 = some 9 → f9_runScript_p48 n a1 x2 x3 x4 u = some (t, r, v) → tl_R E mX9_runScript tl_XT (tl_ZX E mX9_runScript t (some (.int r)) v) 1 6 (tl_HB E u) 48 [some (.ref a1), some (.int x2), some (.long x3), d3, some (.int x4), d5] [] := by
  intro n
  induction n with
  | zero => intro a1 x2 x3 x4 u d3 d5 h1 h; exact absurd h (by simp [f9_runScript_p48])
  | succ n ih =>
    intro a1 x2 x3 x4 u d3 d5 h1 h
    rw [f9_runScript_p48] at h
    refine tl_iload dX9_runScript_48 rfl (tl_iload_n dX9_runScript_50 rfl (tl_icmp_ge (tgt := 137) dX9_runScript_51 (by decide) (fun c6 => ?_) (fun c6 => ?_)))
    · replace h := tl_ip h c6
      exact tl_iconst (v := (-1)) dX9_runScript_137 ic_m1 (tl_iretX dX9_runScript_138 rfl rfl (Nat.le_of_ble_eq_true rfl) (Nat.le_of_ble_eq_true rfl) h)
    · replace h := tl_in h c6
      obtain ⟨x9, u8, e7, h⟩ := tl_b2i h
      obtain ⟨g10, h⟩ := tl_gi h
      refine tl_lload_n dX9_runScript_54 rfl (tl_iload_n dX9_runScript_55 rfl (tl_iconst (v := 1) dX9_runScript_56 ic_1 (tl_isub dX9_runScript_57 (tl_iload dX9_runScript_58 rfl (tl_isub dX9_runScript_60 (tl_lS1 (l9_numbersOf  e7) dX9_runScript_61 cs_X9_runScript_61 ⟨rfl, rfl⟩ ⟨Nat.le_of_ble_eq_true rfl, Nat.le_of_ble_eq_true rfl⟩ (Nat.le_of_ble_eq_true rfl) (tl_ldiv dX9_runScript_64 g10 (tl_ldc2 dX9_runScript_65 kl_X9_270 (tl_lrem dX9_runScript_68 (by decide) (tl_l2i dX9_runScript_69 (tl_isto dX9_runScript_70 (Nat.le_of_ble_eq_true rfl) (fun x11 e => ?_))))))))))))
      have h := tl_leteq e h
      clear e
      obtain ⟨x14, u13, e12, h⟩ := tl_b2i h
      refine tl_aload_n dX9_runScript_72 rfl (tl_getr (f := 1) (o := 3) tl_ck9 dX9_runScript_73 fl_X9_19 (Nat.le_of_ble_eq_true rfl) rfl h1 (tl_iload dX9_runScript_76 rfl (tl_iV1 tl_ck0 rfl (tt_9_1 h1) (l0_readGroup (tt_9_1 h1) e12) dX9_runScript_78 cs_X9_runScript_78 ⟨rfl, rfl⟩ ⟨Nat.le_of_ble_eq_true rfl, Nat.le_of_ble_eq_true rfl⟩ (Nat.le_of_ble_eq_true rfl) (tl_if_ne (tgt := 87) dX9_runScript_81 (by decide) (fun c15 => ?_) (fun c15 => ?_)))))
      · replace h := tl_in h c15
        obtain ⟨x18, u17, e16, h⟩ := tl_b2i h
        refine tl_aload_n dX9_runScript_87 rfl (tl_getr (f := 1) (o := 3) tl_ck9 dX9_runScript_88 fl_X9_19 (Nat.le_of_ble_eq_true rfl) rfl h1 (tl_iV0 tl_ck0 rfl (tt_9_1 h1) (l0_isTest (tt_9_1 h1) e16) dX9_runScript_91 cs_X9_runScript_91 ⟨rfl, rfl⟩ ⟨Nat.le_of_ble_eq_true rfl, Nat.le_of_ble_eq_true rfl⟩ (Nat.le_of_ble_eq_true rfl) (tl_if_eq (tgt := 114) dX9_runScript_94 (by decide) (fun c19 => ?_) (fun c19 => ?_))))
        · replace h := tl_ip h c19
          obtain ⟨x22, u21, e20, h⟩ := tl_b2i h
          refine tl_aload_n dX9_runScript_114 rfl (tl_getr (f := 4) (o := 62) tl_ck9 dX9_runScript_115 fl_X9_33 (Nat.le_of_ble_eq_true rfl) rfl h1 (tl_aload_n dX9_runScript_118 rfl (tl_getr (f := 1) (o := 3) tl_ck9 dX9_runScript_119 fl_X9_19 (Nat.le_of_ble_eq_true rfl) rfl h1 (tl_iV1 tl_ck5 rfl (tt_9_4 h1) (l5_attempt (tt_9_4 h1) (tt_9_1 h1) e20) dX9_runScript_122 cs_X9_runScript_122 ⟨rfl, rfl⟩ ⟨Nat.le_of_ble_eq_true rfl, Nat.le_of_ble_eq_true rfl⟩ (Nat.le_of_ble_eq_true rfl) (tl_if_ne (tgt := 131) dX9_runScript_125 (by decide) (fun c23 => ?_) (fun c23 => ?_))))))
          · replace h := tl_in h c23
            refine tl_iincK dX9_runScript_131 rfl (ii_1 _) (Nat.le_of_ble_eq_true rfl) (fun x24 e => ?_)
            have h := tl_leteq e h
            clear e
            refine tl_goto (tgt := 48) dX9_runScript_134 (by decide) (?_)
            exact ih _ _ _ _ _ _ _ h1 h
          · replace h := tl_ip h c23
            exact tl_iload dX9_runScript_128 rfl (tl_iretX dX9_runScript_130 rfl rfl (Nat.le_of_ble_eq_true rfl) (Nat.le_of_ble_eq_true rfl) h)
        · replace h := tl_in h c19
          obtain ⟨x22, u21, e20, h⟩ := tl_b2i h
          refine tl_aload_n dX9_runScript_97 rfl (tl_getr (f := 4) (o := 62) tl_ck9 dX9_runScript_98 fl_X9_33 (Nat.le_of_ble_eq_true rfl) rfl h1 (tl_aload_n dX9_runScript_101 rfl (tl_getr (f := 1) (o := 3) tl_ck9 dX9_runScript_102 fl_X9_19 (Nat.le_of_ble_eq_true rfl) rfl h1 (tl_iV1 tl_ck5 rfl (tt_9_4 h1) (l5_passes (tt_9_4 h1) (tt_9_1 h1) e20) dX9_runScript_105 cs_X9_runScript_105 ⟨rfl, rfl⟩ ⟨Nat.le_of_ble_eq_true rfl, Nat.le_of_ble_eq_true rfl⟩ (Nat.le_of_ble_eq_true rfl) (tl_if_eq (tgt := 128) dX9_runScript_108 (by decide) (fun c23 => ?_) (fun c23 => ?_))))))
          · replace h := tl_ip h c23
            exact tl_iload dX9_runScript_128 rfl (tl_iretX dX9_runScript_130 rfl rfl (Nat.le_of_ble_eq_true rfl) (Nat.le_of_ble_eq_true rfl) h)
          · replace h := tl_in h c23
            refine tl_goto (tgt := 131) dX9_runScript_111 (by decide) (tl_iincK dX9_runScript_131 rfl (ii_1 _) (Nat.le_of_ble_eq_true rfl) (fun x24 e => ?_))
            have h := tl_leteq e h
            clear e
            refine tl_goto (tgt := 48) dX9_runScript_134 (by decide) (?_)
            exact ih _ _ _ _ _ _ _ h1 h
      · replace h := tl_ip h c15
        exact tl_iload dX9_runScript_84 rfl (tl_iretX dX9_runScript_86 rfl rfl (Nat.le_of_ble_eq_true rfl) (Nat.le_of_ble_eq_true rfl) h)

theorem l9_runScript_p29 {E : tl_E} {a1 : Nat} {x2 : Int32} {x3 : Int64} {x4 : Int32}  {d3 : Option Value} {d4 : Option Value} {d5 : Option Value} {u : tl_S} {t : Nat} {r : Int32} {v : tl_S} (h1 : tl_T E.2.1 a1 = some 9) (h : f9_runScript_p29 a1 x2 x3 x4 u = some (t, r, v)) : tl_R E mX9_runScript tl_XT (tl_ZX E mX9_runScript t (some (.int r)) v) 0 0 (tl_HB E u) 29 [some (.ref a1), some (.int x2), some (.long x3), d3, d4, d5] [.int x4] := by
  unfold f9_runScript_p29 at h
  refine tl_iconst (v := 0) dX9_runScript_29 ic_0 (tl_iconst (v := 1) dX9_runScript_30 ic_1 (?_))
  rcases tl_bxi h with ⟨x8, u7, e6, h⟩ | ⟨t1, x8, e6, et⟩
  rotate_left
  · subst et; exact tl_xS3t (l9_demand  e6) dX9_runScript_31 cs_X9_runScript_31 ⟨Nat.le_of_ble_eq_true rfl, Nat.le_of_ble_eq_true rfl⟩ (Nat.le_of_ble_eq_true rfl)
  obtain ⟨u10, e9, h⟩ := tl_bi h
  refine tl_xS3v (l9_demand  e6) dX9_runScript_31 cs_X9_runScript_31 ⟨Nat.le_of_ble_eq_true rfl, Nat.le_of_ble_eq_true rfl⟩ (Nat.le_of_ble_eq_true rfl) (tl_aload_n dX9_runScript_34 rfl (tl_getr (f := 4) (o := 62) tl_ck9 dX9_runScript_35 fl_X9_33 (Nat.le_of_ble_eq_true rfl) rfl h1 (tl_aload_n dX9_runScript_38 rfl (tl_getr (f := 2) (o := 4) tl_ck9 dX9_runScript_39 fl_X9_26 (Nat.le_of_ble_eq_true rfl) rfl h1 (tl_vV1 tl_ck5 rfl (tt_9_4 h1) (l5_copyFrom (tt_9_4 h1) (tt_9_2 h1) e9) dX9_runScript_42 cs_X9_runScript_42 ⟨rfl, rfl⟩ ⟨Nat.le_of_ble_eq_true rfl, Nat.le_of_ble_eq_true rfl⟩ (Nat.le_of_ble_eq_true rfl) (tl_iconst (v := 0) dX9_runScript_45 ic_0 (tl_istore dX9_runScript_46 (Nat.le_of_ble_eq_true rfl) (?_))))))))
  exact l9_runScript_p48 tl_F _ _ _ _ _ _ _ h1 h

theorem l9_runScript {E : tl_E} {a0 : Nat} {x1 : Int32} {x2 : Int64}  {u : tl_S} {t : Nat} {r : Int32} {v : tl_S} (h0 : tl_T E.2.1 a0 = some 9) (h : f9_runScript a0 x1 x2 u = some (t, r, v)) : tl_MX E mX9_runScript [.ref a0, .int x1, .long x2] u t (some (.int r)) v := by
  unfold f9_runScript at h
  refine tl_startX [some (.ref a0), some (.int x1), some (.long x2), none, none, none] rfl rfl rfl (Nat.le_of_ble_eq_true rfl) ?_
  obtain ⟨x6, u5, e4, h⟩ := tl_b2i h
  refine tl_iconst (v := 1) dX9_runScript_0 ic_1 (tl_iload_n dX9_runScript_1 rfl (tl_iconst (v := 1) dX9_runScript_2 ic_1 (tl_iconst (v := 3) dX9_runScript_3 ic_3 (tl_iS3 (l9_isWithin  e4) dX9_runScript_4 cs_X9_runScript_4 ⟨rfl, rfl⟩ ⟨Nat.le_of_ble_eq_true rfl, Nat.le_of_ble_eq_true rfl⟩ (Nat.le_of_ble_eq_true rfl) (tl_if_eq (tgt := 29) dX9_runScript_7 (by decide) (fun c7 => ?_) (fun c7 => ?_))))))
  · replace h := tl_ip h c7
    exact l9_runScript_p29 h0 h
  · replace h := tl_in h c7
    refine tl_lload_n dX9_runScript_10 rfl (tl_lconst (v := 0) dX9_runScript_11 lc_0 (tl_lcmp dX9_runScript_12 (tl_if_lt (tgt := 29) dX9_runScript_13 (by decide) (fun c8 => ?_) (fun c8 => ?_))))
    · replace h := tl_ip h c8
      exact l9_runScript_p29 h0 h
    · replace h := tl_in h c8
      obtain ⟨x11, u10, e9, h⟩ := tl_b2i h
      refine tl_lload_n dX9_runScript_16 rfl (tl_iload_n dX9_runScript_17 rfl (tl_lS1 (l9_numbersOf  e9) dX9_runScript_18 cs_X9_runScript_18 ⟨rfl, rfl⟩ ⟨Nat.le_of_ble_eq_true rfl, Nat.le_of_ble_eq_true rfl⟩ (Nat.le_of_ble_eq_true rfl) (tl_lcmp dX9_runScript_21 (tl_if_ge (tgt := 29) dX9_runScript_22 (by decide) (fun c12 => ?_) (fun c12 => ?_)))))
      · replace h := tl_ip h c12
        exact l9_runScript_p29 h0 h
      · replace h := tl_in h c12
        refine tl_iconst (v := 1) dX9_runScript_25 ic_1 (tl_goto (tgt := 30) dX9_runScript_26 (by decide) (tl_iconst (v := 1) dX9_runScript_30 ic_1 (?_)))
        rcases tl_bxi h with ⟨x15, u14, e13, h⟩ | ⟨t1, x15, e13, et⟩
        rotate_left
        · subst et; exact tl_xS3t (l9_demand  e13) dX9_runScript_31 cs_X9_runScript_31 ⟨Nat.le_of_ble_eq_true rfl, Nat.le_of_ble_eq_true rfl⟩ (Nat.le_of_ble_eq_true rfl)
        obtain ⟨u17, e16, h⟩ := tl_bi h
        refine tl_xS3v (l9_demand  e13) dX9_runScript_31 cs_X9_runScript_31 ⟨Nat.le_of_ble_eq_true rfl, Nat.le_of_ble_eq_true rfl⟩ (Nat.le_of_ble_eq_true rfl) (tl_aload_n dX9_runScript_34 rfl (tl_getr (f := 4) (o := 62) tl_ck9 dX9_runScript_35 fl_X9_33 (Nat.le_of_ble_eq_true rfl) rfl h0 (tl_aload_n dX9_runScript_38 rfl (tl_getr (f := 2) (o := 4) tl_ck9 dX9_runScript_39 fl_X9_26 (Nat.le_of_ble_eq_true rfl) rfl h0 (tl_vV1 tl_ck5 rfl (tt_9_4 h0) (l5_copyFrom (tt_9_4 h0) (tt_9_2 h0) e16) dX9_runScript_42 cs_X9_runScript_42 ⟨rfl, rfl⟩ ⟨Nat.le_of_ble_eq_true rfl, Nat.le_of_ble_eq_true rfl⟩ (Nat.le_of_ble_eq_true rfl) (tl_iconst (v := 0) dX9_runScript_45 ic_0 (tl_istore dX9_runScript_46 (Nat.le_of_ble_eq_true rfl) (?_))))))))
        exact l9_runScript_p48 tl_F _ _ _ _ _ _ _ h0 h

theorem cs_X9_simulate_5 : tl_cS mX9_simulate mX9_isWithin 51 3 := ⟨cd_X9_isWithin, ml_X9_51, sm_X9_isWithin, in_X9, ⟨by decide, by decide, by decide +kernel⟩, Nat.le_of_ble_eq_true rfl, Nat.le_of_ble_eq_true rfl⟩
theorem cs_X9_simulate_9 : tl_cS mX9_simulate mX9_demand 59 3 := ⟨cd_X9_demand, ml_X9_59, sm_X9_demand, in_X9, ⟨by decide, by decide, by decide +kernel⟩, Nat.le_of_ble_eq_true rfl, Nat.le_of_ble_eq_true rfl⟩
theorem cs_X9_simulate_20 : tl_cV mX9_simulate mX5_copyFrom 75 1 := ⟨cd_X5_copyFrom, ml_X9_75, im_X5_copyFrom, se_X5_copyFrom, in_X5, ⟨by decide, by decide, by decide +kernel⟩, Nat.le_of_ble_eq_true rfl, Nat.le_of_ble_eq_true rfl⟩
theorem cs_X9_simulate_57 : tl_cV mX9_simulate mX0_readTurn 285 1 := ⟨cd_X0_readTurn, ml_X9_285, im_X0_readTurn, se_X0_readTurn, in_X0, ⟨by decide, by decide, by decide +kernel⟩, Nat.le_of_ble_eq_true rfl, Nat.le_of_ble_eq_true rfl⟩
theorem cs_X9_simulate_68 : tl_cV mX9_simulate mX5_attempt 89 1 := ⟨cd_X5_attempt, ml_X9_89, im_X5_attempt, se_X5_attempt, in_X5, ⟨by decide, by decide, by decide +kernel⟩, Nat.le_of_ble_eq_true rfl, Nat.le_of_ble_eq_true rfl⟩
def f9_simulate_p29 : Nat → Nat → Int32 → Int64 → Int32 → tl_S → Option (Nat × Int32 × tl_S)
  | 0, _, _, _, _, _ => none
  | fu + 1, a1, x2, x3, x4, u =>
  (if x2 ≤ x4 then tl_let (((u.1 (a1 + 62) 12) - (u.1 (a1 + 4) 12))) (fun x7 => some (0, ((1000 * ((u.1 (a1 + 62) 13) - (u.1 (a1 + 4) 13))) + (if 999 < x7 then 999 else x7)), u)) else tl_let (((x3 * 6364136223846793005) + 1442695040888963407)) (fun x7 => tl_b (f0_readTurn (a1 + 3) (((x7.toUInt64 >>> ((33 : Int32).toInt64.toUInt64 &&& Int64.toUInt64 63)).toInt64 : Int64).toInt32) u) (fun u9 => tl_b2 (f5_attempt (a1 + 62) (a1 + 3) u9) (fun x12 u11 => tl_let (x4 + 1) (fun x13 => f9_simulate_p29 fu a1 x2 x7 x13 u11)))))

def f9_simulate (a0 : Nat) (x1 : Int64) (x2 : Int32) (u : tl_S) : Option (Nat × Int32 × tl_S) :=
  tl_b2 (f9_isWithin x2 1 60 u) (fun x6 u5 => tl_bx (f9_demand 1 x6 1 u5) (fun x9 u8 => tl_b (f5_copyFrom (a0 + 62) (a0 + 4) u8) (fun u11 => f9_simulate_p29 tl_F a0 x2 x1 0 u11)))

theorem l9_simulate_p29 {E : tl_E}  {t : Nat} {r : Int32} {v : tl_S} : ∀ (n : Nat) (a1 : Nat) (x2 : Int32) (x3 : Int64) (x4 : Int32) (u : tl_S) (d1 : Option Value) (d2 : Option Value) (d5 : Option Value), tl_T E.2.1 a1 = some 9 → f9_simulate_p29 n a1 x2 x3 x4 u = some (t, r, v) → tl_R E mX9_simulate tl_XT (tl_ZX E mX9_simulate t (some (.int r)) v) 1 6 (tl_HB E u) 29 [some (.ref a1), d1, d2, some (.int x2), some (.long x3), d5, some (.int x4)] [] := by
  intro n
  induction n with
  | zero => intro a1 x2 x3 x4 u d1 d2 d5 h1 h; exact absurd h (by simp [f9_simulate_p29])
  | succ n ih =>
    intro a1 x2 x3 x4 u d1 d2 d5 h1 h
    rw [f9_simulate_p29] at h
    refine tl_iload dX9_simulate_29 rfl (tl_iload_n dX9_simulate_31 rfl (tl_icmp_ge (tgt := 78) dX9_simulate_32 (by decide) (fun c6 => ?_) (fun c6 => ?_)))
    · replace h := tl_ip h c6
      refine tl_aload_n dX9_simulate_78 rfl (tl_getr (f := 4) (o := 62) tl_ck9 dX9_simulate_79 fl_X9_33 (Nat.le_of_ble_eq_true rfl) rfl h1 (tl_geti (f := 12) tl_ck5 dX9_simulate_82 fl_X9_132 (Nat.le_of_ble_eq_true rfl) rfl (tt_9_4 h1) (tl_aload_n dX9_simulate_85 rfl (tl_getr (f := 2) (o := 4) tl_ck9 dX9_simulate_86 fl_X9_26 (Nat.le_of_ble_eq_true rfl) rfl h1 (tl_geti (f := 12) tl_ck5 dX9_simulate_89 fl_X9_132 (Nat.le_of_ble_eq_true rfl) rfl (tt_9_2 h1) (tl_isub dX9_simulate_92 (tl_isto dX9_simulate_93 (Nat.le_of_ble_eq_true rfl) (fun x7 e => ?_))))))))
      have h := tl_leteq e h
      clear e
      exact tl_sipush (v := 1000) dX9_simulate_95 sp_1000 (tl_aload_n dX9_simulate_98 rfl (tl_getr (f := 4) (o := 62) tl_ck9 dX9_simulate_99 fl_X9_33 (Nat.le_of_ble_eq_true rfl) rfl h1 (tl_geti (f := 13) tl_ck5 dX9_simulate_102 fl_X9_135 (Nat.le_of_ble_eq_true rfl) rfl (tt_9_4 h1) (tl_aload_n dX9_simulate_105 rfl (tl_getr (f := 2) (o := 4) tl_ck9 dX9_simulate_106 fl_X9_26 (Nat.le_of_ble_eq_true rfl) rfl h1 (tl_geti (f := 13) tl_ck5 dX9_simulate_109 fl_X9_135 (Nat.le_of_ble_eq_true rfl) rfl (tt_9_2 h1) (tl_isub dX9_simulate_112 (tl_imul dX9_simulate_113 (tl_iload dX9_simulate_114 rfl (tl_sipush (v := 999) dX9_simulate_116 sp_999 (tl_mmin dX9_simulate_119 ml_X9_289 ⟨Nat.le_of_ble_eq_true rfl, Nat.le_of_ble_eq_true rfl⟩ (Nat.le_of_ble_eq_true rfl) (Nat.le_of_ble_eq_true rfl) (Nat.le_of_ble_eq_true rfl) (tl_iadd dX9_simulate_122 (tl_iretX dX9_simulate_123 rfl rfl (Nat.le_of_ble_eq_true rfl) (Nat.le_of_ble_eq_true rfl) h)))))))))))))
    · replace h := tl_in h c6
      refine tl_lload dX9_simulate_35 rfl (tl_ldc2 dX9_simulate_37 kl_X9_281 (tl_lmul dX9_simulate_40 (tl_ldc2 dX9_simulate_41 kl_X9_283 (tl_ladd dX9_simulate_44 (tl_lsto dX9_simulate_45 (Nat.le_of_ble_eq_true rfl) (fun x7 e => ?_))))))
      have h := tl_leteq e h
      clear e
      obtain ⟨u9, e8, h⟩ := tl_bi h
      obtain ⟨x12, u11, e10, h⟩ := tl_b2i h
      refine tl_aload_n dX9_simulate_47 rfl (tl_getr (f := 1) (o := 3) tl_ck9 dX9_simulate_48 fl_X9_19 (Nat.le_of_ble_eq_true rfl) rfl h1 (tl_lload dX9_simulate_51 rfl (tl_bipush (v := 33) dX9_simulate_53 bp_33 (tl_lushr dX9_simulate_55 (tl_l2i dX9_simulate_56 (tl_vV1 tl_ck0 rfl (tt_9_1 h1) (l0_readTurn (tt_9_1 h1) e8) dX9_simulate_57 cs_X9_simulate_57 ⟨rfl, rfl⟩ ⟨Nat.le_of_ble_eq_true rfl, Nat.le_of_ble_eq_true rfl⟩ (Nat.le_of_ble_eq_true rfl) (tl_aload_n dX9_simulate_60 rfl (tl_getr (f := 4) (o := 62) tl_ck9 dX9_simulate_61 fl_X9_33 (Nat.le_of_ble_eq_true rfl) rfl h1 (tl_aload_n dX9_simulate_64 rfl (tl_getr (f := 1) (o := 3) tl_ck9 dX9_simulate_65 fl_X9_19 (Nat.le_of_ble_eq_true rfl) rfl h1 (tl_iV1 tl_ck5 rfl (tt_9_4 h1) (l5_attempt (tt_9_4 h1) (tt_9_1 h1) e10) dX9_simulate_68 cs_X9_simulate_68 ⟨rfl, rfl⟩ ⟨Nat.le_of_ble_eq_true rfl, Nat.le_of_ble_eq_true rfl⟩ (Nat.le_of_ble_eq_true rfl) (tl_pop dX9_simulate_71 rfl (tl_iincK dX9_simulate_72 rfl (ii_1 _) (Nat.le_of_ble_eq_true rfl) (fun x13 e => ?_))))))))))))))
      have h := tl_leteq e h
      clear e
      refine tl_goto (tgt := 29) dX9_simulate_75 (by decide) (?_)
      exact ih _ _ _ _ _ _ _ _ h1 h

theorem l9_simulate {E : tl_E} {a0 : Nat} {x1 : Int64} {x2 : Int32}  {u : tl_S} {t : Nat} {r : Int32} {v : tl_S} (h0 : tl_T E.2.1 a0 = some 9) (h : f9_simulate a0 x1 x2 u = some (t, r, v)) : tl_MX E mX9_simulate [.ref a0, .long x1, .int x2] u t (some (.int r)) v := by
  unfold f9_simulate at h
  refine tl_startX [some (.ref a0), some (.long x1), none, some (.int x2), none, none, none] rfl rfl rfl (Nat.le_of_ble_eq_true rfl) ?_
  obtain ⟨x6, u5, e4, h⟩ := tl_b2i h
  refine tl_iconst (v := 1) dX9_simulate_0 ic_1 (tl_iload_n dX9_simulate_1 rfl (tl_iconst (v := 1) dX9_simulate_2 ic_1 (tl_bipush (v := 60) dX9_simulate_3 bp_60 (tl_iS3 (l9_isWithin  e4) dX9_simulate_5 cs_X9_simulate_5 ⟨rfl, rfl⟩ ⟨Nat.le_of_ble_eq_true rfl, Nat.le_of_ble_eq_true rfl⟩ (Nat.le_of_ble_eq_true rfl) (tl_iconst (v := 1) dX9_simulate_8 ic_1 (?_))))))
  rcases tl_bxi h with ⟨x9, u8, e7, h⟩ | ⟨t1, x9, e7, et⟩
  rotate_left
  · subst et; exact tl_xS3t (l9_demand  e7) dX9_simulate_9 cs_X9_simulate_9 ⟨Nat.le_of_ble_eq_true rfl, Nat.le_of_ble_eq_true rfl⟩ (Nat.le_of_ble_eq_true rfl)
  obtain ⟨u11, e10, h⟩ := tl_bi h
  refine tl_xS3v (l9_demand  e7) dX9_simulate_9 cs_X9_simulate_9 ⟨Nat.le_of_ble_eq_true rfl, Nat.le_of_ble_eq_true rfl⟩ (Nat.le_of_ble_eq_true rfl) (tl_aload_n dX9_simulate_12 rfl (tl_getr (f := 4) (o := 62) tl_ck9 dX9_simulate_13 fl_X9_33 (Nat.le_of_ble_eq_true rfl) rfl h0 (tl_aload_n dX9_simulate_16 rfl (tl_getr (f := 2) (o := 4) tl_ck9 dX9_simulate_17 fl_X9_26 (Nat.le_of_ble_eq_true rfl) rfl h0 (tl_vV1 tl_ck5 rfl (tt_9_4 h0) (l5_copyFrom (tt_9_4 h0) (tt_9_2 h0) e10) dX9_simulate_20 cs_X9_simulate_20 ⟨rfl, rfl⟩ ⟨Nat.le_of_ble_eq_true rfl, Nat.le_of_ble_eq_true rfl⟩ (Nat.le_of_ble_eq_true rfl) (tl_lload_n dX9_simulate_23 rfl (tl_lstore dX9_simulate_24 (Nat.le_of_ble_eq_true rfl) (tl_iconst (v := 0) dX9_simulate_26 ic_0 (tl_istore dX9_simulate_27 (Nat.le_of_ble_eq_true rfl) (?_))))))))))
  exact l9_simulate_p29 tl_F _ _ _ _ _ _ _ _ h0 h

theorem cs_X9_save_3 : tl_cS mX9_save mX9_isWithin 51 3 := ⟨cd_X9_isWithin, ml_X9_51, sm_X9_isWithin, in_X9, ⟨by decide, by decide, by decide +kernel⟩, Nat.le_of_ble_eq_true rfl, Nat.le_of_ble_eq_true rfl⟩
theorem cs_X9_save_8 : tl_cS mX9_save mX9_demand 59 3 := ⟨cd_X9_demand, ml_X9_59, sm_X9_demand, in_X9, ⟨by decide, by decide, by decide +kernel⟩, Nat.le_of_ble_eq_true rfl, Nat.le_of_ble_eq_true rfl⟩
theorem cs_X9_save_21 : tl_cV mX9_save mX5_copyFrom 75 1 := ⟨cd_X5_copyFrom, ml_X9_75, im_X5_copyFrom, se_X5_copyFrom, in_X5, ⟨by decide, by decide, by decide +kernel⟩, Nat.le_of_ble_eq_true rfl, Nat.le_of_ble_eq_true rfl⟩
def f9_save (a0 : Nat) (x1 : Int32) (u : tl_S) : Option (Nat × Int32 × tl_S) :=
  tl_b2 (f9_isWithin x1 0 1 u) (fun x5 u4 => tl_bx (f9_demand x5 1 1 u4) (fun x8 u7 => tl_g (¬ (x1 < 0 ∨ 2 ≤ x1.toNatClampNeg)) (tl_b (f5_copyFrom ((a0 + 499) + (2 + 29 * x1.toNatClampNeg)) (a0 + 4) u7) (fun u11 => tl_g (¬ (x1 < 0 ∨ 2 ≤ x1.toNatClampNeg)) (tl_let ((tl_u u11.1 (a0 + 500) x1.toNatClampNeg 1, u11.2) : tl_S) (fun u13 => some (0, (u13.1 (a0 + 4) 7), u13)))))))

theorem l9_save {E : tl_E} {a0 : Nat} {x1 : Int32}  {u : tl_S} {t : Nat} {r : Int32} {v : tl_S} (h0 : tl_T E.2.1 a0 = some 9) (h : f9_save a0 x1 u = some (t, r, v)) : tl_MX E mX9_save [.ref a0, .int x1] u t (some (.int r)) v := by
  unfold f9_save at h
  refine tl_startX [some (.ref a0), some (.int x1)] rfl rfl rfl (Nat.le_of_ble_eq_true rfl) ?_
  obtain ⟨x5, u4, e3, h⟩ := tl_b2i h
  refine tl_iload_n dX9_save_0 rfl (tl_iconst (v := 0) dX9_save_1 ic_0 (tl_iconst (v := 1) dX9_save_2 ic_1 (tl_iS3 (l9_isWithin  e3) dX9_save_3 cs_X9_save_3 ⟨rfl, rfl⟩ ⟨Nat.le_of_ble_eq_true rfl, Nat.le_of_ble_eq_true rfl⟩ (Nat.le_of_ble_eq_true rfl) (tl_iconst (v := 1) dX9_save_6 ic_1 (tl_iconst (v := 1) dX9_save_7 ic_1 (?_))))))
  rcases tl_bxi h with ⟨x8, u7, e6, h⟩ | ⟨t1, x8, e6, et⟩
  rotate_left
  · subst et; exact tl_xS3t (l9_demand  e6) dX9_save_8 cs_X9_save_8 ⟨Nat.le_of_ble_eq_true rfl, Nat.le_of_ble_eq_true rfl⟩ (Nat.le_of_ble_eq_true rfl)
  obtain ⟨g9, h⟩ := tl_gi h
  obtain ⟨u11, e10, h⟩ := tl_bi h
  obtain ⟨g12, h⟩ := tl_gi h
  refine tl_xS3v (l9_demand  e6) dX9_save_8 cs_X9_save_8 ⟨Nat.le_of_ble_eq_true rfl, Nat.le_of_ble_eq_true rfl⟩ (Nat.le_of_ble_eq_true rfl) (tl_aload_n dX9_save_11 rfl (tl_getr (f := 6) (o := 499) tl_ck9 dX9_save_12 fl_X9_43 (Nat.le_of_ble_eq_true rfl) rfl h0 (tl_iload_n dX9_save_15 rfl (tl_ald23 dX9_save_16 (tt_9_6 h0) (x1.toNatClampNeg) g9 rfl (tl_aload_n dX9_save_17 rfl (tl_getr (f := 2) (o := 4) tl_ck9 dX9_save_18 fl_X9_26 (Nat.le_of_ble_eq_true rfl) rfl h0 (tl_vV1 tl_ck5 rfl (ta_23 (tt_9_6 h0) (tl_inlt g9)) (l5_copyFrom (ta_23 (tt_9_6 h0) (tl_inlt g9)) (tt_9_2 h0) e10) dX9_save_21 cs_X9_save_21 ⟨rfl, rfl⟩ ⟨Nat.le_of_ble_eq_true rfl, Nat.le_of_ble_eq_true rfl⟩ (Nat.le_of_ble_eq_true rfl) (tl_aload_n dX9_save_24 rfl (tl_getr (f := 7) (o := 500) tl_ck9 dX9_save_25 fl_X9_47 (Nat.le_of_ble_eq_true rfl) rfl h0 (tl_iload_n dX9_save_28 rfl (tl_iconst (v := 1) dX9_save_29 ic_1 (tl_zastK dX9_save_30 (tt_9_7 h0) (x1.toNatClampNeg) g12 rfl (Or.inr rfl) (fun u13 e => ?_)))))))))))))
  have h := tl_leteq e h
  clear e
  exact tl_aload_n dX9_save_31 rfl (tl_getr (f := 2) (o := 4) tl_ck9 dX9_save_32 fl_X9_26 (Nat.le_of_ble_eq_true rfl) rfl h0 (tl_geti (f := 7) tl_ck5 dX9_save_35 fl_X9_102 (Nat.le_of_ble_eq_true rfl) rfl (tt_9_2 h0) (tl_iretX dX9_save_38 rfl rfl (Nat.le_of_ble_eq_true rfl) (Nat.le_of_ble_eq_true rfl) h)))

theorem cs_X9_restore_3 : tl_cS mX9_restore mX9_isWithin 51 3 := ⟨cd_X9_isWithin, ml_X9_51, sm_X9_isWithin, in_X9, ⟨by decide, by decide, by decide +kernel⟩, Nat.le_of_ble_eq_true rfl, Nat.le_of_ble_eq_true rfl⟩
theorem cs_X9_restore_27 : tl_cS mX9_restore mX9_demand 59 3 := ⟨cd_X9_demand, ml_X9_59, sm_X9_demand, in_X9, ⟨by decide, by decide, by decide +kernel⟩, Nat.le_of_ble_eq_true rfl, Nat.le_of_ble_eq_true rfl⟩
theorem cs_X9_restore_40 : tl_cV mX9_restore mX5_copyFrom 75 1 := ⟨cd_X5_copyFrom, ml_X9_75, im_X5_copyFrom, se_X5_copyFrom, in_X5, ⟨by decide, by decide, by decide +kernel⟩, Nat.le_of_ble_eq_true rfl, Nat.le_of_ble_eq_true rfl⟩
theorem cs_X9_restore_47 : tl_cV mX9_restore mX2_forgetAll 79 0 := ⟨cd_X2_forgetAll, ml_X9_79, im_X2_forgetAll, se_X2_forgetAll, in_X2, ⟨by decide, by decide, by decide +kernel⟩, Nat.le_of_ble_eq_true rfl, Nat.le_of_ble_eq_true rfl⟩
def f9_restore_p27 (a1 : Nat) (x2 : Int32) (x3 : Int32) (x4 : Int32) (x5 : Int32) (u : tl_S) : Option (Nat × Int32 × tl_S) :=
  tl_bx (f9_demand x5 x4 x3 u) (fun x9 u8 => tl_g (¬ (x2 < 0 ∨ 2 ≤ x2.toNatClampNeg)) (tl_b (f5_copyFrom (a1 + 4) ((a1 + 499) + (2 + 29 * x2.toNatClampNeg)) u8) (fun u12 => tl_b (f2_forgetAll (a1 + 91) u12) (fun u14 => some (0, (u14.1 (a1 + 4) 7), u14)))))

def f9_restore_p26 (a1 : Nat) (x2 : Int32) (x3 : Int32) (x4 : Int32) (u : tl_S) : Option (Nat × Int32 × tl_S) :=
  f9_restore_p27 a1 x2 0 x3 x4 u

def f9_restore (a0 : Nat) (x1 : Int32) (u : tl_S) : Option (Nat × Int32 × tl_S) :=
  tl_b2 (f9_isWithin x1 0 1 u) (fun x5 u4 => (if x5 = 0 then f9_restore_p26 a0 x1 1 x5 u4 else tl_g (¬ (x1 < 0 ∨ 2 ≤ x1.toNatClampNeg)) ((if (u4.1 (a0 + 500) x1.toNatClampNeg) = 0 then f9_restore_p26 a0 x1 1 x5 u4 else f9_restore_p27 a0 x1 1 1 x5 u4))))

theorem l9_restore_p27 {E : tl_E} {a1 : Nat} {x2 : Int32} {x3 : Int32} {x4 : Int32} {x5 : Int32}  {d2 : Option Value} {u : tl_S} {t : Nat} {r : Int32} {v : tl_S} (h1 : tl_T E.2.1 a1 = some 9) (h : f9_restore_p27 a1 x2 x3 x4 x5 u = some (t, r, v)) : tl_R E mX9_restore tl_XT (tl_ZX E mX9_restore t (some (.int r)) v) 0 0 (tl_HB E u) 27 [some (.ref a1), some (.int x2), d2] [.int x3, .int x4, .int x5] := by
  unfold f9_restore_p27 at h
  rcases tl_bxi h with ⟨x9, u8, e7, h⟩ | ⟨t1, x9, e7, et⟩
  rotate_left
  · subst et; exact tl_xS3t (l9_demand  e7) dX9_restore_27 cs_X9_restore_27 ⟨Nat.le_of_ble_eq_true rfl, Nat.le_of_ble_eq_true rfl⟩ (Nat.le_of_ble_eq_true rfl)
  obtain ⟨g10, h⟩ := tl_gi h
  obtain ⟨u12, e11, h⟩ := tl_bi h
  obtain ⟨u14, e13, h⟩ := tl_bi h
  exact tl_xS3v (l9_demand  e7) dX9_restore_27 cs_X9_restore_27 ⟨Nat.le_of_ble_eq_true rfl, Nat.le_of_ble_eq_true rfl⟩ (Nat.le_of_ble_eq_true rfl) (tl_aload_n dX9_restore_30 rfl (tl_getr (f := 2) (o := 4) tl_ck9 dX9_restore_31 fl_X9_26 (Nat.le_of_ble_eq_true rfl) rfl h1 (tl_aload_n dX9_restore_34 rfl (tl_getr (f := 6) (o := 499) tl_ck9 dX9_restore_35 fl_X9_43 (Nat.le_of_ble_eq_true rfl) rfl h1 (tl_iload_n dX9_restore_38 rfl (tl_ald23 dX9_restore_39 (tt_9_6 h1) (x2.toNatClampNeg) g10 rfl (tl_vV1 tl_ck5 rfl (tt_9_2 h1) (l5_copyFrom (tt_9_2 h1) (ta_23 (tt_9_6 h1) (tl_inlt g10)) e11) dX9_restore_40 cs_X9_restore_40 ⟨rfl, rfl⟩ ⟨Nat.le_of_ble_eq_true rfl, Nat.le_of_ble_eq_true rfl⟩ (Nat.le_of_ble_eq_true rfl) (tl_aload_n dX9_restore_43 rfl (tl_getr (f := 5) (o := 91) tl_ck9 dX9_restore_44 fl_X9_39 (Nat.le_of_ble_eq_true rfl) rfl h1 (tl_vV0 tl_ck2 rfl (tt_9_5 h1) (l2_forgetAll (tt_9_5 h1) e13) dX9_restore_47 cs_X9_restore_47 ⟨rfl, rfl⟩ ⟨Nat.le_of_ble_eq_true rfl, Nat.le_of_ble_eq_true rfl⟩ (Nat.le_of_ble_eq_true rfl) (tl_aload_n dX9_restore_50 rfl (tl_getr (f := 2) (o := 4) tl_ck9 dX9_restore_51 fl_X9_26 (Nat.le_of_ble_eq_true rfl) rfl h1 (tl_geti (f := 7) tl_ck5 dX9_restore_54 fl_X9_102 (Nat.le_of_ble_eq_true rfl) rfl (tt_9_2 h1) (tl_iretX dX9_restore_57 rfl rfl (Nat.le_of_ble_eq_true rfl) (Nat.le_of_ble_eq_true rfl) h))))))))))))))

theorem l9_restore_p26 {E : tl_E} {a1 : Nat} {x2 : Int32} {x3 : Int32} {x4 : Int32}  {d2 : Option Value} {u : tl_S} {t : Nat} {r : Int32} {v : tl_S} (h1 : tl_T E.2.1 a1 = some 9) (h : f9_restore_p26 a1 x2 x3 x4 u = some (t, r, v)) : tl_R E mX9_restore tl_XT (tl_ZX E mX9_restore t (some (.int r)) v) 0 0 (tl_HB E u) 26 [some (.ref a1), some (.int x2), d2] [.int x3, .int x4] := by
  unfold f9_restore_p26 at h
  refine tl_iconst (v := 0) dX9_restore_26 ic_0 (?_)
  exact l9_restore_p27 h1 h

theorem l9_restore {E : tl_E} {a0 : Nat} {x1 : Int32}  {u : tl_S} {t : Nat} {r : Int32} {v : tl_S} (h0 : tl_T E.2.1 a0 = some 9) (h : f9_restore a0 x1 u = some (t, r, v)) : tl_MX E mX9_restore [.ref a0, .int x1] u t (some (.int r)) v := by
  unfold f9_restore at h
  refine tl_startX [some (.ref a0), some (.int x1), none] rfl rfl rfl (Nat.le_of_ble_eq_true rfl) ?_
  obtain ⟨x5, u4, e3, h⟩ := tl_b2i h
  refine tl_iload_n dX9_restore_0 rfl (tl_iconst (v := 0) dX9_restore_1 ic_0 (tl_iconst (v := 1) dX9_restore_2 ic_1 (tl_iS3 (l9_isWithin  e3) dX9_restore_3 cs_X9_restore_3 ⟨rfl, rfl⟩ ⟨Nat.le_of_ble_eq_true rfl, Nat.le_of_ble_eq_true rfl⟩ (Nat.le_of_ble_eq_true rfl) (tl_istore_n dX9_restore_6 (Nat.le_of_ble_eq_true rfl) (tl_iload_n dX9_restore_7 rfl (tl_iconst (v := 1) dX9_restore_8 ic_1 (tl_iload_n dX9_restore_9 rfl (tl_if_eq (tgt := 26) dX9_restore_10 (by decide) (fun c6 => ?_) (fun c6 => ?_)))))))))
  · replace h := tl_ip h c6
    exact l9_restore_p26 h0 h
  · replace h := tl_in h c6
    obtain ⟨g7, h⟩ := tl_gi h
    refine tl_aload_n dX9_restore_13 rfl (tl_getr (f := 7) (o := 500) tl_ck9 dX9_restore_14 fl_X9_47 (Nat.le_of_ble_eq_true rfl) rfl h0 (tl_iload_n dX9_restore_17 rfl (tl_zald (j := x1.toNatClampNeg) (fun _ _ => rfl) dX9_restore_18 (tt_9_7 h0) g7 rfl (tl_if_eq (tgt := 26) dX9_restore_19 (by decide) (fun c8 => ?_) (fun c8 => ?_)))))
    · replace h := tl_ip h c8
      exact l9_restore_p26 h0 h
    · replace h := tl_in h c8
      refine tl_iconst (v := 1) dX9_restore_22 ic_1 (tl_goto (tgt := 27) dX9_restore_23 (by decide) (?_))
      exact l9_restore_p27 h0 h

