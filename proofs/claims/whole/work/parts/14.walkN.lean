/-! Printed by wip/whole/gen: what the bytes compute, and the walks. -/
theorem cs_X10_canMiner_2 : tl_cS mX10_canMiner mX10_isGallery 41 2 := ⟨cd_X10_isGallery, ml_X10_41, sm_X10_isGallery, in_X10, ⟨by decide, by decide, by decide +kernel⟩, Nat.le_of_ble_eq_true rfl, Nat.le_of_ble_eq_true rfl⟩
def f10_canMiner (a1 : Nat) (x2 : Int32) (u : tl_S) : Option (Int32 × tl_S) :=
  tl_b2 (f10_isGallery a1 x2 u) (fun x6 u5 => (if x6 = 0 then some (0, u5) else (if 6 ≤ (u5.1 a1 1) then some (0, u5) else some (1, u5))))

theorem l10_canMiner {E : tl_E} {a1 : Nat} {x2 : Int32}  {u : tl_S} {r : Int32} {v : tl_S} (h1 : tl_T E.2.1 a1 = some 13) (h : f10_canMiner a1 x2 u = some (r, v)) : tl_MB E mX10_canMiner [.ref a1, .int x2] u (fun q w => q = some (.int r) ∧ w = v) := by
  unfold f10_canMiner at h
  refine tl_start [some (.ref a1), some (.int x2)] rfl rfl rfl (Nat.le_of_ble_eq_true rfl) ?_
  obtain ⟨x6, u5, e4, h⟩ := tl_b2i h
  refine tl_aload_n dX10_canMiner_0 rfl (tl_iload_n dX10_canMiner_1 rfl (tl_iS2 (l10_isGallery h1 e4) dX10_canMiner_2 cs_X10_canMiner_2 ⟨rfl, rfl⟩ ⟨Nat.zero_le _, Nat.zero_le _⟩ (Nat.le_of_ble_eq_true rfl) (tl_if_eq (tgt := 20) dX10_canMiner_5 (by decide) (fun c7 => ?_) (fun c7 => ?_))))
  · replace h := tl_ip h c7
    exact tl_iconst (v := 0) dX10_canMiner_20 ic_0 (tl_iretE dX10_canMiner_21 rfl rfl h)
  · replace h := tl_in h c7
    refine tl_aload_n dX10_canMiner_8 rfl (tl_iconst (v := 1) dX10_canMiner_9 ic_1 (tl_iald (j := 1) (fun _ _ => rfl) dX10_canMiner_10 h1 (li_1 104 rfl) lx_1 (tl_bipush (v := 6) dX10_canMiner_11 bp_6 (tl_icmp_ge (tgt := 20) dX10_canMiner_13 (by decide) (fun c8 => ?_) (fun c8 => ?_)))))
    · replace h := tl_ip h c8
      exact tl_iconst (v := 0) dX10_canMiner_20 ic_0 (tl_iretE dX10_canMiner_21 rfl rfl h)
    · replace h := tl_in h c8
      exact tl_iconst (v := 1) dX10_canMiner_16 ic_1 (tl_goto (tgt := 21) dX10_canMiner_17 (by decide) (tl_iretE dX10_canMiner_21 rfl rfl h))

theorem cs_X10_canLamp_3 : tl_cS mX10_canLamp mX10_isCell 139 3 := ⟨cd_X10_isCell, ml_X10_139, sm_X10_isCell, in_X10, ⟨by decide, by decide, by decide +kernel⟩, Nat.le_of_ble_eq_true rfl, Nat.le_of_ble_eq_true rfl⟩
def f10_canLamp (a1 : Nat) (x2 : Int32) (x3 : Int32) (u : tl_S) : Option (Int32 × tl_S) :=
  tl_b2 (f10_isCell a1 x2 x3 u) (fun x7 u6 => (if x7 = 0 then some (0, u6) else (if 8 ≤ (u6.1 a1 2) then some (0, u6) else some (1, u6))))

theorem l10_canLamp {E : tl_E} {a1 : Nat} {x2 : Int32} {x3 : Int32}  {u : tl_S} {r : Int32} {v : tl_S} (h1 : tl_T E.2.1 a1 = some 13) (h : f10_canLamp a1 x2 x3 u = some (r, v)) : tl_MB E mX10_canLamp [.ref a1, .int x2, .int x3] u (fun q w => q = some (.int r) ∧ w = v) := by
  unfold f10_canLamp at h
  refine tl_start [some (.ref a1), some (.int x2), some (.int x3)] rfl rfl rfl (Nat.le_of_ble_eq_true rfl) ?_
  obtain ⟨x7, u6, e5, h⟩ := tl_b2i h
  refine tl_aload_n dX10_canLamp_0 rfl (tl_iload_n dX10_canLamp_1 rfl (tl_iload_n dX10_canLamp_2 rfl (tl_iS3 (l10_isCell h1 e5) dX10_canLamp_3 cs_X10_canLamp_3 ⟨rfl, rfl⟩ ⟨Nat.zero_le _, Nat.zero_le _⟩ (Nat.le_of_ble_eq_true rfl) (tl_if_eq (tgt := 21) dX10_canLamp_6 (by decide) (fun c8 => ?_) (fun c8 => ?_)))))
  · replace h := tl_ip h c8
    exact tl_iconst (v := 0) dX10_canLamp_21 ic_0 (tl_iretE dX10_canLamp_22 rfl rfl h)
  · replace h := tl_in h c8
    refine tl_aload_n dX10_canLamp_9 rfl (tl_iconst (v := 2) dX10_canLamp_10 ic_2 (tl_iald (j := 2) (fun _ _ => rfl) dX10_canLamp_11 h1 (li_2 104 rfl) lx_2 (tl_bipush (v := 8) dX10_canLamp_12 bp_8 (tl_icmp_ge (tgt := 21) dX10_canLamp_14 (by decide) (fun c9 => ?_) (fun c9 => ?_)))))
    · replace h := tl_ip h c9
      exact tl_iconst (v := 0) dX10_canLamp_21 ic_0 (tl_iretE dX10_canLamp_22 rfl rfl h)
    · replace h := tl_in h c9
      exact tl_iconst (v := 1) dX10_canLamp_17 ic_1 (tl_goto (tgt := 22) dX10_canLamp_18 (by decide) (tl_iretE dX10_canLamp_22 rfl rfl h))

theorem cs_X10_canHang_2 : tl_cS mX10_canHang mX10_isLamp 142 2 := ⟨cd_X10_isLamp, ml_X10_142, sm_X10_isLamp, in_X10, ⟨by decide, by decide, by decide +kernel⟩, Nat.le_of_ble_eq_true rfl, Nat.le_of_ble_eq_true rfl⟩
theorem cs_X10_canHang_11 : tl_cS mX10_canHang mX10_isCell 139 3 := ⟨cd_X10_isCell, ml_X10_139, sm_X10_isCell, in_X10, ⟨by decide, by decide, by decide +kernel⟩, Nat.le_of_ble_eq_true rfl, Nat.le_of_ble_eq_true rfl⟩
def f10_canHang (a1 : Nat) (x2 : Int32) (x3 : Int32) (x4 : Int32) (u : tl_S) : Option (Int32 × tl_S) :=
  tl_b2 (f10_isLamp a1 x2 u) (fun x8 u7 => (if x8 = 0 then some (0, u7) else tl_b2 (f10_isCell a1 x3 x4 u7) (fun x12 u11 => (if x12 = 0 then some (0, u11) else (if 6 ≤ (u11.1 a1 8) then some (0, u11) else some (1, u11))))))

theorem l10_canHang {E : tl_E} {a1 : Nat} {x2 : Int32} {x3 : Int32} {x4 : Int32}  {u : tl_S} {r : Int32} {v : tl_S} (h1 : tl_T E.2.1 a1 = some 13) (h : f10_canHang a1 x2 x3 x4 u = some (r, v)) : tl_MB E mX10_canHang [.ref a1, .int x2, .int x3, .int x4] u (fun q w => q = some (.int r) ∧ w = v) := by
  unfold f10_canHang at h
  refine tl_start [some (.ref a1), some (.int x2), some (.int x3), some (.int x4)] rfl rfl rfl (Nat.le_of_ble_eq_true rfl) ?_
  obtain ⟨x8, u7, e6, h⟩ := tl_b2i h
  refine tl_aload_n dX10_canHang_0 rfl (tl_iload_n dX10_canHang_1 rfl (tl_iS2 (l10_isLamp h1 e6) dX10_canHang_2 cs_X10_canHang_2 ⟨rfl, rfl⟩ ⟨Nat.zero_le _, Nat.zero_le _⟩ (Nat.le_of_ble_eq_true rfl) (tl_if_eq (tgt := 30) dX10_canHang_5 (by decide) (fun c9 => ?_) (fun c9 => ?_))))
  · replace h := tl_ip h c9
    exact tl_iconst (v := 0) dX10_canHang_30 ic_0 (tl_iretE dX10_canHang_31 rfl rfl h)
  · replace h := tl_in h c9
    obtain ⟨x12, u11, e10, h⟩ := tl_b2i h
    refine tl_aload_n dX10_canHang_8 rfl (tl_iload_n dX10_canHang_9 rfl (tl_iload_n dX10_canHang_10 rfl (tl_iS3 (l10_isCell h1 e10) dX10_canHang_11 cs_X10_canHang_11 ⟨rfl, rfl⟩ ⟨Nat.zero_le _, Nat.zero_le _⟩ (Nat.le_of_ble_eq_true rfl) (tl_if_eq (tgt := 30) dX10_canHang_14 (by decide) (fun c13 => ?_) (fun c13 => ?_)))))
    · replace h := tl_ip h c13
      exact tl_iconst (v := 0) dX10_canHang_30 ic_0 (tl_iretE dX10_canHang_31 rfl rfl h)
    · replace h := tl_in h c13
      refine tl_aload_n dX10_canHang_17 rfl (tl_bipush (v := 8) dX10_canHang_18 bp_8 (tl_iald (j := 8) (fun _ _ => rfl) dX10_canHang_20 h1 (li_8 104 rfl) lx_8 (tl_bipush (v := 6) dX10_canHang_21 bp_6 (tl_icmp_ge (tgt := 30) dX10_canHang_23 (by decide) (fun c14 => ?_) (fun c14 => ?_)))))
      · replace h := tl_ip h c14
        exact tl_iconst (v := 0) dX10_canHang_30 ic_0 (tl_iretE dX10_canHang_31 rfl rfl h)
      · replace h := tl_in h c14
        exact tl_iconst (v := 1) dX10_canHang_26 ic_1 (tl_goto (tgt := 31) dX10_canHang_27 (by decide) (tl_iretE dX10_canHang_31 rfl rfl h))

theorem cs_X10_canFill_2 : tl_cS mX10_canFill mX10_isLamp 142 2 := ⟨cd_X10_isLamp, ml_X10_142, sm_X10_isLamp, in_X10, ⟨by decide, by decide, by decide +kernel⟩, Nat.le_of_ble_eq_true rfl, Nat.le_of_ble_eq_true rfl⟩
theorem cs_X10_canFill_14 : tl_cS mX10_canFill mX10_in 37 3 := ⟨cd_X10_in, ml_X10_37, sm_X10_in, in_X10, ⟨by decide, by decide, by decide +kernel⟩, Nat.le_of_ble_eq_true rfl, Nat.le_of_ble_eq_true rfl⟩
def f10_canFill (a1 : Nat) (x2 : Int32) (x3 : Int32) (u : tl_S) : Option (Int32 × tl_S) :=
  tl_b2 (f10_isLamp a1 x2 u) (fun x7 u6 => (if x7 = 0 then some (0, u6) else tl_b2 (f10_in ((x3 : Int32).toInt64) 1 99 u6) (fun x11 u10 => (if x11 = 0 then some (0, u10) else (if 6 ≤ (u10.1 a1 8) then some (0, u10) else some (1, u10))))))

theorem l10_canFill {E : tl_E} {a1 : Nat} {x2 : Int32} {x3 : Int32}  {u : tl_S} {r : Int32} {v : tl_S} (h1 : tl_T E.2.1 a1 = some 13) (h : f10_canFill a1 x2 x3 u = some (r, v)) : tl_MB E mX10_canFill [.ref a1, .int x2, .int x3] u (fun q w => q = some (.int r) ∧ w = v) := by
  unfold f10_canFill at h
  refine tl_start [some (.ref a1), some (.int x2), some (.int x3)] rfl rfl rfl (Nat.le_of_ble_eq_true rfl) ?_
  obtain ⟨x7, u6, e5, h⟩ := tl_b2i h
  refine tl_aload_n dX10_canFill_0 rfl (tl_iload_n dX10_canFill_1 rfl (tl_iS2 (l10_isLamp h1 e5) dX10_canFill_2 cs_X10_canFill_2 ⟨rfl, rfl⟩ ⟨Nat.zero_le _, Nat.zero_le _⟩ (Nat.le_of_ble_eq_true rfl) (tl_if_eq (tgt := 33) dX10_canFill_5 (by decide) (fun c8 => ?_) (fun c8 => ?_))))
  · replace h := tl_ip h c8
    exact tl_iconst (v := 0) dX10_canFill_33 ic_0 (tl_iretE dX10_canFill_34 rfl rfl h)
  · replace h := tl_in h c8
    obtain ⟨x11, u10, e9, h⟩ := tl_b2i h
    refine tl_iload_n dX10_canFill_8 rfl (tl_i2l dX10_canFill_9 (tl_lconst (v := 1) dX10_canFill_10 lc_1 (tl_ldc2 dX10_canFill_11 kl_X10_145 (tl_iS3 (l10_in  e9) dX10_canFill_14 cs_X10_canFill_14 ⟨rfl, rfl⟩ ⟨Nat.zero_le _, Nat.zero_le _⟩ (Nat.le_of_ble_eq_true rfl) (tl_if_eq (tgt := 33) dX10_canFill_17 (by decide) (fun c12 => ?_) (fun c12 => ?_))))))
    · replace h := tl_ip h c12
      exact tl_iconst (v := 0) dX10_canFill_33 ic_0 (tl_iretE dX10_canFill_34 rfl rfl h)
    · replace h := tl_in h c12
      refine tl_aload_n dX10_canFill_20 rfl (tl_bipush (v := 8) dX10_canFill_21 bp_8 (tl_iald (j := 8) (fun _ _ => rfl) dX10_canFill_23 h1 (li_8 104 rfl) lx_8 (tl_bipush (v := 6) dX10_canFill_24 bp_6 (tl_icmp_ge (tgt := 33) dX10_canFill_26 (by decide) (fun c13 => ?_) (fun c13 => ?_)))))
      · replace h := tl_ip h c13
        exact tl_iconst (v := 0) dX10_canFill_33 ic_0 (tl_iretE dX10_canFill_34 rfl rfl h)
      · replace h := tl_in h c13
        exact tl_iconst (v := 1) dX10_canFill_29 ic_1 (tl_goto (tgt := 34) dX10_canFill_30 (by decide) (tl_iretE dX10_canFill_34 rfl rfl h))


def f10_change (a1 : Nat) (x2 : Int32) (x3 : Int32) (u : tl_S) : Option (Int32 × tl_S) :=
  tl_g (¬ (x2 < 0 ∨ 104 ≤ x2.toNatClampNeg)) (tl_let ((u.1 a1 x2.toNatClampNeg)) (fun x6 => tl_g (¬ (x2 < 0 ∨ 104 ≤ x2.toNatClampNeg)) (tl_let ((tl_u u.1 a1 x2.toNatClampNeg x3, u.2) : tl_S) (fun u8 => some (x6, u8)))))

theorem l10_change {E : tl_E} {a1 : Nat} {x2 : Int32} {x3 : Int32}  {u : tl_S} {r : Int32} {v : tl_S} (h1 : tl_T E.2.1 a1 = some 13) (h : f10_change a1 x2 x3 u = some (r, v)) : tl_MB E mX10_change [.ref a1, .int x2, .int x3] u (fun q w => q = some (.int r) ∧ w = v) := by
  unfold f10_change at h
  refine tl_start [some (.ref a1), some (.int x2), some (.int x3), none] rfl rfl rfl (Nat.le_of_ble_eq_true rfl) ?_
  obtain ⟨g5, h⟩ := tl_gi h
  refine tl_aload_n dX10_change_0 rfl (tl_iload_n dX10_change_1 rfl (tl_iald (j := x2.toNatClampNeg) (fun _ _ => rfl) dX10_change_2 h1 g5 rfl (tl_isto_n dX10_change_3 (Nat.le_of_ble_eq_true rfl) (fun x6 e => ?_))))
  have h := tl_leteq e h
  clear e
  obtain ⟨g7, h⟩ := tl_gi h
  refine tl_aload_n dX10_change_4 rfl (tl_iload_n dX10_change_5 rfl (tl_iload_n dX10_change_6 rfl (tl_iastK (fun _ _ => rfl) dX10_change_7 h1 (x2.toNatClampNeg) g7 rfl (fun u8 e => ?_))))
  have h := tl_leteq e h
  clear e
  exact tl_iload_n dX10_change_8 rfl (tl_iretE dX10_change_9 rfl rfl h)

theorem cs_X10_append_7 : tl_cS mX10_append mX10_in 37 3 := ⟨cd_X10_in, ml_X10_37, sm_X10_in, in_X10, ⟨by decide, by decide, by decide +kernel⟩, Nat.le_of_ble_eq_true rfl, Nat.le_of_ble_eq_true rfl⟩
theorem cs_X10_append_31 : tl_cV mX10_append mX10_refused 152 1 := ⟨cd_X10_refused, ml_X10_152, im_X10_refused, se_X10_refused, in_X10, ⟨by decide, by decide, by decide +kernel⟩, Nat.le_of_ble_eq_true rfl, Nat.le_of_ble_eq_true rfl⟩
def f10_append_p31 (a1 : Nat) (x2 : Int32) (x3 : Int32) (a4 : Nat) (u : tl_S) : Option (Int32 × tl_S) :=
  tl_b2 (f10_refused a4 x3 u) (fun x8 u7 => (if x8 = 0 then tl_g (¬ ((u7.1 a1 2) < 0 ∨ 120 ≤ (u7.1 a1 2).toNatClampNeg)) (tl_let ((tl_u u7.1 (a1 + 1) ((u7.1 a1 2).toNatClampNeg) x2, u7.2) : tl_S) (fun u11 => tl_let ((tl_u u11.1 a1 2 ((u11.1 a1 2) + 1), u11.2) : tl_S) (fun u12 => some ((u12.1 a1 2), u12)))) else some (0, u7)))

def f10_append (a0 : Nat) (x1 : Int32) (u : tl_S) : Option (Int32 × tl_S) :=
  tl_b2 (f10_in ((x1 : Int32).toInt64) 0 255 u) (fun x5 u4 => (if x5 = 0 then f10_append_p31 a0 x1 1 a0 u4 else (if (u4.1 a0 2) = 120 then f10_append_p31 a0 x1 2 a0 u4 else f10_append_p31 a0 x1 0 a0 u4)))

theorem l10_append_p31 {E : tl_E} {a1 : Nat} {x2 : Int32} {x3 : Int32} {a4 : Nat}   {u : tl_S} {r : Int32} {v : tl_S} (h1 : tl_T E.2.1 a1 = some 10) (h4 : tl_T E.2.1 a4 = some 10) (h : f10_append_p31 a1 x2 x3 a4 u = some (r, v)) : tl_R E mX10_append tl_X0 (tl_ZB E mX10_append (fun q w => q = some (.int r) ∧ w = v)) 0 0 (tl_HB E u) 31 [some (.ref a1), some (.int x2)] [.int x3, .ref a4] := by
  unfold f10_append_p31 at h
  obtain ⟨x8, u7, e6, h⟩ := tl_b2i h
  refine tl_iV1 tl_ck10 rfl h4 (l10_refused h4 e6) dX10_append_31 cs_X10_append_31 ⟨rfl, rfl⟩ ⟨Nat.zero_le _, Nat.zero_le _⟩ (Nat.le_of_ble_eq_true rfl) (tl_if_eq (tgt := 39) dX10_append_34 (by decide) (fun c9 => ?_) (fun c9 => ?_))
  · replace h := tl_ip h c9
    obtain ⟨g10, h⟩ := tl_gi h
    refine tl_aload_n dX10_append_39 rfl (tl_getr (f := 1) (o := 1) tl_ck10 dX10_append_40 fl_X10_7 (Nat.le_of_ble_eq_true rfl) rfl h1 (tl_aload_n dX10_append_43 rfl (tl_geti (f := 2) tl_ck10 dX10_append_44 fl_X10_149 (Nat.le_of_ble_eq_true rfl) rfl h1 (tl_iload_n dX10_append_47 rfl (tl_iastK (fun _ _ => rfl) dX10_append_48 (tt_10_1 h1) ((u7.1 a1 2).toNatClampNeg) g10 rfl (fun u11 e => ?_))))))
    have h := tl_leteq e h
    clear e
    refine tl_aload_n dX10_append_49 rfl (tl_dup dX10_append_50 rfl (tl_geti (f := 2) tl_ck10 dX10_append_51 fl_X10_149 (Nat.le_of_ble_eq_true rfl) rfl h1 (tl_iconst (v := 1) dX10_append_54 ic_1 (tl_iadd dX10_append_55 (tl_puti (f := 2) tl_ck10 dX10_append_56 fl_X10_149 (Nat.le_of_ble_eq_true rfl) rfl rfl rfl h1 (fun u12 e => ?_))))))
    have h := tl_leteq e h
    clear e
    exact tl_aload_n dX10_append_59 rfl (tl_geti (f := 2) tl_ck10 dX10_append_60 fl_X10_149 (Nat.le_of_ble_eq_true rfl) rfl h1 (tl_iretE dX10_append_63 rfl rfl h))
  · replace h := tl_in h c9
    exact tl_iconst (v := 0) dX10_append_37 ic_0 (tl_iretE dX10_append_38 rfl rfl h)

theorem l10_append {E : tl_E} {a0 : Nat} {x1 : Int32}  {u : tl_S} {r : Int32} {v : tl_S} (h0 : tl_T E.2.1 a0 = some 10) (h : f10_append a0 x1 u = some (r, v)) : tl_MB E mX10_append [.ref a0, .int x1] u (fun q w => q = some (.int r) ∧ w = v) := by
  unfold f10_append at h
  refine tl_start [some (.ref a0), some (.int x1)] rfl rfl rfl (Nat.le_of_ble_eq_true rfl) ?_
  obtain ⟨x5, u4, e3, h⟩ := tl_b2i h
  refine tl_aload_n dX10_append_0 rfl (tl_iload_n dX10_append_1 rfl (tl_i2l dX10_append_2 (tl_lconst (v := 0) dX10_append_3 lc_0 (tl_ldc2 dX10_append_4 kl_X10_147 (tl_iS3 (l10_in  e3) dX10_append_7 cs_X10_append_7 ⟨rfl, rfl⟩ ⟨Nat.zero_le _, Nat.zero_le _⟩ (Nat.le_of_ble_eq_true rfl) (tl_if_ne (tgt := 17) dX10_append_10 (by decide) (fun c6 => ?_) (fun c6 => ?_)))))))
  · replace h := tl_in h c6
    refine tl_aload_n dX10_append_17 rfl (tl_geti (f := 2) tl_ck10 dX10_append_18 fl_X10_149 (Nat.le_of_ble_eq_true rfl) rfl h0 (tl_bipush (v := 120) dX10_append_21 bp_120 (tl_icmp_ne (tgt := 30) dX10_append_23 (by decide) (fun c7 => ?_) (fun c7 => ?_))))
    · replace h := tl_in h c7
      refine tl_iconst (v := 0) dX10_append_30 ic_0 (?_)
      exact l10_append_p31 h0 h0 h
    · replace h := tl_ip h c7
      refine tl_iconst (v := 2) dX10_append_26 ic_2 (tl_goto (tgt := 31) dX10_append_27 (by decide) (?_))
      exact l10_append_p31 h0 h0 h
  · replace h := tl_ip h c6
    refine tl_iconst (v := 1) dX10_append_13 ic_1 (tl_goto (tgt := 31) dX10_append_14 (by decide) (?_))
    exact l10_append_p31 h0 h0 h


def f10_clearText (a0 : Nat) (u : tl_S) : Option (Int32 × tl_S) :=
  tl_let ((tl_u u.1 a0 0 0, u.2) : tl_S) (fun u2 => tl_let ((u2.1 a0 2)) (fun x3 => tl_let ((tl_u u2.1 a0 2 0, u2.2) : tl_S) (fun u4 => some (x3, u4))))

theorem l10_clearText {E : tl_E} {a0 : Nat}  {u : tl_S} {r : Int32} {v : tl_S} (h0 : tl_T E.2.1 a0 = some 10) (h : f10_clearText a0 u = some (r, v)) : tl_MB E mX10_clearText [.ref a0] u (fun q w => q = some (.int r) ∧ w = v) := by
  unfold f10_clearText at h
  refine tl_start [some (.ref a0), none] rfl rfl rfl (Nat.le_of_ble_eq_true rfl) ?_
  refine tl_aload_n dX10_clearText_0 rfl (tl_iconst (v := 0) dX10_clearText_1 ic_0 (tl_puti (f := 0) tl_ck10 dX10_clearText_2 fl_X10_33 (Nat.le_of_ble_eq_true rfl) rfl rfl rfl h0 (fun u2 e => ?_)))
  have h := tl_leteq e h
  clear e
  refine tl_aload_n dX10_clearText_5 rfl (tl_geti (f := 2) tl_ck10 dX10_clearText_6 fl_X10_149 (Nat.le_of_ble_eq_true rfl) rfl h0 (tl_isto_n dX10_clearText_9 (Nat.le_of_ble_eq_true rfl) (fun x3 e => ?_)))
  have h := tl_leteq e h
  clear e
  refine tl_aload_n dX10_clearText_10 rfl (tl_iconst (v := 0) dX10_clearText_11 ic_0 (tl_puti (f := 2) tl_ck10 dX10_clearText_12 fl_X10_149 (Nat.le_of_ble_eq_true rfl) rfl rfl rfl h0 (fun u4 e => ?_)))
  have h := tl_leteq e h
  clear e
  exact tl_iload_n dX10_clearText_15 rfl (tl_iretE dX10_clearText_16 rfl rfl h)

theorem cs_X10_figures_82 : tl_cS mX10_figures mX10_in 37 3 := ⟨cd_X10_in, ml_X10_37, sm_X10_in, in_X10, ⟨by decide, by decide, by decide +kernel⟩, Nat.le_of_ble_eq_true rfl, Nat.le_of_ble_eq_true rfl⟩
def f10_figures_p26 : Nat → Nat → Int32 → Int32 → Int32 → Int32 → Int32 → tl_S → Option (Int32 × tl_S)
  | 0, _, _, _, _, _, _, _ => none
  | fu + 1, a1, x2, x3, x4, x5, x6, u =>
  (if x6 ≤ 0 then (if x2 = (-1) then some ((-1), u) else some (x5, u)) else (if x2 = (-1) then (if x2 = (-1) then some ((-1), u) else some (x5, u)) else (if (u.1 a1 2) ≤ (u.1 a1 9) then tl_let ((x5 + ((-1) * x6))) (fun x11 => tl_b2 (f10_in (((-1) : Int32).toInt64) 0 9 u) (fun x14 u13 => (if x14 = 0 then some ((-1), u13) else (if x4 < x11 then some ((-1), u13) else (if x3 ≤ ((x11 + x6) - 1) then tl_let ((tl_u u13.1 a1 9 ((u13.1 a1 9) + 1), u13.2) : tl_S) (fun u18 => tl_let ((x6 / 10)) (fun x19 => f10_figures_p26 fu a1 x2 x3 x4 x11 x19 u18)) else some ((-1), u13)))))) else tl_g (¬ ((u.1 a1 9) < 0 ∨ 120 ≤ (u.1 a1 9).toNatClampNeg)) (tl_let (((u.1 (a1 + 1) (u.1 a1 9).toNatClampNeg) - 48)) (fun x12 => tl_let ((x5 + (x12 * x6))) (fun x13 => tl_b2 (f10_in ((x12 : Int32).toInt64) 0 9 u) (fun x16 u15 => (if x16 = 0 then some ((-1), u15) else (if x4 < x13 then some ((-1), u15) else (if x3 ≤ ((x13 + x6) - 1) then tl_let ((tl_u u15.1 a1 9 ((u15.1 a1 9) + 1), u15.2) : tl_S) (fun u20 => tl_let ((x6 / 10)) (fun x21 => f10_figures_p26 fu a1 x2 x3 x4 x13 x21 u20)) else some ((-1), u15)))))))))))

def f10_figures (a0 : Nat) (x1 : Int32) (x2 : Int32) (x3 : Int32) (x4 : Int32) (u : tl_S) : Option (Int32 × tl_S) :=
  (if x2 = 3 then f10_figures_p26 tl_F a0 x1 x3 x4 0 100 u else (if x2 = 2 then f10_figures_p26 tl_F a0 x1 x3 x4 0 10 u else f10_figures_p26 tl_F a0 x1 x3 x4 0 1 u))

theorem l10_figures_p26 {E : tl_E}  {r : Int32} {v : tl_S} : ∀ (n : Nat) (a1 : Nat) (x2 : Int32) (x3 : Int32) (x4 : Int32) (x5 : Int32) (x6 : Int32) (u : tl_S) (d2 : Option Value) (d7 : Option Value) (d8 : Option Value), tl_T E.2.1 a1 = some 10 → f10_figures_p26 n a1 x2 x3 x4 x5 x6 u = some (r, v) → tl_R E mX10_figures tl_X0 (tl_ZB E mX10_figures (fun q w => q = some (.int r) ∧ w = v)) 0 0 (tl_HB E u) 26 [some (.ref a1), some (.int x2), d2, some (.int x3), some (.int x4), some (.int x5), some (.int x6), d7, d8] [] := by
  intro n
  induction n with
  | zero => intro a1 x2 x3 x4 x5 x6 u d2 d7 d8 h1 h; exact absurd h (by simp [f10_figures_p26])
  | succ n ih =>
    intro a1 x2 x3 x4 x5 x6 u d2 d7 d8 h1 h
    rw [f10_figures_p26] at h
    refine tl_iload dX10_figures_26 rfl (tl_if_le (tgt := 132) dX10_figures_28 (by decide) (fun c8 => ?_) (fun c8 => ?_))
    · replace h := tl_ip h c8
      refine tl_iload_n dX10_figures_132 rfl (tl_iconst (v := (-1)) dX10_figures_133 ic_m1 (tl_icmp_ne (tgt := 141) dX10_figures_134 (by decide) (fun c9 => ?_) (fun c9 => ?_)))
      · replace h := tl_in h c9
        exact tl_iload dX10_figures_141 rfl (tl_iretE dX10_figures_143 rfl rfl h)
      · replace h := tl_ip h c9
        exact tl_iconst (v := (-1)) dX10_figures_137 ic_m1 (tl_goto (tgt := 143) dX10_figures_138 (by decide) (tl_iretE dX10_figures_143 rfl rfl h))
    · replace h := tl_in h c8
      refine tl_iload_n dX10_figures_31 rfl (tl_iconst (v := (-1)) dX10_figures_32 ic_m1 (tl_icmp_eq (tgt := 132) dX10_figures_33 (by decide) (fun c9 => ?_) (fun c9 => ?_)))
      · replace h := tl_ip h c9
        refine tl_iload_n dX10_figures_132 rfl (tl_iconst (v := (-1)) dX10_figures_133 ic_m1 (tl_icmp_ne (tgt := 141) dX10_figures_134 (by decide) (fun c10 => ?_) (fun c10 => ?_)))
        · replace h := tl_in h c10
          exact tl_iload dX10_figures_141 rfl (tl_iretE dX10_figures_143 rfl rfl h)
        · replace h := tl_ip h c10
          exact tl_iconst (v := (-1)) dX10_figures_137 ic_m1 (tl_goto (tgt := 143) dX10_figures_138 (by decide) (tl_iretE dX10_figures_143 rfl rfl h))
      · replace h := tl_in h c9
        refine tl_aload_n dX10_figures_36 rfl (tl_geti (f := 9) tl_ck10 dX10_figures_37 fl_X10_156 (Nat.le_of_ble_eq_true rfl) rfl h1 (tl_aload_n dX10_figures_40 rfl (tl_geti (f := 2) tl_ck10 dX10_figures_41 fl_X10_149 (Nat.le_of_ble_eq_true rfl) rfl h1 (tl_icmp_ge (tgt := 62) dX10_figures_44 (by decide) (fun c10 => ?_) (fun c10 => ?_)))))
        · replace h := tl_ip h c10
          refine tl_iconst (v := (-1)) dX10_figures_62 ic_m1 (tl_istore dX10_figures_63 (Nat.le_of_ble_eq_true rfl) (tl_iload dX10_figures_65 rfl (tl_iload dX10_figures_67 rfl (tl_iload dX10_figures_69 rfl (tl_imul dX10_figures_71 (tl_iadd dX10_figures_72 (tl_isto dX10_figures_73 (Nat.le_of_ble_eq_true rfl) (fun x11 e => ?_))))))))
          have h := tl_leteq e h
          clear e
          obtain ⟨x14, u13, e12, h⟩ := tl_b2i h
          refine tl_iload dX10_figures_75 rfl (tl_i2l dX10_figures_77 (tl_lconst (v := 0) dX10_figures_78 lc_0 (tl_ldc2 dX10_figures_79 kl_X10_159 (tl_iS3 (l10_in  e12) dX10_figures_82 cs_X10_figures_82 ⟨rfl, rfl⟩ ⟨Nat.zero_le _, Nat.zero_le _⟩ (Nat.le_of_ble_eq_true rfl) (tl_if_eq (tgt := 106) dX10_figures_85 (by decide) (fun c15 => ?_) (fun c15 => ?_))))))
          · replace h := tl_ip h c15
            exact tl_iconst (v := (-1)) dX10_figures_106 ic_m1 (tl_iretE dX10_figures_107 rfl rfl h)
          · replace h := tl_in h c15
            refine tl_iload dX10_figures_88 rfl (tl_iload dX10_figures_90 rfl (tl_icmp_gt (tgt := 106) dX10_figures_92 (by decide) (fun c16 => ?_) (fun c16 => ?_)))
            · replace h := tl_ip h c16
              exact tl_iconst (v := (-1)) dX10_figures_106 ic_m1 (tl_iretE dX10_figures_107 rfl rfl h)
            · replace h := tl_in h c16
              refine tl_iload dX10_figures_95 rfl (tl_iload dX10_figures_97 rfl (tl_iadd dX10_figures_99 (tl_iconst (v := 1) dX10_figures_100 ic_1 (tl_isub dX10_figures_101 (tl_iload_n dX10_figures_102 rfl (tl_icmp_ge (tgt := 108) dX10_figures_103 (by decide) (fun c17 => ?_) (fun c17 => ?_)))))))
              · replace h := tl_ip h c17
                refine tl_iload dX10_figures_108 rfl (tl_istore dX10_figures_110 (Nat.le_of_ble_eq_true rfl) (tl_aload_n dX10_figures_112 rfl (tl_dup dX10_figures_113 rfl (tl_geti (f := 9) tl_ck10 dX10_figures_114 fl_X10_156 (Nat.le_of_ble_eq_true rfl) rfl h1 (tl_iconst (v := 1) dX10_figures_117 ic_1 (tl_iadd dX10_figures_118 (tl_puti (f := 9) tl_ck10 dX10_figures_119 fl_X10_156 (Nat.le_of_ble_eq_true rfl) rfl rfl rfl h1 (fun u18 e => ?_))))))))
                have h := tl_leteq e h
                clear e
                refine tl_iload dX10_figures_122 rfl (tl_bipush (v := 10) dX10_figures_124 bp_10 (tl_idiv dX10_figures_126 (by decide) (tl_isto dX10_figures_127 (Nat.le_of_ble_eq_true rfl) (fun x19 e => ?_))))
                have h := tl_leteq e h
                clear e
                refine tl_goto (tgt := 26) dX10_figures_129 (by decide) (?_)
                exact ih _ _ _ _ _ _ _ _ _ _ h1 h
              · replace h := tl_in h c17
                exact tl_iconst (v := (-1)) dX10_figures_106 ic_m1 (tl_iretE dX10_figures_107 rfl rfl h)
        · replace h := tl_in h c10
          obtain ⟨g11, h⟩ := tl_gi h
          refine tl_aload_n dX10_figures_47 rfl (tl_getr (f := 1) (o := 1) tl_ck10 dX10_figures_48 fl_X10_7 (Nat.le_of_ble_eq_true rfl) rfl h1 (tl_aload_n dX10_figures_51 rfl (tl_geti (f := 9) tl_ck10 dX10_figures_52 fl_X10_156 (Nat.le_of_ble_eq_true rfl) rfl h1 (tl_iald (j := (u.1 a1 9).toNatClampNeg) (fun _ _ => rfl) dX10_figures_55 (tt_10_1 h1) g11 rfl (tl_bipush (v := 48) dX10_figures_56 bp_48 (tl_isub dX10_figures_58 (tl_goto (tgt := 63) dX10_figures_59 (by decide) (tl_isto dX10_figures_63 (Nat.le_of_ble_eq_true rfl) (fun x12 e => ?_)))))))))
          have h := tl_leteq e h
          clear e
          refine tl_iload dX10_figures_65 rfl (tl_iload dX10_figures_67 rfl (tl_iload dX10_figures_69 rfl (tl_imul dX10_figures_71 (tl_iadd dX10_figures_72 (tl_isto dX10_figures_73 (Nat.le_of_ble_eq_true rfl) (fun x13 e => ?_))))))
          have h := tl_leteq e h
          clear e
          obtain ⟨x16, u15, e14, h⟩ := tl_b2i h
          refine tl_iload dX10_figures_75 rfl (tl_i2l dX10_figures_77 (tl_lconst (v := 0) dX10_figures_78 lc_0 (tl_ldc2 dX10_figures_79 kl_X10_159 (tl_iS3 (l10_in  e14) dX10_figures_82 cs_X10_figures_82 ⟨rfl, rfl⟩ ⟨Nat.zero_le _, Nat.zero_le _⟩ (Nat.le_of_ble_eq_true rfl) (tl_if_eq (tgt := 106) dX10_figures_85 (by decide) (fun c17 => ?_) (fun c17 => ?_))))))
          · replace h := tl_ip h c17
            exact tl_iconst (v := (-1)) dX10_figures_106 ic_m1 (tl_iretE dX10_figures_107 rfl rfl h)
          · replace h := tl_in h c17
            refine tl_iload dX10_figures_88 rfl (tl_iload dX10_figures_90 rfl (tl_icmp_gt (tgt := 106) dX10_figures_92 (by decide) (fun c18 => ?_) (fun c18 => ?_)))
            · replace h := tl_ip h c18
              exact tl_iconst (v := (-1)) dX10_figures_106 ic_m1 (tl_iretE dX10_figures_107 rfl rfl h)
            · replace h := tl_in h c18
              refine tl_iload dX10_figures_95 rfl (tl_iload dX10_figures_97 rfl (tl_iadd dX10_figures_99 (tl_iconst (v := 1) dX10_figures_100 ic_1 (tl_isub dX10_figures_101 (tl_iload_n dX10_figures_102 rfl (tl_icmp_ge (tgt := 108) dX10_figures_103 (by decide) (fun c19 => ?_) (fun c19 => ?_)))))))
              · replace h := tl_ip h c19
                refine tl_iload dX10_figures_108 rfl (tl_istore dX10_figures_110 (Nat.le_of_ble_eq_true rfl) (tl_aload_n dX10_figures_112 rfl (tl_dup dX10_figures_113 rfl (tl_geti (f := 9) tl_ck10 dX10_figures_114 fl_X10_156 (Nat.le_of_ble_eq_true rfl) rfl h1 (tl_iconst (v := 1) dX10_figures_117 ic_1 (tl_iadd dX10_figures_118 (tl_puti (f := 9) tl_ck10 dX10_figures_119 fl_X10_156 (Nat.le_of_ble_eq_true rfl) rfl rfl rfl h1 (fun u20 e => ?_))))))))
                have h := tl_leteq e h
                clear e
                refine tl_iload dX10_figures_122 rfl (tl_bipush (v := 10) dX10_figures_124 bp_10 (tl_idiv dX10_figures_126 (by decide) (tl_isto dX10_figures_127 (Nat.le_of_ble_eq_true rfl) (fun x21 e => ?_))))
                have h := tl_leteq e h
                clear e
                refine tl_goto (tgt := 26) dX10_figures_129 (by decide) (?_)
                exact ih _ _ _ _ _ _ _ _ _ _ h1 h
              · replace h := tl_in h c19
                exact tl_iconst (v := (-1)) dX10_figures_106 ic_m1 (tl_iretE dX10_figures_107 rfl rfl h)

theorem l10_figures {E : tl_E} {a0 : Nat} {x1 : Int32} {x2 : Int32} {x3 : Int32} {x4 : Int32}  {u : tl_S} {r : Int32} {v : tl_S} (h0 : tl_T E.2.1 a0 = some 10) (h : f10_figures a0 x1 x2 x3 x4 u = some (r, v)) : tl_MB E mX10_figures [.ref a0, .int x1, .int x2, .int x3, .int x4] u (fun q w => q = some (.int r) ∧ w = v) := by
  unfold f10_figures at h
  refine tl_start [some (.ref a0), some (.int x1), some (.int x2), some (.int x3), some (.int x4), none, none, none, none] rfl rfl rfl (Nat.le_of_ble_eq_true rfl) ?_
  refine tl_iconst (v := 0) dX10_figures_0 ic_0 (tl_istore dX10_figures_1 (Nat.le_of_ble_eq_true rfl) (tl_iload_n dX10_figures_3 rfl (tl_iconst (v := 3) dX10_figures_4 ic_3 (tl_icmp_ne (tgt := 13) dX10_figures_5 (by decide) (fun c6 => ?_) (fun c6 => ?_)))))
  · replace h := tl_in h c6
    refine tl_iload_n dX10_figures_13 rfl (tl_iconst (v := 2) dX10_figures_14 ic_2 (tl_icmp_ne (tgt := 23) dX10_figures_15 (by decide) (fun c7 => ?_) (fun c7 => ?_)))
    · replace h := tl_in h c7
      refine tl_iconst (v := 1) dX10_figures_23 ic_1 (tl_istore dX10_figures_24 (Nat.le_of_ble_eq_true rfl) (?_))
      exact l10_figures_p26 tl_F _ _ _ _ _ _ _ _ _ _ h0 h
    · replace h := tl_ip h c7
      refine tl_bipush (v := 10) dX10_figures_18 bp_10 (tl_goto (tgt := 24) dX10_figures_20 (by decide) (tl_istore dX10_figures_24 (Nat.le_of_ble_eq_true rfl) (?_)))
      exact l10_figures_p26 tl_F _ _ _ _ _ _ _ _ _ _ h0 h
  · replace h := tl_ip h c6
    refine tl_bipush (v := 100) dX10_figures_8 bp_100 (tl_goto (tgt := 24) dX10_figures_10 (by decide) (tl_istore dX10_figures_24 (Nat.le_of_ble_eq_true rfl) (?_)))
    exact l10_figures_p26 tl_F _ _ _ _ _ _ _ _ _ _ h0 h


def f10_done (a0 : Nat) (x1 : Int32) (u : tl_S) : Option (Int32 × tl_S) :=
  (if x1 = 0 then tl_let ((tl_u u.1 a0 10 ((u.1 a0 10) + 1), u.2) : tl_S) (fun u4 => some (1, u4)) else tl_let ((tl_u u.1 a0 10 ((u.1 a0 10) + 0), u.2) : tl_S) (fun u4 => some (1, u4)))

theorem l10_done {E : tl_E} {a0 : Nat} {x1 : Int32}  {u : tl_S} {r : Int32} {v : tl_S} (h0 : tl_T E.2.1 a0 = some 10) (h : f10_done a0 x1 u = some (r, v)) : tl_MB E mX10_done [.ref a0, .int x1] u (fun q w => q = some (.int r) ∧ w = v) := by
  unfold f10_done at h
  refine tl_start [some (.ref a0), some (.int x1)] rfl rfl rfl (Nat.le_of_ble_eq_true rfl) ?_
  refine tl_aload_n dX10_done_0 rfl (tl_dup dX10_done_1 rfl (tl_geti (f := 10) tl_ck10 dX10_done_2 fl_X10_161 (Nat.le_of_ble_eq_true rfl) rfl h0 (tl_iload_n dX10_done_5 rfl (tl_if_eq (tgt := 13) dX10_done_6 (by decide) (fun c3 => ?_) (fun c3 => ?_)))))
  · replace h := tl_ip h c3
    refine tl_iconst (v := 1) dX10_done_13 ic_1 (tl_iadd dX10_done_14 (tl_puti (f := 10) tl_ck10 dX10_done_15 fl_X10_161 (Nat.le_of_ble_eq_true rfl) rfl rfl rfl h0 (fun u4 e => ?_)))
    have h := tl_leteq e h
    clear e
    exact tl_iconst (v := 1) dX10_done_18 ic_1 (tl_iretE dX10_done_19 rfl rfl h)
  · replace h := tl_in h c3
    refine tl_iconst (v := 0) dX10_done_9 ic_0 (tl_goto (tgt := 14) dX10_done_10 (by decide) (tl_iadd dX10_done_14 (tl_puti (f := 10) tl_ck10 dX10_done_15 fl_X10_161 (Nat.le_of_ble_eq_true rfl) rfl rfl rfl h0 (fun u4 e => ?_))))
    have h := tl_leteq e h
    clear e
    exact tl_iconst (v := 1) dX10_done_18 ic_1 (tl_iretE dX10_done_19 rfl rfl h)

theorem cs_X10_gallerySign_5 : tl_cV mX10_gallerySign mX10_figures 164 4 := ⟨cd_X10_figures, ml_X10_164, im_X10_figures, se_X10_figures, in_X10, ⟨by decide, by decide, by decide +kernel⟩, Nat.le_of_ble_eq_true rfl, Nat.le_of_ble_eq_true rfl⟩
def f10_gallerySign (a0 : Nat) (x1 : Int32) (u : tl_S) : Option (Int32 × tl_S) :=
  tl_b2 (f10_figures a0 x1 1 0 2 u) (fun x5 u4 => some (x5, u4))

theorem l10_gallerySign {E : tl_E} {a0 : Nat} {x1 : Int32}  {u : tl_S} {r : Int32} {v : tl_S} (h0 : tl_T E.2.1 a0 = some 10) (h : f10_gallerySign a0 x1 u = some (r, v)) : tl_MB E mX10_gallerySign [.ref a0, .int x1] u (fun q w => q = some (.int r) ∧ w = v) := by
  unfold f10_gallerySign at h
  refine tl_start [some (.ref a0), some (.int x1)] rfl rfl rfl (Nat.le_of_ble_eq_true rfl) ?_
  obtain ⟨x5, u4, e3, h⟩ := tl_b2i h
  exact tl_aload_n dX10_gallerySign_0 rfl (tl_iload_n dX10_gallerySign_1 rfl (tl_iconst (v := 1) dX10_gallerySign_2 ic_1 (tl_iconst (v := 0) dX10_gallerySign_3 ic_0 (tl_iconst (v := 2) dX10_gallerySign_4 ic_2 (tl_iV4 tl_ck10 rfl h0 (l10_figures h0 e3) dX10_gallerySign_5 cs_X10_gallerySign_5 ⟨rfl, rfl⟩ ⟨Nat.zero_le _, Nat.zero_le _⟩ (Nat.le_of_ble_eq_true rfl) (tl_iretE dX10_gallerySign_8 rfl rfl h))))))

theorem cs_X10_cellSign_6 : tl_cV mX10_cellSign mX10_figures 164 4 := ⟨cd_X10_figures, ml_X10_164, im_X10_figures, se_X10_figures, in_X10, ⟨by decide, by decide, by decide +kernel⟩, Nat.le_of_ble_eq_true rfl, Nat.le_of_ble_eq_true rfl⟩
def f10_cellSign (a0 : Nat) (x1 : Int32) (u : tl_S) : Option (Int32 × tl_S) :=
  tl_b2 (f10_figures a0 x1 2 0 59 u) (fun x5 u4 => some (x5, u4))

theorem l10_cellSign {E : tl_E} {a0 : Nat} {x1 : Int32}  {u : tl_S} {r : Int32} {v : tl_S} (h0 : tl_T E.2.1 a0 = some 10) (h : f10_cellSign a0 x1 u = some (r, v)) : tl_MB E mX10_cellSign [.ref a0, .int x1] u (fun q w => q = some (.int r) ∧ w = v) := by
  unfold f10_cellSign at h
  refine tl_start [some (.ref a0), some (.int x1)] rfl rfl rfl (Nat.le_of_ble_eq_true rfl) ?_
  obtain ⟨x5, u4, e3, h⟩ := tl_b2i h
  exact tl_aload_n dX10_cellSign_0 rfl (tl_iload_n dX10_cellSign_1 rfl (tl_iconst (v := 2) dX10_cellSign_2 ic_2 (tl_iconst (v := 0) dX10_cellSign_3 ic_0 (tl_bipush (v := 59) dX10_cellSign_4 bp_59 (tl_iV4 tl_ck10 rfl h0 (l10_figures h0 e3) dX10_cellSign_6 cs_X10_cellSign_6 ⟨rfl, rfl⟩ ⟨Nat.zero_le _, Nat.zero_le _⟩ (Nat.le_of_ble_eq_true rfl) (tl_iretE dX10_cellSign_9 rfl rfl h))))))

theorem cs_X10_lampSign_6 : tl_cV mX10_lampSign mX10_figures 164 4 := ⟨cd_X10_figures, ml_X10_164, im_X10_figures, se_X10_figures, in_X10, ⟨by decide, by decide, by decide +kernel⟩, Nat.le_of_ble_eq_true rfl, Nat.le_of_ble_eq_true rfl⟩
def f10_lampSign (a0 : Nat) (x1 : Int32) (u : tl_S) : Option (Int32 × tl_S) :=
  tl_b2 (f10_figures a0 x1 1 0 7 u) (fun x5 u4 => some (x5, u4))

theorem l10_lampSign {E : tl_E} {a0 : Nat} {x1 : Int32}  {u : tl_S} {r : Int32} {v : tl_S} (h0 : tl_T E.2.1 a0 = some 10) (h : f10_lampSign a0 x1 u = some (r, v)) : tl_MB E mX10_lampSign [.ref a0, .int x1] u (fun q w => q = some (.int r) ∧ w = v) := by
  unfold f10_lampSign at h
  refine tl_start [some (.ref a0), some (.int x1)] rfl rfl rfl (Nat.le_of_ble_eq_true rfl) ?_
  obtain ⟨x5, u4, e3, h⟩ := tl_b2i h
  exact tl_aload_n dX10_lampSign_0 rfl (tl_iload_n dX10_lampSign_1 rfl (tl_iconst (v := 1) dX10_lampSign_2 ic_1 (tl_iconst (v := 0) dX10_lampSign_3 ic_0 (tl_bipush (v := 7) dX10_lampSign_4 bp_7 (tl_iV4 tl_ck10 rfl h0 (l10_figures h0 e3) dX10_lampSign_6 cs_X10_lampSign_6 ⟨rfl, rfl⟩ ⟨Nat.zero_le _, Nat.zero_le _⟩ (Nat.le_of_ble_eq_true rfl) (tl_iretE dX10_lampSign_9 rfl rfl h))))))

theorem cs_X10_readLamp_2 : tl_cV mX10_readLamp mX10_gallerySign 167 1 := ⟨cd_X10_gallerySign, ml_X10_167, im_X10_gallerySign, se_X10_gallerySign, in_X10, ⟨by decide, by decide, by decide +kernel⟩, Nat.le_of_ble_eq_true rfl, Nat.le_of_ble_eq_true rfl⟩
theorem cs_X10_readLamp_8 : tl_cV mX10_readLamp mX10_cellSign 171 1 := ⟨cd_X10_cellSign, ml_X10_171, im_X10_cellSign, se_X10_cellSign, in_X10, ⟨by decide, by decide, by decide +kernel⟩, Nat.le_of_ble_eq_true rfl, Nat.le_of_ble_eq_true rfl⟩
theorem cs_X10_readLamp_18 : tl_cV mX10_readLamp mX10_figures 164 4 := ⟨cd_X10_figures, ml_X10_164, im_X10_figures, se_X10_figures, in_X10, ⟨by decide, by decide, by decide +kernel⟩, Nat.le_of_ble_eq_true rfl, Nat.le_of_ble_eq_true rfl⟩
theorem cs_X10_readLamp_30 : tl_cV mX10_readLamp mX10_figures 164 4 := ⟨cd_X10_figures, ml_X10_164, im_X10_figures, se_X10_figures, in_X10, ⟨by decide, by decide, by decide +kernel⟩, Nat.le_of_ble_eq_true rfl, Nat.le_of_ble_eq_true rfl⟩
theorem cs_X10_readLamp_45 : tl_cS mX10_readLamp mX10_canLamp 174 3 := ⟨cd_X10_canLamp, ml_X10_174, sm_X10_canLamp, in_X10, ⟨by decide, by decide, by decide +kernel⟩, Nat.le_of_ble_eq_true rfl, Nat.le_of_ble_eq_true rfl⟩
theorem cs_X10_readLamp_69 : tl_cV mX10_readLamp mX10_done 180 1 := ⟨cd_X10_done, ml_X10_180, im_X10_done, se_X10_done, in_X10, ⟨by decide, by decide, by decide +kernel⟩, Nat.le_of_ble_eq_true rfl, Nat.le_of_ble_eq_true rfl⟩
theorem cs_X10_readLamp_58 : tl_cS mX10_readLamp mX10_lampOn 177 5 := ⟨cd_X10_lampOn, ml_X10_177, sm_X10_lampOn, in_X10, ⟨by decide, by decide, by decide +kernel⟩, Nat.le_of_ble_eq_true rfl, Nat.le_of_ble_eq_true rfl⟩
def f10_readLamp (a0 : Nat) (a1 : Nat) (u : tl_S) : Option (Int32 × tl_S) :=
  tl_b2 (f10_gallerySign a0 0 u) (fun x5 u4 => tl_b2 (f10_cellSign a0 x5 u4) (fun x8 u7 => tl_b2 (f10_figures a0 x8 1 1 9 u7) (fun x11 u10 => tl_b2 (f10_figures a0 x11 2 0 99 u10) (fun x14 u13 => (if x14 = (-1) then some (0, u13) else tl_b2 (f10_canLamp a1 x5 x8 u13) (fun x18 u17 => (if x18 = 0 then tl_b2 (f10_done a0 0 u17) (fun x22 u21 => (if x22 = 0 then some (0, u21) else some (1, u21))) else tl_b2 (f10_lampOn a1 x5 x8 x11 x14 u17) (fun x22 u21 => (if x22 < 0 then tl_b2 (f10_done a0 0 u21) (fun x26 u25 => (if x26 = 0 then some (0, u25) else some (1, u25))) else tl_b2 (f10_done a0 1 u21) (fun x26 u25 => (if x26 = 0 then some (0, u25) else some (1, u25))))))))))))

theorem l10_readLamp {E : tl_E} {a0 : Nat} {a1 : Nat}  {u : tl_S} {r : Int32} {v : tl_S} (h0 : tl_T E.2.1 a0 = some 10) (h1 : tl_T E.2.1 a1 = some 13) (h : f10_readLamp a0 a1 u = some (r, v)) : tl_MB E mX10_readLamp [.ref a0, .ref a1] u (fun q w => q = some (.int r) ∧ w = v) := by
  unfold f10_readLamp at h
  refine tl_start [some (.ref a0), some (.ref a1), none, none, none, none] rfl rfl rfl (Nat.le_of_ble_eq_true rfl) ?_
  obtain ⟨x5, u4, e3, h⟩ := tl_b2i h
  obtain ⟨x8, u7, e6, h⟩ := tl_b2i h
  obtain ⟨x11, u10, e9, h⟩ := tl_b2i h
  obtain ⟨x14, u13, e12, h⟩ := tl_b2i h
  refine tl_aload_n dX10_readLamp_0 rfl (tl_iconst (v := 0) dX10_readLamp_1 ic_0 (tl_iV1 tl_ck10 rfl h0 (l10_gallerySign h0 e3) dX10_readLamp_2 cs_X10_readLamp_2 ⟨rfl, rfl⟩ ⟨Nat.zero_le _, Nat.zero_le _⟩ (Nat.le_of_ble_eq_true rfl) (tl_istore_n dX10_readLamp_5 (Nat.le_of_ble_eq_true rfl) (tl_aload_n dX10_readLamp_6 rfl (tl_iload_n dX10_readLamp_7 rfl (tl_iV1 tl_ck10 rfl h0 (l10_cellSign h0 e6) dX10_readLamp_8 cs_X10_readLamp_8 ⟨rfl, rfl⟩ ⟨Nat.zero_le _, Nat.zero_le _⟩ (Nat.le_of_ble_eq_true rfl) (tl_istore_n dX10_readLamp_11 (Nat.le_of_ble_eq_true rfl) (tl_aload_n dX10_readLamp_12 rfl (tl_iload_n dX10_readLamp_13 rfl (tl_iconst (v := 1) dX10_readLamp_14 ic_1 (tl_iconst (v := 1) dX10_readLamp_15 ic_1 (tl_bipush (v := 9) dX10_readLamp_16 bp_9 (tl_iV4 tl_ck10 rfl h0 (l10_figures h0 e9) dX10_readLamp_18 cs_X10_readLamp_18 ⟨rfl, rfl⟩ ⟨Nat.zero_le _, Nat.zero_le _⟩ (Nat.le_of_ble_eq_true rfl) (tl_istore dX10_readLamp_21 (Nat.le_of_ble_eq_true rfl) (tl_aload_n dX10_readLamp_23 rfl (tl_iload dX10_readLamp_24 rfl (tl_iconst (v := 2) dX10_readLamp_26 ic_2 (tl_iconst (v := 0) dX10_readLamp_27 ic_0 (tl_bipush (v := 99) dX10_readLamp_28 bp_99 (tl_iV4 tl_ck10 rfl h0 (l10_figures h0 e12) dX10_readLamp_30 cs_X10_readLamp_30 ⟨rfl, rfl⟩ ⟨Nat.zero_le _, Nat.zero_le _⟩ (Nat.le_of_ble_eq_true rfl) (tl_istore dX10_readLamp_33 (Nat.le_of_ble_eq_true rfl) (tl_iload dX10_readLamp_35 rfl (tl_iconst (v := (-1)) dX10_readLamp_37 ic_m1 (tl_icmp_eq (tgt := 79) dX10_readLamp_38 (by decide) (fun c15 => ?_) (fun c15 => ?_)))))))))))))))))))))))))
  · replace h := tl_ip h c15
    exact tl_iconst (v := 0) dX10_readLamp_79 ic_0 (tl_iretE dX10_readLamp_80 rfl rfl h)
  · replace h := tl_in h c15
    obtain ⟨x18, u17, e16, h⟩ := tl_b2i h
    refine tl_aload_n dX10_readLamp_41 rfl (tl_aload_n dX10_readLamp_42 rfl (tl_iload_n dX10_readLamp_43 rfl (tl_iload_n dX10_readLamp_44 rfl (tl_iS3 (l10_canLamp h1 e16) dX10_readLamp_45 cs_X10_readLamp_45 ⟨rfl, rfl⟩ ⟨Nat.zero_le _, Nat.zero_le _⟩ (Nat.le_of_ble_eq_true rfl) (tl_if_eq (tgt := 68) dX10_readLamp_48 (by decide) (fun c19 => ?_) (fun c19 => ?_))))))
    · replace h := tl_ip h c19
      obtain ⟨x22, u21, e20, h⟩ := tl_b2i h
      refine tl_iconst (v := 0) dX10_readLamp_68 ic_0 (tl_iV1 tl_ck10 rfl h0 (l10_done h0 e20) dX10_readLamp_69 cs_X10_readLamp_69 ⟨rfl, rfl⟩ ⟨Nat.zero_le _, Nat.zero_le _⟩ (Nat.le_of_ble_eq_true rfl) (tl_if_eq (tgt := 79) dX10_readLamp_72 (by decide) (fun c23 => ?_) (fun c23 => ?_)))
      · replace h := tl_ip h c23
        exact tl_iconst (v := 0) dX10_readLamp_79 ic_0 (tl_iretE dX10_readLamp_80 rfl rfl h)
      · replace h := tl_in h c23
        exact tl_iconst (v := 1) dX10_readLamp_75 ic_1 (tl_goto (tgt := 80) dX10_readLamp_76 (by decide) (tl_iretE dX10_readLamp_80 rfl rfl h))
    · replace h := tl_in h c19
      obtain ⟨x22, u21, e20, h⟩ := tl_b2i h
      refine tl_aload_n dX10_readLamp_51 rfl (tl_iload_n dX10_readLamp_52 rfl (tl_iload_n dX10_readLamp_53 rfl (tl_iload dX10_readLamp_54 rfl (tl_iload dX10_readLamp_56 rfl (tl_iS5 (l10_lampOn h1 e20) dX10_readLamp_58 cs_X10_readLamp_58 ⟨rfl, rfl⟩ ⟨Nat.zero_le _, Nat.zero_le _⟩ (Nat.le_of_ble_eq_true rfl) (tl_if_lt (tgt := 68) dX10_readLamp_61 (by decide) (fun c23 => ?_) (fun c23 => ?_)))))))
      · replace h := tl_ip h c23
        obtain ⟨x26, u25, e24, h⟩ := tl_b2i h
        refine tl_iconst (v := 0) dX10_readLamp_68 ic_0 (tl_iV1 tl_ck10 rfl h0 (l10_done h0 e24) dX10_readLamp_69 cs_X10_readLamp_69 ⟨rfl, rfl⟩ ⟨Nat.zero_le _, Nat.zero_le _⟩ (Nat.le_of_ble_eq_true rfl) (tl_if_eq (tgt := 79) dX10_readLamp_72 (by decide) (fun c27 => ?_) (fun c27 => ?_)))
        · replace h := tl_ip h c27
          exact tl_iconst (v := 0) dX10_readLamp_79 ic_0 (tl_iretE dX10_readLamp_80 rfl rfl h)
        · replace h := tl_in h c27
          exact tl_iconst (v := 1) dX10_readLamp_75 ic_1 (tl_goto (tgt := 80) dX10_readLamp_76 (by decide) (tl_iretE dX10_readLamp_80 rfl rfl h))
      · replace h := tl_in h c23
        obtain ⟨x26, u25, e24, h⟩ := tl_b2i h
        refine tl_iconst (v := 1) dX10_readLamp_64 ic_1 (tl_goto (tgt := 69) dX10_readLamp_65 (by decide) (tl_iV1 tl_ck10 rfl h0 (l10_done h0 e24) dX10_readLamp_69 cs_X10_readLamp_69 ⟨rfl, rfl⟩ ⟨Nat.zero_le _, Nat.zero_le _⟩ (Nat.le_of_ble_eq_true rfl) (tl_if_eq (tgt := 79) dX10_readLamp_72 (by decide) (fun c27 => ?_) (fun c27 => ?_))))
        · replace h := tl_ip h c27
          exact tl_iconst (v := 0) dX10_readLamp_79 ic_0 (tl_iretE dX10_readLamp_80 rfl rfl h)
        · replace h := tl_in h c27
          exact tl_iconst (v := 1) dX10_readLamp_75 ic_1 (tl_goto (tgt := 80) dX10_readLamp_76 (by decide) (tl_iretE dX10_readLamp_80 rfl rfl h))

theorem cs_X10_readHang_2 : tl_cV mX10_readHang mX10_lampSign 184 1 := ⟨cd_X10_lampSign, ml_X10_184, im_X10_lampSign, se_X10_lampSign, in_X10, ⟨by decide, by decide, by decide +kernel⟩, Nat.le_of_ble_eq_true rfl, Nat.le_of_ble_eq_true rfl⟩
theorem cs_X10_readHang_8 : tl_cV mX10_readHang mX10_gallerySign 167 1 := ⟨cd_X10_gallerySign, ml_X10_167, im_X10_gallerySign, se_X10_gallerySign, in_X10, ⟨by decide, by decide, by decide +kernel⟩, Nat.le_of_ble_eq_true rfl, Nat.le_of_ble_eq_true rfl⟩
theorem cs_X10_readHang_14 : tl_cV mX10_readHang mX10_cellSign 171 1 := ⟨cd_X10_cellSign, ml_X10_171, im_X10_cellSign, se_X10_cellSign, in_X10, ⟨by decide, by decide, by decide +kernel⟩, Nat.le_of_ble_eq_true rfl, Nat.le_of_ble_eq_true rfl⟩
theorem cs_X10_readHang_31 : tl_cS mX10_readHang mX10_canHang 187 4 := ⟨cd_X10_canHang, ml_X10_187, sm_X10_canHang, in_X10, ⟨by decide, by decide, by decide +kernel⟩, Nat.le_of_ble_eq_true rfl, Nat.le_of_ble_eq_true rfl⟩
theorem cs_X10_readHang_54 : tl_cV mX10_readHang mX10_done 180 1 := ⟨cd_X10_done, ml_X10_180, im_X10_done, se_X10_done, in_X10, ⟨by decide, by decide, by decide +kernel⟩, Nat.le_of_ble_eq_true rfl, Nat.le_of_ble_eq_true rfl⟩
theorem cs_X10_readHang_43 : tl_cS mX10_readHang mX10_orderOn 120 5 := ⟨cd_X10_orderOn, ml_X10_120, sm_X10_orderOn, in_X10, ⟨by decide, by decide, by decide +kernel⟩, Nat.le_of_ble_eq_true rfl, Nat.le_of_ble_eq_true rfl⟩
def f10_readHang (a0 : Nat) (a1 : Nat) (u : tl_S) : Option (Int32 × tl_S) :=
  tl_b2 (f10_lampSign a0 0 u) (fun x5 u4 => tl_b2 (f10_gallerySign a0 x5 u4) (fun x8 u7 => tl_b2 (f10_cellSign a0 x8 u7) (fun x11 u10 => (if x11 = (-1) then some (0, u10) else tl_b2 (f10_canHang a1 x5 x8 x11 u10) (fun x15 u14 => (if x15 = 0 then tl_b2 (f10_done a0 0 u14) (fun x19 u18 => (if x19 = 0 then some (0, u18) else some (1, u18))) else tl_b2 (f10_orderOn a1 0 x5 x8 x11 u14) (fun x19 u18 => (if x19 ≤ 0 then tl_b2 (f10_done a0 0 u18) (fun x23 u22 => (if x23 = 0 then some (0, u22) else some (1, u22))) else tl_b2 (f10_done a0 1 u18) (fun x23 u22 => (if x23 = 0 then some (0, u22) else some (1, u22)))))))))))

theorem l10_readHang {E : tl_E} {a0 : Nat} {a1 : Nat}  {u : tl_S} {r : Int32} {v : tl_S} (h0 : tl_T E.2.1 a0 = some 10) (h1 : tl_T E.2.1 a1 = some 13) (h : f10_readHang a0 a1 u = some (r, v)) : tl_MB E mX10_readHang [.ref a0, .ref a1] u (fun q w => q = some (.int r) ∧ w = v) := by
  unfold f10_readHang at h
  refine tl_start [some (.ref a0), some (.ref a1), none, none, none] rfl rfl rfl (Nat.le_of_ble_eq_true rfl) ?_
  obtain ⟨x5, u4, e3, h⟩ := tl_b2i h
  obtain ⟨x8, u7, e6, h⟩ := tl_b2i h
  obtain ⟨x11, u10, e9, h⟩ := tl_b2i h
  refine tl_aload_n dX10_readHang_0 rfl (tl_iconst (v := 0) dX10_readHang_1 ic_0 (tl_iV1 tl_ck10 rfl h0 (l10_lampSign h0 e3) dX10_readHang_2 cs_X10_readHang_2 ⟨rfl, rfl⟩ ⟨Nat.zero_le _, Nat.zero_le _⟩ (Nat.le_of_ble_eq_true rfl) (tl_istore_n dX10_readHang_5 (Nat.le_of_ble_eq_true rfl) (tl_aload_n dX10_readHang_6 rfl (tl_iload_n dX10_readHang_7 rfl (tl_iV1 tl_ck10 rfl h0 (l10_gallerySign h0 e6) dX10_readHang_8 cs_X10_readHang_8 ⟨rfl, rfl⟩ ⟨Nat.zero_le _, Nat.zero_le _⟩ (Nat.le_of_ble_eq_true rfl) (tl_istore_n dX10_readHang_11 (Nat.le_of_ble_eq_true rfl) (tl_aload_n dX10_readHang_12 rfl (tl_iload_n dX10_readHang_13 rfl (tl_iV1 tl_ck10 rfl h0 (l10_cellSign h0 e9) dX10_readHang_14 cs_X10_readHang_14 ⟨rfl, rfl⟩ ⟨Nat.zero_le _, Nat.zero_le _⟩ (Nat.le_of_ble_eq_true rfl) (tl_istore dX10_readHang_17 (Nat.le_of_ble_eq_true rfl) (tl_iload dX10_readHang_19 rfl (tl_iconst (v := (-1)) dX10_readHang_21 ic_m1 (tl_icmp_eq (tgt := 64) dX10_readHang_22 (by decide) (fun c12 => ?_) (fun c12 => ?_)))))))))))))))
  · replace h := tl_ip h c12
    exact tl_iconst (v := 0) dX10_readHang_64 ic_0 (tl_iretE dX10_readHang_65 rfl rfl h)
  · replace h := tl_in h c12
    obtain ⟨x15, u14, e13, h⟩ := tl_b2i h
    refine tl_aload_n dX10_readHang_25 rfl (tl_aload_n dX10_readHang_26 rfl (tl_iload_n dX10_readHang_27 rfl (tl_iload_n dX10_readHang_28 rfl (tl_iload dX10_readHang_29 rfl (tl_iS4 (l10_canHang h1 e13) dX10_readHang_31 cs_X10_readHang_31 ⟨rfl, rfl⟩ ⟨Nat.zero_le _, Nat.zero_le _⟩ (Nat.le_of_ble_eq_true rfl) (tl_if_eq (tgt := 53) dX10_readHang_34 (by decide) (fun c16 => ?_) (fun c16 => ?_)))))))
    · replace h := tl_ip h c16
      obtain ⟨x19, u18, e17, h⟩ := tl_b2i h
      refine tl_iconst (v := 0) dX10_readHang_53 ic_0 (tl_iV1 tl_ck10 rfl h0 (l10_done h0 e17) dX10_readHang_54 cs_X10_readHang_54 ⟨rfl, rfl⟩ ⟨Nat.zero_le _, Nat.zero_le _⟩ (Nat.le_of_ble_eq_true rfl) (tl_if_eq (tgt := 64) dX10_readHang_57 (by decide) (fun c20 => ?_) (fun c20 => ?_)))
      · replace h := tl_ip h c20
        exact tl_iconst (v := 0) dX10_readHang_64 ic_0 (tl_iretE dX10_readHang_65 rfl rfl h)
      · replace h := tl_in h c20
        exact tl_iconst (v := 1) dX10_readHang_60 ic_1 (tl_goto (tgt := 65) dX10_readHang_61 (by decide) (tl_iretE dX10_readHang_65 rfl rfl h))
    · replace h := tl_in h c16
      obtain ⟨x19, u18, e17, h⟩ := tl_b2i h
      refine tl_aload_n dX10_readHang_37 rfl (tl_iconst (v := 0) dX10_readHang_38 ic_0 (tl_iload_n dX10_readHang_39 rfl (tl_iload_n dX10_readHang_40 rfl (tl_iload dX10_readHang_41 rfl (tl_iS5 (l10_orderOn h1 e17) dX10_readHang_43 cs_X10_readHang_43 ⟨rfl, rfl⟩ ⟨Nat.zero_le _, Nat.zero_le _⟩ (Nat.le_of_ble_eq_true rfl) (tl_if_le (tgt := 53) dX10_readHang_46 (by decide) (fun c20 => ?_) (fun c20 => ?_)))))))
      · replace h := tl_ip h c20
        obtain ⟨x23, u22, e21, h⟩ := tl_b2i h
        refine tl_iconst (v := 0) dX10_readHang_53 ic_0 (tl_iV1 tl_ck10 rfl h0 (l10_done h0 e21) dX10_readHang_54 cs_X10_readHang_54 ⟨rfl, rfl⟩ ⟨Nat.zero_le _, Nat.zero_le _⟩ (Nat.le_of_ble_eq_true rfl) (tl_if_eq (tgt := 64) dX10_readHang_57 (by decide) (fun c24 => ?_) (fun c24 => ?_)))
        · replace h := tl_ip h c24
          exact tl_iconst (v := 0) dX10_readHang_64 ic_0 (tl_iretE dX10_readHang_65 rfl rfl h)
        · replace h := tl_in h c24
          exact tl_iconst (v := 1) dX10_readHang_60 ic_1 (tl_goto (tgt := 65) dX10_readHang_61 (by decide) (tl_iretE dX10_readHang_65 rfl rfl h))
      · replace h := tl_in h c20
        obtain ⟨x23, u22, e21, h⟩ := tl_b2i h
        refine tl_iconst (v := 1) dX10_readHang_49 ic_1 (tl_goto (tgt := 54) dX10_readHang_50 (by decide) (tl_iV1 tl_ck10 rfl h0 (l10_done h0 e21) dX10_readHang_54 cs_X10_readHang_54 ⟨rfl, rfl⟩ ⟨Nat.zero_le _, Nat.zero_le _⟩ (Nat.le_of_ble_eq_true rfl) (tl_if_eq (tgt := 64) dX10_readHang_57 (by decide) (fun c24 => ?_) (fun c24 => ?_))))
        · replace h := tl_ip h c24
          exact tl_iconst (v := 0) dX10_readHang_64 ic_0 (tl_iretE dX10_readHang_65 rfl rfl h)
        · replace h := tl_in h c24
          exact tl_iconst (v := 1) dX10_readHang_60 ic_1 (tl_goto (tgt := 65) dX10_readHang_61 (by decide) (tl_iretE dX10_readHang_65 rfl rfl h))

theorem cs_X10_readCommand_355 : tl_cV mX10_readCommand mX10_figures 164 4 := ⟨cd_X10_figures, ml_X10_164, im_X10_figures, se_X10_figures, in_X10, ⟨by decide, by decide, by decide +kernel⟩, Nat.le_of_ble_eq_true rfl, Nat.le_of_ble_eq_true rfl⟩
theorem cs_X10_readCommand_289 : tl_cV mX10_readCommand mX10_lampSign 184 1 := ⟨cd_X10_lampSign, ml_X10_184, im_X10_lampSign, se_X10_lampSign, in_X10, ⟨by decide, by decide, by decide +kernel⟩, Nat.le_of_ble_eq_true rfl, Nat.le_of_ble_eq_true rfl⟩
theorem cs_X10_readCommand_299 : tl_cV mX10_readCommand mX10_figures 164 4 := ⟨cd_X10_figures, ml_X10_164, im_X10_figures, se_X10_figures, in_X10, ⟨by decide, by decide, by decide +kernel⟩, Nat.le_of_ble_eq_true rfl, Nat.le_of_ble_eq_true rfl⟩
theorem cs_X10_readCommand_315 : tl_cS mX10_readCommand mX10_canFill 208 3 := ⟨cd_X10_canFill, ml_X10_208, sm_X10_canFill, in_X10, ⟨by decide, by decide, by decide +kernel⟩, Nat.le_of_ble_eq_true rfl, Nat.le_of_ble_eq_true rfl⟩
theorem cs_X10_readCommand_338 : tl_cV mX10_readCommand mX10_done 180 1 := ⟨cd_X10_done, ml_X10_180, im_X10_done, se_X10_done, in_X10, ⟨by decide, by decide, by decide +kernel⟩, Nat.le_of_ble_eq_true rfl, Nat.le_of_ble_eq_true rfl⟩
theorem cs_X10_readCommand_327 : tl_cS mX10_readCommand mX10_orderOn 120 5 := ⟨cd_X10_orderOn, ml_X10_120, sm_X10_orderOn, in_X10, ⟨by decide, by decide, by decide +kernel⟩, Nat.le_of_ble_eq_true rfl, Nat.le_of_ble_eq_true rfl⟩
theorem cs_X10_readCommand_122 : tl_cV mX10_readCommand mX10_figures 164 4 := ⟨cd_X10_figures, ml_X10_164, im_X10_figures, se_X10_figures, in_X10, ⟨by decide, by decide, by decide +kernel⟩, Nat.le_of_ble_eq_true rfl, Nat.le_of_ble_eq_true rfl⟩
theorem cs_X10_readCommand_152 : tl_cV mX10_readCommand mX10_done 180 1 := ⟨cd_X10_done, ml_X10_180, im_X10_done, se_X10_done, in_X10, ⟨by decide, by decide, by decide +kernel⟩, Nat.le_of_ble_eq_true rfl, Nat.le_of_ble_eq_true rfl⟩
theorem cs_X10_readCommand_141 : tl_cS mX10_readCommand mX10_galleryOn 190 2 := ⟨cd_X10_galleryOn, ml_X10_190, sm_X10_galleryOn, in_X10, ⟨by decide, by decide, by decide +kernel⟩, Nat.le_of_ble_eq_true rfl, Nat.le_of_ble_eq_true rfl⟩
theorem cs_X10_readCommand_283 : tl_cV mX10_readCommand mX10_readHang 205 1 := ⟨cd_X10_readHang, ml_X10_205, im_X10_readHang, se_X10_readHang, in_X10, ⟨by decide, by decide, by decide +kernel⟩, Nat.le_of_ble_eq_true rfl, Nat.le_of_ble_eq_true rfl⟩
theorem cs_X10_readCommand_224 : tl_cV mX10_readCommand mX10_readLamp 199 1 := ⟨cd_X10_readLamp, ml_X10_199, im_X10_readLamp, se_X10_readLamp, in_X10, ⟨by decide, by decide, by decide +kernel⟩, Nat.le_of_ble_eq_true rfl, Nat.le_of_ble_eq_true rfl⟩
theorem cs_X10_readCommand_166 : tl_cV mX10_readCommand mX10_gallerySign 167 1 := ⟨cd_X10_gallerySign, ml_X10_167, im_X10_gallerySign, se_X10_gallerySign, in_X10, ⟨by decide, by decide, by decide +kernel⟩, Nat.le_of_ble_eq_true rfl, Nat.le_of_ble_eq_true rfl⟩
theorem cs_X10_readCommand_175 : tl_cV mX10_readCommand mX10_figures 164 4 := ⟨cd_X10_figures, ml_X10_164, im_X10_figures, se_X10_figures, in_X10, ⟨by decide, by decide, by decide +kernel⟩, Nat.le_of_ble_eq_true rfl, Nat.le_of_ble_eq_true rfl⟩
theorem cs_X10_readCommand_189 : tl_cS mX10_readCommand mX10_canMiner 193 2 := ⟨cd_X10_canMiner, ml_X10_193, sm_X10_canMiner, in_X10, ⟨by decide, by decide, by decide +kernel⟩, Nat.le_of_ble_eq_true rfl, Nat.le_of_ble_eq_true rfl⟩
theorem cs_X10_readCommand_210 : tl_cV mX10_readCommand mX10_done 180 1 := ⟨cd_X10_done, ml_X10_180, im_X10_done, se_X10_done, in_X10, ⟨by decide, by decide, by decide +kernel⟩, Nat.le_of_ble_eq_true rfl, Nat.le_of_ble_eq_true rfl⟩
theorem cs_X10_readCommand_199 : tl_cS mX10_readCommand mX10_minerOn 196 3 := ⟨cd_X10_minerOn, ml_X10_196, sm_X10_minerOn, in_X10, ⟨by decide, by decide, by decide +kernel⟩, Nat.le_of_ble_eq_true rfl, Nat.le_of_ble_eq_true rfl⟩
theorem cs_X10_readCommand_235 : tl_cV mX10_readCommand mX10_figures 164 4 := ⟨cd_X10_figures, ml_X10_164, im_X10_figures, se_X10_figures, in_X10, ⟨by decide, by decide, by decide +kernel⟩, Nat.le_of_ble_eq_true rfl, Nat.le_of_ble_eq_true rfl⟩
theorem cs_X10_readCommand_269 : tl_cV mX10_readCommand mX10_done 180 1 := ⟨cd_X10_done, ml_X10_180, im_X10_done, se_X10_done, in_X10, ⟨by decide, by decide, by decide +kernel⟩, Nat.le_of_ble_eq_true rfl, Nat.le_of_ble_eq_true rfl⟩
theorem cs_X10_readCommand_258 : tl_cS mX10_readCommand mX10_storeOn 202 2 := ⟨cd_X10_storeOn, ml_X10_202, sm_X10_storeOn, in_X10, ⟨by decide, by decide, by decide +kernel⟩, Nat.le_of_ble_eq_true rfl, Nat.le_of_ble_eq_true rfl⟩
theorem cs_X10_readCommand_393 : tl_cV mX10_readCommand mX10_figures 164 4 := ⟨cd_X10_figures, ml_X10_164, im_X10_figures, se_X10_figures, in_X10, ⟨by decide, by decide, by decide +kernel⟩, Nat.le_of_ble_eq_true rfl, Nat.le_of_ble_eq_true rfl⟩
theorem cs_X10_readCommand_405 : tl_cS mX10_readCommand mX10_hoursOn 211 2 := ⟨cd_X10_hoursOn, ml_X10_211, sm_X10_hoursOn, in_X10, ⟨by decide, by decide, by decide +kernel⟩, Nat.le_of_ble_eq_true rfl, Nat.le_of_ble_eq_true rfl⟩
theorem cs_X10_readCommand_416 : tl_cV mX10_readCommand mX10_done 180 1 := ⟨cd_X10_done, ml_X10_180, im_X10_done, se_X10_done, in_X10, ⟨by decide, by decide, by decide +kernel⟩, Nat.le_of_ble_eq_true rfl, Nat.le_of_ble_eq_true rfl⟩
def f10_readCommand (a0 : Nat) (a1 : Nat) (u : tl_S) : Option (Int32 × tl_S) :=
  tl_g (¬ ((u.1 a0 9) < 0 ∨ 120 ≤ (u.1 a0 9).toNatClampNeg)) (tl_let ((u.1 (a0 + 1) (u.1 a0 9).toNatClampNeg)) (fun x4 => tl_let ((tl_u u.1 a0 9 ((u.1 a0 9) + 1), u.2) : tl_S) (fun u5 => (if x4.toInt < 97 ∨ 116 < x4.toInt then tl_let ((tl_u u5.1 a0 9 ((u5.1 a0 9) - 1), u5.2) : tl_S) (fun u8 => some (0, u8)) else (if x4.toInt = 97 then tl_b2 (f10_figures a0 0 1 0 1 u5) (fun x10 u9 => (if x10 = (-1) then tl_let ((tl_u u9.1 a1 17 (u9.1 a1 17), u9.2) : tl_S) (fun u12 => (if x10 = (-1) then some (0, u12) else some (1, u12))) else tl_let ((tl_u u9.1 a1 17 x10, u9.2) : tl_S) (fun u12 => (if x10 = (-1) then some (0, u12) else some (1, u12))))) else (if x4.toInt = 98 then tl_let ((tl_u u5.1 a0 9 ((u5.1 a0 9) - 1), u5.2) : tl_S) (fun u8 => some (0, u8)) else (if x4.toInt = 99 then tl_let ((tl_u u5.1 a0 9 ((u5.1 a0 9) - 1), u5.2) : tl_S) (fun u8 => some (0, u8)) else (if x4.toInt = 100 then tl_let ((tl_u u5.1 a0 9 ((u5.1 a0 9) - 1), u5.2) : tl_S) (fun u8 => some (0, u8)) else (if x4.toInt = 101 then tl_let ((tl_u u5.1 a0 9 ((u5.1 a0 9) - 1), u5.2) : tl_S) (fun u8 => some (0, u8)) else (if x4.toInt = 102 then tl_b2 (f10_lampSign a0 0 u5) (fun x10 u9 => tl_b2 (f10_figures a0 x10 2 1 99 u9) (fun x13 u12 => (if x13 = (-1) then some (0, u12) else tl_b2 (f10_canFill a1 x10 x13 u12) (fun x17 u16 => (if x17 = 0 then tl_b2 (f10_done a0 0 u16) (fun x21 u20 => (if x21 = 0 then some (0, u20) else some (1, u20))) else tl_b2 (f10_orderOn a1 1 x10 x13 (-1) u16) (fun x21 u20 => (if x21 ≤ 0 then tl_b2 (f10_done a0 0 u20) (fun x25 u24 => (if x25 = 0 then some (0, u24) else some (1, u24))) else tl_b2 (f10_done a0 1 u20) (fun x25 u24 => (if x25 = 0 then some (0, u24) else some (1, u24)))))))))) else (if x4.toInt = 103 then tl_b2 (f10_figures a0 0 2 1 60 u5) (fun x10 u9 => (if x10 = (-1) then some (0, u9) else (if 3 ≤ (u9.1 a1 0) then tl_b2 (f10_done a0 0 u9) (fun x15 u14 => (if x15 = 0 then some (0, u14) else some (1, u14))) else tl_b2 (f10_galleryOn a1 x10 u9) (fun x15 u14 => (if x15 < 0 then tl_b2 (f10_done a0 0 u14) (fun x19 u18 => (if x19 = 0 then some (0, u18) else some (1, u18))) else tl_b2 (f10_done a0 1 u14) (fun x19 u18 => (if x19 = 0 then some (0, u18) else some (1, u18)))))))) else (if x4.toInt = 104 then tl_b2 (f10_readHang a0 a1 u5) (fun x10 u9 => tl_g (x10 = 0 ∨ x10 = 1) (some (x10, u9))) else (if x4.toInt = 105 then tl_let ((tl_u u5.1 a0 9 ((u5.1 a0 9) - 1), u5.2) : tl_S) (fun u8 => some (0, u8)) else (if x4.toInt = 106 then tl_let ((tl_u u5.1 a0 9 ((u5.1 a0 9) - 1), u5.2) : tl_S) (fun u8 => some (0, u8)) else (if x4.toInt = 107 then tl_let ((tl_u u5.1 a0 9 ((u5.1 a0 9) - 1), u5.2) : tl_S) (fun u8 => some (0, u8)) else (if x4.toInt = 108 then tl_b2 (f10_readLamp a0 a1 u5) (fun x10 u9 => tl_g (x10 = 0 ∨ x10 = 1) (some (x10, u9))) else (if x4.toInt = 109 then tl_b2 (f10_gallerySign a0 0 u5) (fun x10 u9 => tl_b2 (f10_figures a0 x10 1 1 5 u9) (fun x13 u12 => (if x13 = (-1) then some (0, u12) else tl_b2 (f10_canMiner a1 x10 u12) (fun x17 u16 => (if x17 = 0 then tl_b2 (f10_done a0 0 u16) (fun x21 u20 => (if x21 = 0 then some (0, u20) else some (1, u20))) else tl_b2 (f10_minerOn a1 x10 x13 u16) (fun x21 u20 => (if x21 < 0 then tl_b2 (f10_done a0 0 u20) (fun x25 u24 => (if x25 = 0 then some (0, u24) else some (1, u24))) else tl_b2 (f10_done a0 1 u20) (fun x25 u24 => (if x25 = 0 then some (0, u24) else some (1, u24)))))))))) else (if x4.toInt = 110 then tl_let ((tl_u u5.1 a0 9 ((u5.1 a0 9) - 1), u5.2) : tl_S) (fun u8 => some (0, u8)) else (if x4.toInt = 111 then tl_let ((tl_u u5.1 a0 9 ((u5.1 a0 9) - 1), u5.2) : tl_S) (fun u8 => some (0, u8)) else (if x4.toInt = 112 then tl_let ((tl_u u5.1 a0 9 ((u5.1 a0 9) - 1), u5.2) : tl_S) (fun u8 => some (0, u8)) else (if x4.toInt = 113 then tl_let ((tl_u u5.1 a0 9 ((u5.1 a0 9) - 1), u5.2) : tl_S) (fun u8 => some (0, u8)) else (if x4.toInt = 114 then tl_let ((tl_u u5.1 a0 9 ((u5.1 a0 9) - 1), u5.2) : tl_S) (fun u8 => some (0, u8)) else (if x4.toInt = 115 then tl_b2 (f10_figures a0 0 3 0 999 u5) (fun x10 u9 => (if x10 = (-1) then some (0, u9) else (if 9999 < ((u9.1 a1 4) + x10) then tl_b2 (f10_done a0 0 u9) (fun x15 u14 => (if x15 = 0 then some (0, u14) else some (1, u14))) else tl_b2 (f10_storeOn a1 x10 u9) (fun x15 u14 => (if x15 < 0 then tl_b2 (f10_done a0 0 u14) (fun x19 u18 => (if x19 = 0 then some (0, u18) else some (1, u18))) else tl_b2 (f10_done a0 1 u14) (fun x19 u18 => (if x19 = 0 then some (0, u18) else some (1, u18)))))))) else tl_b2 (f10_figures a0 0 2 1 60 u5) (fun x10 u9 => (if x10 = (-1) then some (0, u9) else tl_b2 (f10_hoursOn a1 x10 u9) (fun x14 u13 => (if x14 < 0 then tl_b2 (f10_done a0 0 u13) (fun x18 u17 => (if x18 = 0 then some (0, u17) else some (1, u17))) else tl_b2 (f10_done a0 1 u13) (fun x18 u17 => (if x18 = 0 then some (0, u17) else some (1, u17))))))))))))))))))))))))))))))

theorem l10_readCommand {E : tl_E} {a0 : Nat} {a1 : Nat}  {u : tl_S} {r : Int32} {v : tl_S} (h0 : tl_T E.2.1 a0 = some 10) (h1 : tl_T E.2.1 a1 = some 13) (h : f10_readCommand a0 a1 u = some (r, v)) : tl_MB E mX10_readCommand [.ref a0, .ref a1] u (fun q w => q = some (.int r) ∧ w = v) := by
  unfold f10_readCommand at h
  refine tl_start [some (.ref a0), some (.ref a1), none, none, none] rfl rfl rfl (Nat.le_of_ble_eq_true rfl) ?_
  obtain ⟨g3, h⟩ := tl_gi h
  refine tl_aload_n dX10_readCommand_0 rfl (tl_getr (f := 1) (o := 1) tl_ck10 dX10_readCommand_1 fl_X10_7 (Nat.le_of_ble_eq_true rfl) rfl h0 (tl_aload_n dX10_readCommand_4 rfl (tl_geti (f := 9) tl_ck10 dX10_readCommand_5 fl_X10_156 (Nat.le_of_ble_eq_true rfl) rfl h0 (tl_iald (j := (u.1 a0 9).toNatClampNeg) (fun _ _ => rfl) dX10_readCommand_8 (tt_10_1 h0) g3 rfl (tl_isto_n dX10_readCommand_9 (Nat.le_of_ble_eq_true rfl) (fun x4 e => ?_))))))
  have h := tl_leteq e h
  clear e
  refine tl_aload_n dX10_readCommand_10 rfl (tl_dup dX10_readCommand_11 rfl (tl_geti (f := 9) tl_ck10 dX10_readCommand_12 fl_X10_156 (Nat.le_of_ble_eq_true rfl) rfl h0 (tl_iconst (v := 1) dX10_readCommand_15 ic_1 (tl_iadd dX10_readCommand_16 (tl_puti (f := 9) tl_ck10 dX10_readCommand_17 fl_X10_156 (Nat.le_of_ble_eq_true rfl) rfl rfl rfl h0 (fun u5 e => ?_))))))
  have h := tl_leteq e h
  clear e
  refine tl_iload_n dX10_readCommand_20 rfl (?_)
  by_cases c6 : x4.toInt < 97 ∨ 116 < x4.toInt
  · replace h := tl_ip h c6
    refine tl_tableOut (tgt := 428) dX10_readCommand_21 c6 (by decide) ?_
    refine tl_aload_n dX10_readCommand_428 rfl (tl_dup dX10_readCommand_429 rfl (tl_geti (f := 9) tl_ck10 dX10_readCommand_430 fl_X10_156 (Nat.le_of_ble_eq_true rfl) rfl h0 (tl_iconst (v := 1) dX10_readCommand_433 ic_1 (tl_isub dX10_readCommand_434 (tl_puti (f := 9) tl_ck10 dX10_readCommand_435 fl_X10_156 (Nat.le_of_ble_eq_true rfl) rfl rfl rfl h0 (fun u8 e => ?_))))))
    have h := tl_leteq e h
    clear e
    exact tl_iconst (v := 0) dX10_readCommand_438 ic_0 (tl_iretE dX10_readCommand_439 rfl rfl h)
  replace h := tl_in h c6
  by_cases c7_97 : x4.toInt = 97
  · replace h := tl_ip h c7_97
    refine tl_tableIn (off := 329) (tgt := 350) dX10_readCommand_21 (by omega) (by omega) (by rw [c7_97]; rfl) (by decide) ?_
    obtain ⟨x10, u9, e8, h⟩ := tl_b2i h
    refine tl_aload_n dX10_readCommand_350 rfl (tl_iconst (v := 0) dX10_readCommand_351 ic_0 (tl_iconst (v := 1) dX10_readCommand_352 ic_1 (tl_iconst (v := 0) dX10_readCommand_353 ic_0 (tl_iconst (v := 1) dX10_readCommand_354 ic_1 (tl_iV4 tl_ck10 rfl h0 (l10_figures h0 e8) dX10_readCommand_355 cs_X10_readCommand_355 ⟨rfl, rfl⟩ ⟨Nat.zero_le _, Nat.zero_le _⟩ (Nat.le_of_ble_eq_true rfl) (tl_istore_n dX10_readCommand_358 (Nat.le_of_ble_eq_true rfl) (tl_aload_n dX10_readCommand_359 rfl (tl_bipush (v := 17) dX10_readCommand_360 bp_17 (tl_iload_n dX10_readCommand_362 rfl (tl_iconst (v := (-1)) dX10_readCommand_363 ic_m1 (tl_icmp_ne (tgt := 374) dX10_readCommand_364 (by decide) (fun c11 => ?_) (fun c11 => ?_))))))))))))
    · replace h := tl_in h c11
      refine tl_iload_n dX10_readCommand_374 rfl (tl_iastK (fun _ _ => rfl) dX10_readCommand_375 h1 (17) (li_17 104 rfl) lx_17 (fun u12 e => ?_))
      have h := tl_leteq e h
      clear e
      refine tl_iload_n dX10_readCommand_376 rfl (tl_iconst (v := (-1)) dX10_readCommand_377 ic_m1 (tl_icmp_eq (tgt := 385) dX10_readCommand_378 (by decide) (fun c13 => ?_) (fun c13 => ?_)))
      · replace h := tl_ip h c13
        exact tl_iconst (v := 0) dX10_readCommand_385 ic_0 (tl_iretE dX10_readCommand_386 rfl rfl h)
      · replace h := tl_in h c13
        exact tl_iconst (v := 1) dX10_readCommand_381 ic_1 (tl_goto (tgt := 386) dX10_readCommand_382 (by decide) (tl_iretE dX10_readCommand_386 rfl rfl h))
    · replace h := tl_ip h c11
      refine tl_aload_n dX10_readCommand_367 rfl (tl_bipush (v := 17) dX10_readCommand_368 bp_17 (tl_iald (j := 17) (fun _ _ => rfl) dX10_readCommand_370 h1 (li_17 104 rfl) lx_17 (tl_goto (tgt := 375) dX10_readCommand_371 (by decide) (tl_iastK (fun _ _ => rfl) dX10_readCommand_375 h1 (17) (li_17 104 rfl) lx_17 (fun u12 e => ?_)))))
      have h := tl_leteq e h
      clear e
      refine tl_iload_n dX10_readCommand_376 rfl (tl_iconst (v := (-1)) dX10_readCommand_377 ic_m1 (tl_icmp_eq (tgt := 385) dX10_readCommand_378 (by decide) (fun c13 => ?_) (fun c13 => ?_)))
      · replace h := tl_ip h c13
        exact tl_iconst (v := 0) dX10_readCommand_385 ic_0 (tl_iretE dX10_readCommand_386 rfl rfl h)
      · replace h := tl_in h c13
        exact tl_iconst (v := 1) dX10_readCommand_381 ic_1 (tl_goto (tgt := 386) dX10_readCommand_382 (by decide) (tl_iretE dX10_readCommand_386 rfl rfl h))
  replace h := tl_in h c7_97
  by_cases c7_98 : x4.toInt = 98
  · replace h := tl_ip h c7_98
    refine tl_tableIn (off := 407) (tgt := 428) dX10_readCommand_21 (by omega) (by omega) (by rw [c7_98]; rfl) (by decide) ?_
    refine tl_aload_n dX10_readCommand_428 rfl (tl_dup dX10_readCommand_429 rfl (tl_geti (f := 9) tl_ck10 dX10_readCommand_430 fl_X10_156 (Nat.le_of_ble_eq_true rfl) rfl h0 (tl_iconst (v := 1) dX10_readCommand_433 ic_1 (tl_isub dX10_readCommand_434 (tl_puti (f := 9) tl_ck10 dX10_readCommand_435 fl_X10_156 (Nat.le_of_ble_eq_true rfl) rfl rfl rfl h0 (fun u8 e => ?_))))))
    have h := tl_leteq e h
    clear e
    exact tl_iconst (v := 0) dX10_readCommand_438 ic_0 (tl_iretE dX10_readCommand_439 rfl rfl h)
  replace h := tl_in h c7_98
  by_cases c7_99 : x4.toInt = 99
  · replace h := tl_ip h c7_99
    refine tl_tableIn (off := 407) (tgt := 428) dX10_readCommand_21 (by omega) (by omega) (by rw [c7_99]; rfl) (by decide) ?_
    refine tl_aload_n dX10_readCommand_428 rfl (tl_dup dX10_readCommand_429 rfl (tl_geti (f := 9) tl_ck10 dX10_readCommand_430 fl_X10_156 (Nat.le_of_ble_eq_true rfl) rfl h0 (tl_iconst (v := 1) dX10_readCommand_433 ic_1 (tl_isub dX10_readCommand_434 (tl_puti (f := 9) tl_ck10 dX10_readCommand_435 fl_X10_156 (Nat.le_of_ble_eq_true rfl) rfl rfl rfl h0 (fun u8 e => ?_))))))
    have h := tl_leteq e h
    clear e
    exact tl_iconst (v := 0) dX10_readCommand_438 ic_0 (tl_iretE dX10_readCommand_439 rfl rfl h)
  replace h := tl_in h c7_99
  by_cases c7_100 : x4.toInt = 100
  · replace h := tl_ip h c7_100
    refine tl_tableIn (off := 407) (tgt := 428) dX10_readCommand_21 (by omega) (by omega) (by rw [c7_100]; rfl) (by decide) ?_
    refine tl_aload_n dX10_readCommand_428 rfl (tl_dup dX10_readCommand_429 rfl (tl_geti (f := 9) tl_ck10 dX10_readCommand_430 fl_X10_156 (Nat.le_of_ble_eq_true rfl) rfl h0 (tl_iconst (v := 1) dX10_readCommand_433 ic_1 (tl_isub dX10_readCommand_434 (tl_puti (f := 9) tl_ck10 dX10_readCommand_435 fl_X10_156 (Nat.le_of_ble_eq_true rfl) rfl rfl rfl h0 (fun u8 e => ?_))))))
    have h := tl_leteq e h
    clear e
    exact tl_iconst (v := 0) dX10_readCommand_438 ic_0 (tl_iretE dX10_readCommand_439 rfl rfl h)
  replace h := tl_in h c7_100
  by_cases c7_101 : x4.toInt = 101
  · replace h := tl_ip h c7_101
    refine tl_tableIn (off := 407) (tgt := 428) dX10_readCommand_21 (by omega) (by omega) (by rw [c7_101]; rfl) (by decide) ?_
    refine tl_aload_n dX10_readCommand_428 rfl (tl_dup dX10_readCommand_429 rfl (tl_geti (f := 9) tl_ck10 dX10_readCommand_430 fl_X10_156 (Nat.le_of_ble_eq_true rfl) rfl h0 (tl_iconst (v := 1) dX10_readCommand_433 ic_1 (tl_isub dX10_readCommand_434 (tl_puti (f := 9) tl_ck10 dX10_readCommand_435 fl_X10_156 (Nat.le_of_ble_eq_true rfl) rfl rfl rfl h0 (fun u8 e => ?_))))))
    have h := tl_leteq e h
    clear e
    exact tl_iconst (v := 0) dX10_readCommand_438 ic_0 (tl_iretE dX10_readCommand_439 rfl rfl h)
  replace h := tl_in h c7_101
  by_cases c7_102 : x4.toInt = 102
  · replace h := tl_ip h c7_102
    refine tl_tableIn (off := 266) (tgt := 287) dX10_readCommand_21 (by omega) (by omega) (by rw [c7_102]; rfl) (by decide) ?_
    obtain ⟨x10, u9, e8, h⟩ := tl_b2i h
    obtain ⟨x13, u12, e11, h⟩ := tl_b2i h
    refine tl_aload_n dX10_readCommand_287 rfl (tl_iconst (v := 0) dX10_readCommand_288 ic_0 (tl_iV1 tl_ck10 rfl h0 (l10_lampSign h0 e8) dX10_readCommand_289 cs_X10_readCommand_289 ⟨rfl, rfl⟩ ⟨Nat.zero_le _, Nat.zero_le _⟩ (Nat.le_of_ble_eq_true rfl) (tl_istore_n dX10_readCommand_292 (Nat.le_of_ble_eq_true rfl) (tl_aload_n dX10_readCommand_293 rfl (tl_iload_n dX10_readCommand_294 rfl (tl_iconst (v := 2) dX10_readCommand_295 ic_2 (tl_iconst (v := 1) dX10_readCommand_296 ic_1 (tl_bipush (v := 99) dX10_readCommand_297 bp_99 (tl_iV4 tl_ck10 rfl h0 (l10_figures h0 e11) dX10_readCommand_299 cs_X10_readCommand_299 ⟨rfl, rfl⟩ ⟨Nat.zero_le _, Nat.zero_le _⟩ (Nat.le_of_ble_eq_true rfl) (tl_istore dX10_readCommand_302 (Nat.le_of_ble_eq_true rfl) (tl_iload dX10_readCommand_304 rfl (tl_iconst (v := (-1)) dX10_readCommand_306 ic_m1 (tl_icmp_eq (tgt := 348) dX10_readCommand_307 (by decide) (fun c14 => ?_) (fun c14 => ?_))))))))))))))
    · replace h := tl_ip h c14
      exact tl_iconst (v := 0) dX10_readCommand_348 ic_0 (tl_iretE dX10_readCommand_349 rfl rfl h)
    · replace h := tl_in h c14
      obtain ⟨x17, u16, e15, h⟩ := tl_b2i h
      refine tl_aload_n dX10_readCommand_310 rfl (tl_aload_n dX10_readCommand_311 rfl (tl_iload_n dX10_readCommand_312 rfl (tl_iload dX10_readCommand_313 rfl (tl_iS3 (l10_canFill h1 e15) dX10_readCommand_315 cs_X10_readCommand_315 ⟨rfl, rfl⟩ ⟨Nat.zero_le _, Nat.zero_le _⟩ (Nat.le_of_ble_eq_true rfl) (tl_if_eq (tgt := 337) dX10_readCommand_318 (by decide) (fun c18 => ?_) (fun c18 => ?_))))))
      · replace h := tl_ip h c18
        obtain ⟨x21, u20, e19, h⟩ := tl_b2i h
        refine tl_iconst (v := 0) dX10_readCommand_337 ic_0 (tl_iV1 tl_ck10 rfl h0 (l10_done h0 e19) dX10_readCommand_338 cs_X10_readCommand_338 ⟨rfl, rfl⟩ ⟨Nat.zero_le _, Nat.zero_le _⟩ (Nat.le_of_ble_eq_true rfl) (tl_if_eq (tgt := 348) dX10_readCommand_341 (by decide) (fun c22 => ?_) (fun c22 => ?_)))
        · replace h := tl_ip h c22
          exact tl_iconst (v := 0) dX10_readCommand_348 ic_0 (tl_iretE dX10_readCommand_349 rfl rfl h)
        · replace h := tl_in h c22
          exact tl_iconst (v := 1) dX10_readCommand_344 ic_1 (tl_goto (tgt := 349) dX10_readCommand_345 (by decide) (tl_iretE dX10_readCommand_349 rfl rfl h))
      · replace h := tl_in h c18
        obtain ⟨x21, u20, e19, h⟩ := tl_b2i h
        refine tl_aload_n dX10_readCommand_321 rfl (tl_iconst (v := 1) dX10_readCommand_322 ic_1 (tl_iload_n dX10_readCommand_323 rfl (tl_iload dX10_readCommand_324 rfl (tl_iconst (v := (-1)) dX10_readCommand_326 ic_m1 (tl_iS5 (l10_orderOn h1 e19) dX10_readCommand_327 cs_X10_readCommand_327 ⟨rfl, rfl⟩ ⟨Nat.zero_le _, Nat.zero_le _⟩ (Nat.le_of_ble_eq_true rfl) (tl_if_le (tgt := 337) dX10_readCommand_330 (by decide) (fun c22 => ?_) (fun c22 => ?_)))))))
        · replace h := tl_ip h c22
          obtain ⟨x25, u24, e23, h⟩ := tl_b2i h
          refine tl_iconst (v := 0) dX10_readCommand_337 ic_0 (tl_iV1 tl_ck10 rfl h0 (l10_done h0 e23) dX10_readCommand_338 cs_X10_readCommand_338 ⟨rfl, rfl⟩ ⟨Nat.zero_le _, Nat.zero_le _⟩ (Nat.le_of_ble_eq_true rfl) (tl_if_eq (tgt := 348) dX10_readCommand_341 (by decide) (fun c26 => ?_) (fun c26 => ?_)))
          · replace h := tl_ip h c26
            exact tl_iconst (v := 0) dX10_readCommand_348 ic_0 (tl_iretE dX10_readCommand_349 rfl rfl h)
          · replace h := tl_in h c26
            exact tl_iconst (v := 1) dX10_readCommand_344 ic_1 (tl_goto (tgt := 349) dX10_readCommand_345 (by decide) (tl_iretE dX10_readCommand_349 rfl rfl h))
        · replace h := tl_in h c22
          obtain ⟨x25, u24, e23, h⟩ := tl_b2i h
          refine tl_iconst (v := 1) dX10_readCommand_333 ic_1 (tl_goto (tgt := 338) dX10_readCommand_334 (by decide) (tl_iV1 tl_ck10 rfl h0 (l10_done h0 e23) dX10_readCommand_338 cs_X10_readCommand_338 ⟨rfl, rfl⟩ ⟨Nat.zero_le _, Nat.zero_le _⟩ (Nat.le_of_ble_eq_true rfl) (tl_if_eq (tgt := 348) dX10_readCommand_341 (by decide) (fun c26 => ?_) (fun c26 => ?_))))
          · replace h := tl_ip h c26
            exact tl_iconst (v := 0) dX10_readCommand_348 ic_0 (tl_iretE dX10_readCommand_349 rfl rfl h)
          · replace h := tl_in h c26
            exact tl_iconst (v := 1) dX10_readCommand_344 ic_1 (tl_goto (tgt := 349) dX10_readCommand_345 (by decide) (tl_iretE dX10_readCommand_349 rfl rfl h))
  replace h := tl_in h c7_102
  by_cases c7_103 : x4.toInt = 103
  · replace h := tl_ip h c7_103
    refine tl_tableIn (off := 95) (tgt := 116) dX10_readCommand_21 (by omega) (by omega) (by rw [c7_103]; rfl) (by decide) ?_
    obtain ⟨x10, u9, e8, h⟩ := tl_b2i h
    refine tl_aload_n dX10_readCommand_116 rfl (tl_iconst (v := 0) dX10_readCommand_117 ic_0 (tl_iconst (v := 2) dX10_readCommand_118 ic_2 (tl_iconst (v := 1) dX10_readCommand_119 ic_1 (tl_bipush (v := 60) dX10_readCommand_120 bp_60 (tl_iV4 tl_ck10 rfl h0 (l10_figures h0 e8) dX10_readCommand_122 cs_X10_readCommand_122 ⟨rfl, rfl⟩ ⟨Nat.zero_le _, Nat.zero_le _⟩ (Nat.le_of_ble_eq_true rfl) (tl_istore_n dX10_readCommand_125 (Nat.le_of_ble_eq_true rfl) (tl_iload_n dX10_readCommand_126 rfl (tl_iconst (v := (-1)) dX10_readCommand_127 ic_m1 (tl_icmp_eq (tgt := 162) dX10_readCommand_128 (by decide) (fun c11 => ?_) (fun c11 => ?_))))))))))
    · replace h := tl_ip h c11
      exact tl_iconst (v := 0) dX10_readCommand_162 ic_0 (tl_iretE dX10_readCommand_163 rfl rfl h)
    · replace h := tl_in h c11
      refine tl_aload_n dX10_readCommand_131 rfl (tl_aload_n dX10_readCommand_132 rfl (tl_iconst (v := 0) dX10_readCommand_133 ic_0 (tl_iald (j := 0) (fun _ _ => rfl) dX10_readCommand_134 h1 (li_0 104 rfl) lx_0 (tl_iconst (v := 3) dX10_readCommand_135 ic_3 (tl_icmp_ge (tgt := 151) dX10_readCommand_136 (by decide) (fun c12 => ?_) (fun c12 => ?_))))))
      · replace h := tl_ip h c12
        obtain ⟨x15, u14, e13, h⟩ := tl_b2i h
        refine tl_iconst (v := 0) dX10_readCommand_151 ic_0 (tl_iV1 tl_ck10 rfl h0 (l10_done h0 e13) dX10_readCommand_152 cs_X10_readCommand_152 ⟨rfl, rfl⟩ ⟨Nat.zero_le _, Nat.zero_le _⟩ (Nat.le_of_ble_eq_true rfl) (tl_if_eq (tgt := 162) dX10_readCommand_155 (by decide) (fun c16 => ?_) (fun c16 => ?_)))
        · replace h := tl_ip h c16
          exact tl_iconst (v := 0) dX10_readCommand_162 ic_0 (tl_iretE dX10_readCommand_163 rfl rfl h)
        · replace h := tl_in h c16
          exact tl_iconst (v := 1) dX10_readCommand_158 ic_1 (tl_goto (tgt := 163) dX10_readCommand_159 (by decide) (tl_iretE dX10_readCommand_163 rfl rfl h))
      · replace h := tl_in h c12
        obtain ⟨x15, u14, e13, h⟩ := tl_b2i h
        refine tl_aload_n dX10_readCommand_139 rfl (tl_iload_n dX10_readCommand_140 rfl (tl_iS2 (l10_galleryOn h1 e13) dX10_readCommand_141 cs_X10_readCommand_141 ⟨rfl, rfl⟩ ⟨Nat.zero_le _, Nat.zero_le _⟩ (Nat.le_of_ble_eq_true rfl) (tl_if_lt (tgt := 151) dX10_readCommand_144 (by decide) (fun c16 => ?_) (fun c16 => ?_))))
        · replace h := tl_ip h c16
          obtain ⟨x19, u18, e17, h⟩ := tl_b2i h
          refine tl_iconst (v := 0) dX10_readCommand_151 ic_0 (tl_iV1 tl_ck10 rfl h0 (l10_done h0 e17) dX10_readCommand_152 cs_X10_readCommand_152 ⟨rfl, rfl⟩ ⟨Nat.zero_le _, Nat.zero_le _⟩ (Nat.le_of_ble_eq_true rfl) (tl_if_eq (tgt := 162) dX10_readCommand_155 (by decide) (fun c20 => ?_) (fun c20 => ?_)))
          · replace h := tl_ip h c20
            exact tl_iconst (v := 0) dX10_readCommand_162 ic_0 (tl_iretE dX10_readCommand_163 rfl rfl h)
          · replace h := tl_in h c20
            exact tl_iconst (v := 1) dX10_readCommand_158 ic_1 (tl_goto (tgt := 163) dX10_readCommand_159 (by decide) (tl_iretE dX10_readCommand_163 rfl rfl h))
        · replace h := tl_in h c16
          obtain ⟨x19, u18, e17, h⟩ := tl_b2i h
          refine tl_iconst (v := 1) dX10_readCommand_147 ic_1 (tl_goto (tgt := 152) dX10_readCommand_148 (by decide) (tl_iV1 tl_ck10 rfl h0 (l10_done h0 e17) dX10_readCommand_152 cs_X10_readCommand_152 ⟨rfl, rfl⟩ ⟨Nat.zero_le _, Nat.zero_le _⟩ (Nat.le_of_ble_eq_true rfl) (tl_if_eq (tgt := 162) dX10_readCommand_155 (by decide) (fun c20 => ?_) (fun c20 => ?_))))
          · replace h := tl_ip h c20
            exact tl_iconst (v := 0) dX10_readCommand_162 ic_0 (tl_iretE dX10_readCommand_163 rfl rfl h)
          · replace h := tl_in h c20
            exact tl_iconst (v := 1) dX10_readCommand_158 ic_1 (tl_goto (tgt := 163) dX10_readCommand_159 (by decide) (tl_iretE dX10_readCommand_163 rfl rfl h))
  replace h := tl_in h c7_103
  by_cases c7_104 : x4.toInt = 104
  · replace h := tl_ip h c7_104
    refine tl_tableIn (off := 260) (tgt := 281) dX10_readCommand_21 (by omega) (by omega) (by rw [c7_104]; rfl) (by decide) ?_
    obtain ⟨x10, u9, e8, h⟩ := tl_b2i h
    obtain ⟨g11, h⟩ := tl_gi h
    exact tl_aload_n dX10_readCommand_281 rfl (tl_aload_n dX10_readCommand_282 rfl (tl_iV1 tl_ck10 rfl h0 (l10_readHang h0 h1 e8) dX10_readCommand_283 cs_X10_readCommand_283 ⟨rfl, rfl⟩ ⟨Nat.zero_le _, Nat.zero_le _⟩ (Nat.le_of_ble_eq_true rfl) (tl_iretE dX10_readCommand_286 rfl (tl_nB g11).1 h)))
  replace h := tl_in h c7_104
  by_cases c7_105 : x4.toInt = 105
  · replace h := tl_ip h c7_105
    refine tl_tableIn (off := 407) (tgt := 428) dX10_readCommand_21 (by omega) (by omega) (by rw [c7_105]; rfl) (by decide) ?_
    refine tl_aload_n dX10_readCommand_428 rfl (tl_dup dX10_readCommand_429 rfl (tl_geti (f := 9) tl_ck10 dX10_readCommand_430 fl_X10_156 (Nat.le_of_ble_eq_true rfl) rfl h0 (tl_iconst (v := 1) dX10_readCommand_433 ic_1 (tl_isub dX10_readCommand_434 (tl_puti (f := 9) tl_ck10 dX10_readCommand_435 fl_X10_156 (Nat.le_of_ble_eq_true rfl) rfl rfl rfl h0 (fun u8 e => ?_))))))
    have h := tl_leteq e h
    clear e
    exact tl_iconst (v := 0) dX10_readCommand_438 ic_0 (tl_iretE dX10_readCommand_439 rfl rfl h)
  replace h := tl_in h c7_105
  by_cases c7_106 : x4.toInt = 106
  · replace h := tl_ip h c7_106
    refine tl_tableIn (off := 407) (tgt := 428) dX10_readCommand_21 (by omega) (by omega) (by rw [c7_106]; rfl) (by decide) ?_
    refine tl_aload_n dX10_readCommand_428 rfl (tl_dup dX10_readCommand_429 rfl (tl_geti (f := 9) tl_ck10 dX10_readCommand_430 fl_X10_156 (Nat.le_of_ble_eq_true rfl) rfl h0 (tl_iconst (v := 1) dX10_readCommand_433 ic_1 (tl_isub dX10_readCommand_434 (tl_puti (f := 9) tl_ck10 dX10_readCommand_435 fl_X10_156 (Nat.le_of_ble_eq_true rfl) rfl rfl rfl h0 (fun u8 e => ?_))))))
    have h := tl_leteq e h
    clear e
    exact tl_iconst (v := 0) dX10_readCommand_438 ic_0 (tl_iretE dX10_readCommand_439 rfl rfl h)
  replace h := tl_in h c7_106
  by_cases c7_107 : x4.toInt = 107
  · replace h := tl_ip h c7_107
    refine tl_tableIn (off := 407) (tgt := 428) dX10_readCommand_21 (by omega) (by omega) (by rw [c7_107]; rfl) (by decide) ?_
    refine tl_aload_n dX10_readCommand_428 rfl (tl_dup dX10_readCommand_429 rfl (tl_geti (f := 9) tl_ck10 dX10_readCommand_430 fl_X10_156 (Nat.le_of_ble_eq_true rfl) rfl h0 (tl_iconst (v := 1) dX10_readCommand_433 ic_1 (tl_isub dX10_readCommand_434 (tl_puti (f := 9) tl_ck10 dX10_readCommand_435 fl_X10_156 (Nat.le_of_ble_eq_true rfl) rfl rfl rfl h0 (fun u8 e => ?_))))))
    have h := tl_leteq e h
    clear e
    exact tl_iconst (v := 0) dX10_readCommand_438 ic_0 (tl_iretE dX10_readCommand_439 rfl rfl h)
  replace h := tl_in h c7_107
  by_cases c7_108 : x4.toInt = 108
  · replace h := tl_ip h c7_108
    refine tl_tableIn (off := 201) (tgt := 222) dX10_readCommand_21 (by omega) (by omega) (by rw [c7_108]; rfl) (by decide) ?_
    obtain ⟨x10, u9, e8, h⟩ := tl_b2i h
    obtain ⟨g11, h⟩ := tl_gi h
    exact tl_aload_n dX10_readCommand_222 rfl (tl_aload_n dX10_readCommand_223 rfl (tl_iV1 tl_ck10 rfl h0 (l10_readLamp h0 h1 e8) dX10_readCommand_224 cs_X10_readCommand_224 ⟨rfl, rfl⟩ ⟨Nat.zero_le _, Nat.zero_le _⟩ (Nat.le_of_ble_eq_true rfl) (tl_iretE dX10_readCommand_227 rfl (tl_nB g11).1 h)))
  replace h := tl_in h c7_108
  by_cases c7_109 : x4.toInt = 109
  · replace h := tl_ip h c7_109
    refine tl_tableIn (off := 143) (tgt := 164) dX10_readCommand_21 (by omega) (by omega) (by rw [c7_109]; rfl) (by decide) ?_
    obtain ⟨x10, u9, e8, h⟩ := tl_b2i h
    obtain ⟨x13, u12, e11, h⟩ := tl_b2i h
    refine tl_aload_n dX10_readCommand_164 rfl (tl_iconst (v := 0) dX10_readCommand_165 ic_0 (tl_iV1 tl_ck10 rfl h0 (l10_gallerySign h0 e8) dX10_readCommand_166 cs_X10_readCommand_166 ⟨rfl, rfl⟩ ⟨Nat.zero_le _, Nat.zero_le _⟩ (Nat.le_of_ble_eq_true rfl) (tl_istore_n dX10_readCommand_169 (Nat.le_of_ble_eq_true rfl) (tl_aload_n dX10_readCommand_170 rfl (tl_iload_n dX10_readCommand_171 rfl (tl_iconst (v := 1) dX10_readCommand_172 ic_1 (tl_iconst (v := 1) dX10_readCommand_173 ic_1 (tl_iconst (v := 5) dX10_readCommand_174 ic_5 (tl_iV4 tl_ck10 rfl h0 (l10_figures h0 e11) dX10_readCommand_175 cs_X10_readCommand_175 ⟨rfl, rfl⟩ ⟨Nat.zero_le _, Nat.zero_le _⟩ (Nat.le_of_ble_eq_true rfl) (tl_istore dX10_readCommand_178 (Nat.le_of_ble_eq_true rfl) (tl_iload dX10_readCommand_180 rfl (tl_iconst (v := (-1)) dX10_readCommand_182 ic_m1 (tl_icmp_eq (tgt := 220) dX10_readCommand_183 (by decide) (fun c14 => ?_) (fun c14 => ?_))))))))))))))
    · replace h := tl_ip h c14
      exact tl_iconst (v := 0) dX10_readCommand_220 ic_0 (tl_iretE dX10_readCommand_221 rfl rfl h)
    · replace h := tl_in h c14
      obtain ⟨x17, u16, e15, h⟩ := tl_b2i h
      refine tl_aload_n dX10_readCommand_186 rfl (tl_aload_n dX10_readCommand_187 rfl (tl_iload_n dX10_readCommand_188 rfl (tl_iS2 (l10_canMiner h1 e15) dX10_readCommand_189 cs_X10_readCommand_189 ⟨rfl, rfl⟩ ⟨Nat.zero_le _, Nat.zero_le _⟩ (Nat.le_of_ble_eq_true rfl) (tl_if_eq (tgt := 209) dX10_readCommand_192 (by decide) (fun c18 => ?_) (fun c18 => ?_)))))
      · replace h := tl_ip h c18
        obtain ⟨x21, u20, e19, h⟩ := tl_b2i h
        refine tl_iconst (v := 0) dX10_readCommand_209 ic_0 (tl_iV1 tl_ck10 rfl h0 (l10_done h0 e19) dX10_readCommand_210 cs_X10_readCommand_210 ⟨rfl, rfl⟩ ⟨Nat.zero_le _, Nat.zero_le _⟩ (Nat.le_of_ble_eq_true rfl) (tl_if_eq (tgt := 220) dX10_readCommand_213 (by decide) (fun c22 => ?_) (fun c22 => ?_)))
        · replace h := tl_ip h c22
          exact tl_iconst (v := 0) dX10_readCommand_220 ic_0 (tl_iretE dX10_readCommand_221 rfl rfl h)
        · replace h := tl_in h c22
          exact tl_iconst (v := 1) dX10_readCommand_216 ic_1 (tl_goto (tgt := 221) dX10_readCommand_217 (by decide) (tl_iretE dX10_readCommand_221 rfl rfl h))
      · replace h := tl_in h c18
        obtain ⟨x21, u20, e19, h⟩ := tl_b2i h
        refine tl_aload_n dX10_readCommand_195 rfl (tl_iload_n dX10_readCommand_196 rfl (tl_iload dX10_readCommand_197 rfl (tl_iS3 (l10_minerOn h1 e19) dX10_readCommand_199 cs_X10_readCommand_199 ⟨rfl, rfl⟩ ⟨Nat.zero_le _, Nat.zero_le _⟩ (Nat.le_of_ble_eq_true rfl) (tl_if_lt (tgt := 209) dX10_readCommand_202 (by decide) (fun c22 => ?_) (fun c22 => ?_)))))
        · replace h := tl_ip h c22
          obtain ⟨x25, u24, e23, h⟩ := tl_b2i h
          refine tl_iconst (v := 0) dX10_readCommand_209 ic_0 (tl_iV1 tl_ck10 rfl h0 (l10_done h0 e23) dX10_readCommand_210 cs_X10_readCommand_210 ⟨rfl, rfl⟩ ⟨Nat.zero_le _, Nat.zero_le _⟩ (Nat.le_of_ble_eq_true rfl) (tl_if_eq (tgt := 220) dX10_readCommand_213 (by decide) (fun c26 => ?_) (fun c26 => ?_)))
          · replace h := tl_ip h c26
            exact tl_iconst (v := 0) dX10_readCommand_220 ic_0 (tl_iretE dX10_readCommand_221 rfl rfl h)
          · replace h := tl_in h c26
            exact tl_iconst (v := 1) dX10_readCommand_216 ic_1 (tl_goto (tgt := 221) dX10_readCommand_217 (by decide) (tl_iretE dX10_readCommand_221 rfl rfl h))
        · replace h := tl_in h c22
          obtain ⟨x25, u24, e23, h⟩ := tl_b2i h
          refine tl_iconst (v := 1) dX10_readCommand_205 ic_1 (tl_goto (tgt := 210) dX10_readCommand_206 (by decide) (tl_iV1 tl_ck10 rfl h0 (l10_done h0 e23) dX10_readCommand_210 cs_X10_readCommand_210 ⟨rfl, rfl⟩ ⟨Nat.zero_le _, Nat.zero_le _⟩ (Nat.le_of_ble_eq_true rfl) (tl_if_eq (tgt := 220) dX10_readCommand_213 (by decide) (fun c26 => ?_) (fun c26 => ?_))))
          · replace h := tl_ip h c26
            exact tl_iconst (v := 0) dX10_readCommand_220 ic_0 (tl_iretE dX10_readCommand_221 rfl rfl h)
          · replace h := tl_in h c26
            exact tl_iconst (v := 1) dX10_readCommand_216 ic_1 (tl_goto (tgt := 221) dX10_readCommand_217 (by decide) (tl_iretE dX10_readCommand_221 rfl rfl h))
  replace h := tl_in h c7_109
  by_cases c7_110 : x4.toInt = 110
  · replace h := tl_ip h c7_110
    refine tl_tableIn (off := 407) (tgt := 428) dX10_readCommand_21 (by omega) (by omega) (by rw [c7_110]; rfl) (by decide) ?_
    refine tl_aload_n dX10_readCommand_428 rfl (tl_dup dX10_readCommand_429 rfl (tl_geti (f := 9) tl_ck10 dX10_readCommand_430 fl_X10_156 (Nat.le_of_ble_eq_true rfl) rfl h0 (tl_iconst (v := 1) dX10_readCommand_433 ic_1 (tl_isub dX10_readCommand_434 (tl_puti (f := 9) tl_ck10 dX10_readCommand_435 fl_X10_156 (Nat.le_of_ble_eq_true rfl) rfl rfl rfl h0 (fun u8 e => ?_))))))
    have h := tl_leteq e h
    clear e
    exact tl_iconst (v := 0) dX10_readCommand_438 ic_0 (tl_iretE dX10_readCommand_439 rfl rfl h)
  replace h := tl_in h c7_110
  by_cases c7_111 : x4.toInt = 111
  · replace h := tl_ip h c7_111
    refine tl_tableIn (off := 407) (tgt := 428) dX10_readCommand_21 (by omega) (by omega) (by rw [c7_111]; rfl) (by decide) ?_
    refine tl_aload_n dX10_readCommand_428 rfl (tl_dup dX10_readCommand_429 rfl (tl_geti (f := 9) tl_ck10 dX10_readCommand_430 fl_X10_156 (Nat.le_of_ble_eq_true rfl) rfl h0 (tl_iconst (v := 1) dX10_readCommand_433 ic_1 (tl_isub dX10_readCommand_434 (tl_puti (f := 9) tl_ck10 dX10_readCommand_435 fl_X10_156 (Nat.le_of_ble_eq_true rfl) rfl rfl rfl h0 (fun u8 e => ?_))))))
    have h := tl_leteq e h
    clear e
    exact tl_iconst (v := 0) dX10_readCommand_438 ic_0 (tl_iretE dX10_readCommand_439 rfl rfl h)
  replace h := tl_in h c7_111
  by_cases c7_112 : x4.toInt = 112
  · replace h := tl_ip h c7_112
    refine tl_tableIn (off := 407) (tgt := 428) dX10_readCommand_21 (by omega) (by omega) (by rw [c7_112]; rfl) (by decide) ?_
    refine tl_aload_n dX10_readCommand_428 rfl (tl_dup dX10_readCommand_429 rfl (tl_geti (f := 9) tl_ck10 dX10_readCommand_430 fl_X10_156 (Nat.le_of_ble_eq_true rfl) rfl h0 (tl_iconst (v := 1) dX10_readCommand_433 ic_1 (tl_isub dX10_readCommand_434 (tl_puti (f := 9) tl_ck10 dX10_readCommand_435 fl_X10_156 (Nat.le_of_ble_eq_true rfl) rfl rfl rfl h0 (fun u8 e => ?_))))))
    have h := tl_leteq e h
    clear e
    exact tl_iconst (v := 0) dX10_readCommand_438 ic_0 (tl_iretE dX10_readCommand_439 rfl rfl h)
  replace h := tl_in h c7_112
  by_cases c7_113 : x4.toInt = 113
  · replace h := tl_ip h c7_113
    refine tl_tableIn (off := 407) (tgt := 428) dX10_readCommand_21 (by omega) (by omega) (by rw [c7_113]; rfl) (by decide) ?_
    refine tl_aload_n dX10_readCommand_428 rfl (tl_dup dX10_readCommand_429 rfl (tl_geti (f := 9) tl_ck10 dX10_readCommand_430 fl_X10_156 (Nat.le_of_ble_eq_true rfl) rfl h0 (tl_iconst (v := 1) dX10_readCommand_433 ic_1 (tl_isub dX10_readCommand_434 (tl_puti (f := 9) tl_ck10 dX10_readCommand_435 fl_X10_156 (Nat.le_of_ble_eq_true rfl) rfl rfl rfl h0 (fun u8 e => ?_))))))
    have h := tl_leteq e h
    clear e
    exact tl_iconst (v := 0) dX10_readCommand_438 ic_0 (tl_iretE dX10_readCommand_439 rfl rfl h)
  replace h := tl_in h c7_113
  by_cases c7_114 : x4.toInt = 114
  · replace h := tl_ip h c7_114
    refine tl_tableIn (off := 407) (tgt := 428) dX10_readCommand_21 (by omega) (by omega) (by rw [c7_114]; rfl) (by decide) ?_
    refine tl_aload_n dX10_readCommand_428 rfl (tl_dup dX10_readCommand_429 rfl (tl_geti (f := 9) tl_ck10 dX10_readCommand_430 fl_X10_156 (Nat.le_of_ble_eq_true rfl) rfl h0 (tl_iconst (v := 1) dX10_readCommand_433 ic_1 (tl_isub dX10_readCommand_434 (tl_puti (f := 9) tl_ck10 dX10_readCommand_435 fl_X10_156 (Nat.le_of_ble_eq_true rfl) rfl rfl rfl h0 (fun u8 e => ?_))))))
    have h := tl_leteq e h
    clear e
    exact tl_iconst (v := 0) dX10_readCommand_438 ic_0 (tl_iretE dX10_readCommand_439 rfl rfl h)
  replace h := tl_in h c7_114
  by_cases c7_115 : x4.toInt = 115
  · replace h := tl_ip h c7_115
    refine tl_tableIn (off := 207) (tgt := 228) dX10_readCommand_21 (by omega) (by omega) (by rw [c7_115]; rfl) (by decide) ?_
    obtain ⟨x10, u9, e8, h⟩ := tl_b2i h
    refine tl_aload_n dX10_readCommand_228 rfl (tl_iconst (v := 0) dX10_readCommand_229 ic_0 (tl_iconst (v := 3) dX10_readCommand_230 ic_3 (tl_iconst (v := 0) dX10_readCommand_231 ic_0 (tl_sipush (v := 999) dX10_readCommand_232 sp_999 (tl_iV4 tl_ck10 rfl h0 (l10_figures h0 e8) dX10_readCommand_235 cs_X10_readCommand_235 ⟨rfl, rfl⟩ ⟨Nat.zero_le _, Nat.zero_le _⟩ (Nat.le_of_ble_eq_true rfl) (tl_istore_n dX10_readCommand_238 (Nat.le_of_ble_eq_true rfl) (tl_iload_n dX10_readCommand_239 rfl (tl_iconst (v := (-1)) dX10_readCommand_240 ic_m1 (tl_icmp_eq (tgt := 279) dX10_readCommand_241 (by decide) (fun c11 => ?_) (fun c11 => ?_))))))))))
    · replace h := tl_ip h c11
      exact tl_iconst (v := 0) dX10_readCommand_279 ic_0 (tl_iretE dX10_readCommand_280 rfl rfl h)
    · replace h := tl_in h c11
      refine tl_aload_n dX10_readCommand_244 rfl (tl_aload_n dX10_readCommand_245 rfl (tl_iconst (v := 4) dX10_readCommand_246 ic_4 (tl_iald (j := 4) (fun _ _ => rfl) dX10_readCommand_247 h1 (li_4 104 rfl) lx_4 (tl_iload_n dX10_readCommand_248 rfl (tl_iadd dX10_readCommand_249 (tl_sipush (v := 9999) dX10_readCommand_250 sp_9999 (tl_icmp_gt (tgt := 268) dX10_readCommand_253 (by decide) (fun c12 => ?_) (fun c12 => ?_))))))))
      · replace h := tl_ip h c12
        obtain ⟨x15, u14, e13, h⟩ := tl_b2i h
        refine tl_iconst (v := 0) dX10_readCommand_268 ic_0 (tl_iV1 tl_ck10 rfl h0 (l10_done h0 e13) dX10_readCommand_269 cs_X10_readCommand_269 ⟨rfl, rfl⟩ ⟨Nat.zero_le _, Nat.zero_le _⟩ (Nat.le_of_ble_eq_true rfl) (tl_if_eq (tgt := 279) dX10_readCommand_272 (by decide) (fun c16 => ?_) (fun c16 => ?_)))
        · replace h := tl_ip h c16
          exact tl_iconst (v := 0) dX10_readCommand_279 ic_0 (tl_iretE dX10_readCommand_280 rfl rfl h)
        · replace h := tl_in h c16
          exact tl_iconst (v := 1) dX10_readCommand_275 ic_1 (tl_goto (tgt := 280) dX10_readCommand_276 (by decide) (tl_iretE dX10_readCommand_280 rfl rfl h))
      · replace h := tl_in h c12
        obtain ⟨x15, u14, e13, h⟩ := tl_b2i h
        refine tl_aload_n dX10_readCommand_256 rfl (tl_iload_n dX10_readCommand_257 rfl (tl_iS2 (l10_storeOn h1 e13) dX10_readCommand_258 cs_X10_readCommand_258 ⟨rfl, rfl⟩ ⟨Nat.zero_le _, Nat.zero_le _⟩ (Nat.le_of_ble_eq_true rfl) (tl_if_lt (tgt := 268) dX10_readCommand_261 (by decide) (fun c16 => ?_) (fun c16 => ?_))))
        · replace h := tl_ip h c16
          obtain ⟨x19, u18, e17, h⟩ := tl_b2i h
          refine tl_iconst (v := 0) dX10_readCommand_268 ic_0 (tl_iV1 tl_ck10 rfl h0 (l10_done h0 e17) dX10_readCommand_269 cs_X10_readCommand_269 ⟨rfl, rfl⟩ ⟨Nat.zero_le _, Nat.zero_le _⟩ (Nat.le_of_ble_eq_true rfl) (tl_if_eq (tgt := 279) dX10_readCommand_272 (by decide) (fun c20 => ?_) (fun c20 => ?_)))
          · replace h := tl_ip h c20
            exact tl_iconst (v := 0) dX10_readCommand_279 ic_0 (tl_iretE dX10_readCommand_280 rfl rfl h)
          · replace h := tl_in h c20
            exact tl_iconst (v := 1) dX10_readCommand_275 ic_1 (tl_goto (tgt := 280) dX10_readCommand_276 (by decide) (tl_iretE dX10_readCommand_280 rfl rfl h))
        · replace h := tl_in h c16
          obtain ⟨x19, u18, e17, h⟩ := tl_b2i h
          refine tl_iconst (v := 1) dX10_readCommand_264 ic_1 (tl_goto (tgt := 269) dX10_readCommand_265 (by decide) (tl_iV1 tl_ck10 rfl h0 (l10_done h0 e17) dX10_readCommand_269 cs_X10_readCommand_269 ⟨rfl, rfl⟩ ⟨Nat.zero_le _, Nat.zero_le _⟩ (Nat.le_of_ble_eq_true rfl) (tl_if_eq (tgt := 279) dX10_readCommand_272 (by decide) (fun c20 => ?_) (fun c20 => ?_))))
          · replace h := tl_ip h c20
            exact tl_iconst (v := 0) dX10_readCommand_279 ic_0 (tl_iretE dX10_readCommand_280 rfl rfl h)
          · replace h := tl_in h c20
            exact tl_iconst (v := 1) dX10_readCommand_275 ic_1 (tl_goto (tgt := 280) dX10_readCommand_276 (by decide) (tl_iretE dX10_readCommand_280 rfl rfl h))
  replace h := tl_in h c7_115
  have c7_116 : x4.toInt = 116 := by omega
  refine tl_tableIn (off := 366) (tgt := 387) dX10_readCommand_21 (by omega) (by omega) (by rw [c7_116]; rfl) (by decide) ?_
  obtain ⟨x10, u9, e8, h⟩ := tl_b2i h
  refine tl_aload_n dX10_readCommand_387 rfl (tl_iconst (v := 0) dX10_readCommand_388 ic_0 (tl_iconst (v := 2) dX10_readCommand_389 ic_2 (tl_iconst (v := 1) dX10_readCommand_390 ic_1 (tl_bipush (v := 60) dX10_readCommand_391 bp_60 (tl_iV4 tl_ck10 rfl h0 (l10_figures h0 e8) dX10_readCommand_393 cs_X10_readCommand_393 ⟨rfl, rfl⟩ ⟨Nat.zero_le _, Nat.zero_le _⟩ (Nat.le_of_ble_eq_true rfl) (tl_istore_n dX10_readCommand_396 (Nat.le_of_ble_eq_true rfl) (tl_iload_n dX10_readCommand_397 rfl (tl_iconst (v := (-1)) dX10_readCommand_398 ic_m1 (tl_icmp_eq (tgt := 426) dX10_readCommand_399 (by decide) (fun c11 => ?_) (fun c11 => ?_))))))))))
  · replace h := tl_ip h c11
    exact tl_iconst (v := 0) dX10_readCommand_426 ic_0 (tl_iretE dX10_readCommand_427 rfl rfl h)
  · replace h := tl_in h c11
    obtain ⟨x14, u13, e12, h⟩ := tl_b2i h
    refine tl_aload_n dX10_readCommand_402 rfl (tl_aload_n dX10_readCommand_403 rfl (tl_iload_n dX10_readCommand_404 rfl (tl_iS2 (l10_hoursOn h1 e12) dX10_readCommand_405 cs_X10_readCommand_405 ⟨rfl, rfl⟩ ⟨Nat.zero_le _, Nat.zero_le _⟩ (Nat.le_of_ble_eq_true rfl) (tl_if_lt (tgt := 415) dX10_readCommand_408 (by decide) (fun c15 => ?_) (fun c15 => ?_)))))
    · replace h := tl_ip h c15
      obtain ⟨x18, u17, e16, h⟩ := tl_b2i h
      refine tl_iconst (v := 0) dX10_readCommand_415 ic_0 (tl_iV1 tl_ck10 rfl h0 (l10_done h0 e16) dX10_readCommand_416 cs_X10_readCommand_416 ⟨rfl, rfl⟩ ⟨Nat.zero_le _, Nat.zero_le _⟩ (Nat.le_of_ble_eq_true rfl) (tl_if_eq (tgt := 426) dX10_readCommand_419 (by decide) (fun c19 => ?_) (fun c19 => ?_)))
      · replace h := tl_ip h c19
        exact tl_iconst (v := 0) dX10_readCommand_426 ic_0 (tl_iretE dX10_readCommand_427 rfl rfl h)
      · replace h := tl_in h c19
        exact tl_iconst (v := 1) dX10_readCommand_422 ic_1 (tl_goto (tgt := 427) dX10_readCommand_423 (by decide) (tl_iretE dX10_readCommand_427 rfl rfl h))
    · replace h := tl_in h c15
      obtain ⟨x18, u17, e16, h⟩ := tl_b2i h
      refine tl_iconst (v := 1) dX10_readCommand_411 ic_1 (tl_goto (tgt := 416) dX10_readCommand_412 (by decide) (tl_iV1 tl_ck10 rfl h0 (l10_done h0 e16) dX10_readCommand_416 cs_X10_readCommand_416 ⟨rfl, rfl⟩ ⟨Nat.zero_le _, Nat.zero_le _⟩ (Nat.le_of_ble_eq_true rfl) (tl_if_eq (tgt := 426) dX10_readCommand_419 (by decide) (fun c19 => ?_) (fun c19 => ?_))))
      · replace h := tl_ip h c19
        exact tl_iconst (v := 0) dX10_readCommand_426 ic_0 (tl_iretE dX10_readCommand_427 rfl rfl h)
      · replace h := tl_in h c19
        exact tl_iconst (v := 1) dX10_readCommand_422 ic_1 (tl_goto (tgt := 427) dX10_readCommand_423 (by decide) (tl_iretE dX10_readCommand_427 rfl rfl h))

theorem cs_X10_readText_1 : tl_cS mX10_readText mX10_clear 29 1 := ⟨cd_X10_clear, ml_X10_29, sm_X10_clear, in_X10, ⟨by decide, by decide, by decide +kernel⟩, Nat.le_of_ble_eq_true rfl, Nat.le_of_ble_eq_true rfl⟩
theorem cs_X10_readText_52 : tl_cV mX10_readText mX10_readCommand 214 1 := ⟨cd_X10_readCommand, ml_X10_214, im_X10_readCommand, se_X10_readCommand, in_X10, ⟨by decide, by decide, by decide +kernel⟩, Nat.le_of_ble_eq_true rfl, Nat.le_of_ble_eq_true rfl⟩
def f10_readText_p39 : Nat → Nat → Nat → tl_S → Option (Int32 × tl_S)
  | 0, _, _, _ => none
  | fu + 1, a1, a2, u =>
  (if (u.1 a1 2) ≤ (u.1 a1 9) then some ((-1), u) else tl_b2 (f10_readCommand a1 a2 u) (fun x7 u6 => (if x7 = 0 then some ((u6.1 a1 9), u6) else f10_readText_p39 fu a1 a2 u6)))

def f10_readText (a0 : Nat) (a1 : Nat) (u : tl_S) : Option (Int32 × tl_S) :=
  tl_b (f10_clear a1 u) (fun u4 => tl_let ((tl_u u4.1 a0 10 0, u4.2) : tl_S) (fun u5 => tl_let ((tl_u u5.1 a0 9 0, u5.2) : tl_S) (fun u6 => (if (u6.1 a0 2) = 0 then some (0, u6) else (if (u6.1 (a0 + 1) 0) = 84 then tl_let ((tl_u u6.1 a0 9 1, u6.2) : tl_S) (fun u9 => f10_readText_p39 tl_F a0 a1 u9) else some (0, u6))))))

theorem l10_readText_p39 {E : tl_E}  {r : Int32} {v : tl_S} : ∀ (n : Nat) (a1 : Nat) (a2 : Nat) (u : tl_S) , tl_T E.2.1 a1 = some 10 → tl_T E.2.1 a2 = some 13 → f10_readText_p39 n a1 a2 u = some (r, v) → tl_R E mX10_readText tl_X0 (tl_ZB E mX10_readText (fun q w => q = some (.int r) ∧ w = v)) 0 0 (tl_HB E u) 39 [some (.ref a1), some (.ref a2)] [] := by
  intro n
  induction n with
  | zero => intro a1 a2 u  h1 h2 h; exact absurd h (by simp [f10_readText_p39])
  | succ n ih =>
    intro a1 a2 u  h1 h2 h
    rw [f10_readText_p39] at h
    refine tl_aload_n dX10_readText_39 rfl (tl_geti (f := 9) tl_ck10 dX10_readText_40 fl_X10_156 (Nat.le_of_ble_eq_true rfl) rfl h1 (tl_aload_n dX10_readText_43 rfl (tl_geti (f := 2) tl_ck10 dX10_readText_44 fl_X10_149 (Nat.le_of_ble_eq_true rfl) rfl h1 (tl_icmp_ge (tgt := 63) dX10_readText_47 (by decide) (fun c4 => ?_) (fun c4 => ?_)))))
    · replace h := tl_ip h c4
      exact tl_iconst (v := (-1)) dX10_readText_63 ic_m1 (tl_iretE dX10_readText_64 rfl rfl h)
    · replace h := tl_in h c4
      obtain ⟨x7, u6, e5, h⟩ := tl_b2i h
      refine tl_aload_n dX10_readText_50 rfl (tl_aload_n dX10_readText_51 rfl (tl_iV1 tl_ck10 rfl h1 (l10_readCommand h1 h2 e5) dX10_readText_52 cs_X10_readText_52 ⟨rfl, rfl⟩ ⟨Nat.zero_le _, Nat.zero_le _⟩ (Nat.le_of_ble_eq_true rfl) (tl_if_ne (tgt := 39) dX10_readText_55 (by decide) (fun c8 => ?_) (fun c8 => ?_))))
      · replace h := tl_in h c8
        exact ih _ _ _  h1 h2 h
      · replace h := tl_ip h c8
        exact tl_aload_n dX10_readText_58 rfl (tl_geti (f := 9) tl_ck10 dX10_readText_59 fl_X10_156 (Nat.le_of_ble_eq_true rfl) rfl h1 (tl_iretE dX10_readText_62 rfl rfl h))

theorem l10_readText {E : tl_E} {a0 : Nat} {a1 : Nat}  {u : tl_S} {r : Int32} {v : tl_S} (h0 : tl_T E.2.1 a0 = some 10) (h1 : tl_T E.2.1 a1 = some 13) (h : f10_readText a0 a1 u = some (r, v)) : tl_MB E mX10_readText [.ref a0, .ref a1] u (fun q w => q = some (.int r) ∧ w = v) := by
  unfold f10_readText at h
  refine tl_start [some (.ref a0), some (.ref a1)] rfl rfl rfl (Nat.le_of_ble_eq_true rfl) ?_
  obtain ⟨u4, e3, h⟩ := tl_bi h
  refine tl_aload_n dX10_readText_0 rfl (tl_vS1 (l10_clear h1 e3) dX10_readText_1 cs_X10_readText_1 ⟨rfl, rfl⟩ ⟨Nat.zero_le _, Nat.zero_le _⟩ (Nat.le_of_ble_eq_true rfl) (tl_aload_n dX10_readText_4 rfl (tl_iconst (v := 0) dX10_readText_5 ic_0 (tl_puti (f := 10) tl_ck10 dX10_readText_6 fl_X10_161 (Nat.le_of_ble_eq_true rfl) rfl rfl rfl h0 (fun u5 e => ?_)))))
  have h := tl_leteq e h
  clear e
  refine tl_aload_n dX10_readText_9 rfl (tl_iconst (v := 0) dX10_readText_10 ic_0 (tl_puti (f := 9) tl_ck10 dX10_readText_11 fl_X10_156 (Nat.le_of_ble_eq_true rfl) rfl rfl rfl h0 (fun u6 e => ?_)))
  have h := tl_leteq e h
  clear e
  refine tl_aload_n dX10_readText_14 rfl (tl_geti (f := 2) tl_ck10 dX10_readText_15 fl_X10_149 (Nat.le_of_ble_eq_true rfl) rfl h0 (tl_if_eq (tgt := 32) dX10_readText_18 (by decide) (fun c7 => ?_) (fun c7 => ?_)))
  · replace h := tl_ip h c7
    exact tl_iconst (v := 0) dX10_readText_32 ic_0 (tl_iretE dX10_readText_33 rfl rfl h)
  · replace h := tl_in h c7
    refine tl_aload_n dX10_readText_21 rfl (tl_getr (f := 1) (o := 1) tl_ck10 dX10_readText_22 fl_X10_7 (Nat.le_of_ble_eq_true rfl) rfl h0 (tl_iconst (v := 0) dX10_readText_25 ic_0 (tl_iald (j := 0) (fun _ _ => rfl) dX10_readText_26 (tt_10_1 h0) (li_0 120 rfl) lx_0 (tl_bipush (v := 84) dX10_readText_27 bp_84 (tl_icmp_eq (tgt := 34) dX10_readText_29 (by decide) (fun c8 => ?_) (fun c8 => ?_))))))
    · replace h := tl_ip h c8
      refine tl_aload_n dX10_readText_34 rfl (tl_iconst (v := 1) dX10_readText_35 ic_1 (tl_puti (f := 9) tl_ck10 dX10_readText_36 fl_X10_156 (Nat.le_of_ble_eq_true rfl) rfl rfl rfl h0 (fun u9 e => ?_)))
      have h := tl_leteq e h
      clear e
      exact l10_readText_p39 tl_F _ _ _  h0 h1 h
    · replace h := tl_in h c8
      exact tl_iconst (v := 0) dX10_readText_32 ic_0 (tl_iretE dX10_readText_33 rfl rfl h)

theorem cs_X10_errorPosition_10 : tl_cV mX10_errorPosition mX10_readText 217 1 := ⟨cd_X10_readText, ml_X10_217, im_X10_readText, se_X10_readText, in_X10, ⟨by decide, by decide, by decide +kernel⟩, Nat.le_of_ble_eq_true rfl, Nat.le_of_ble_eq_true rfl⟩
def f10_errorPosition (a0 : Nat) (u : tl_S) : Option (Int32 × tl_S) :=
  tl_let ((tl_u u.1 a0 0 0, u.2) : tl_S) (fun u2 => tl_b2 (f10_readText a0 (a0 + 3) u2) (fun x5 u4 => some (x5, u4)))

theorem l10_errorPosition {E : tl_E} {a0 : Nat}  {u : tl_S} {r : Int32} {v : tl_S} (h0 : tl_T E.2.1 a0 = some 10) (h : f10_errorPosition a0 u = some (r, v)) : tl_MB E mX10_errorPosition [.ref a0] u (fun q w => q = some (.int r) ∧ w = v) := by
  unfold f10_errorPosition at h
  refine tl_start [some (.ref a0)] rfl rfl rfl (Nat.le_of_ble_eq_true rfl) ?_
  refine tl_aload_n dX10_errorPosition_0 rfl (tl_iconst (v := 0) dX10_errorPosition_1 ic_0 (tl_puti (f := 0) tl_ck10 dX10_errorPosition_2 fl_X10_33 (Nat.le_of_ble_eq_true rfl) rfl rfl rfl h0 (fun u2 e => ?_)))
  have h := tl_leteq e h
  clear e
  obtain ⟨x5, u4, e3, h⟩ := tl_b2i h
  exact tl_aload_n dX10_errorPosition_5 rfl (tl_aload_n dX10_errorPosition_6 rfl (tl_getr (f := 4) (o := 3) tl_ck10 dX10_errorPosition_7 fl_X10_16 (Nat.le_of_ble_eq_true rfl) rfl h0 (tl_iV1 tl_ck10 rfl h0 (l10_readText h0 (tt_10_4 h0) e3) dX10_errorPosition_10 cs_X10_errorPosition_10 ⟨rfl, rfl⟩ ⟨Nat.zero_le _, Nat.zero_le _⟩ (Nat.le_of_ble_eq_true rfl) (tl_iretE dX10_errorPosition_13 rfl rfl h))))

theorem cs_X10_load_6 : tl_cV mX10_load mX10_readText 217 1 := ⟨cd_X10_readText, ml_X10_217, im_X10_readText, se_X10_readText, in_X10, ⟨by decide, by decide, by decide +kernel⟩, Nat.le_of_ble_eq_true rfl, Nat.le_of_ble_eq_true rfl⟩
theorem cs_X10_load_18 : tl_cV mX10_load mX10_refused 152 1 := ⟨cd_X10_refused, ml_X10_152, im_X10_refused, se_X10_refused, in_X10, ⟨by decide, by decide, by decide +kernel⟩, Nat.le_of_ble_eq_true rfl, Nat.le_of_ble_eq_true rfl⟩
theorem cs_X10_load_36 : tl_cS mX10_load mX10_copyState 220 4 := ⟨cd_X10_copyState, ml_X10_220, sm_X10_copyState, in_X10, ⟨by decide, by decide, by decide +kernel⟩, Nat.le_of_ble_eq_true rfl, Nat.le_of_ble_eq_true rfl⟩
def f10_load_p18 (a1 : Nat) (x2 : Int32) (a3 : Nat) (u : tl_S) : Option (Int32 × tl_S) :=
  tl_b2 (f10_refused a3 x2 u) (fun x7 u6 => (if x7 = 0 then tl_b (f10_copyState (a1 + 3) 104 0 (a1 + 2) 104 0 u6) (fun u10 => tl_let ((tl_u u10.1 a1 6 0, u10.2) : tl_S) (fun u11 => tl_let ((tl_u u11.1 (a1 + 6) 0 0, u11.2) : tl_S) (fun u12 => tl_let ((tl_u u12.1 (a1 + 6) 1 0, u12.2) : tl_S) (fun u13 => some ((u13.1 a1 10), u13))))) else some (0, u6)))

def f10_load (a0 : Nat) (u : tl_S) : Option (Int32 × tl_S) :=
  tl_b2 (f10_readText a0 (a0 + 3) u) (fun x4 u3 => (if x4 = (-1) then f10_load_p18 a0 0 a0 u3 else f10_load_p18 a0 1 a0 u3))

theorem l10_load_p18 {E : tl_E} {a1 : Nat} {x2 : Int32} {a3 : Nat}   {u : tl_S} {r : Int32} {v : tl_S} (h1 : tl_T E.2.1 a1 = some 10) (h3 : tl_T E.2.1 a3 = some 10) (h : f10_load_p18 a1 x2 a3 u = some (r, v)) : tl_R E mX10_load tl_X0 (tl_ZB E mX10_load (fun q w => q = some (.int r) ∧ w = v)) 0 0 (tl_HB E u) 18 [some (.ref a1)] [.int x2, .ref a3] := by
  unfold f10_load_p18 at h
  obtain ⟨x7, u6, e5, h⟩ := tl_b2i h
  refine tl_iV1 tl_ck10 rfl h3 (l10_refused h3 e5) dX10_load_18 cs_X10_load_18 ⟨rfl, rfl⟩ ⟨Nat.zero_le _, Nat.zero_le _⟩ (Nat.le_of_ble_eq_true rfl) (tl_if_eq (tgt := 26) dX10_load_21 (by decide) (fun c8 => ?_) (fun c8 => ?_))
  · replace h := tl_ip h c8
    obtain ⟨u10, e9, h⟩ := tl_bi h
    refine tl_aload_n dX10_load_26 rfl (tl_getr (f := 4) (o := 3) tl_ck10 dX10_load_27 fl_X10_16 (Nat.le_of_ble_eq_true rfl) rfl h1 (tl_iconst (v := 0) dX10_load_30 ic_0 (tl_aload_n dX10_load_31 rfl (tl_getr (f := 3) (o := 2) tl_ck10 dX10_load_32 fl_X10_13 (Nat.le_of_ble_eq_true rfl) rfl h1 (tl_iconst (v := 0) dX10_load_35 ic_0 (tl_vS4 (l10_copyState (fun _ _ => rfl) (tt_10_4 h1) (fun _ _ => rfl) (tt_10_3 h1) e9) dX10_load_36 cs_X10_load_36 ⟨rfl, rfl⟩ ⟨Nat.zero_le _, Nat.zero_le _⟩ (Nat.le_of_ble_eq_true rfl) (tl_aload_n dX10_load_39 rfl (tl_iconst (v := 0) dX10_load_40 ic_0 (tl_puti (f := 6) tl_ck10 dX10_load_41 fl_X10_224 (Nat.le_of_ble_eq_true rfl) rfl rfl rfl h1 (fun u11 e => ?_))))))))))
    have h := tl_leteq e h
    clear e
    refine tl_aload_n dX10_load_44 rfl (tl_getr (f := 8) (o := 6) tl_ck10 dX10_load_45 fl_X10_25 (Nat.le_of_ble_eq_true rfl) rfl h1 (tl_iconst (v := 0) dX10_load_48 ic_0 (tl_iconst (v := 0) dX10_load_49 ic_0 (tl_zastK dX10_load_50 (tt_10_8 h1) (0) (li_0 2 rfl) lx_0 (Or.inl rfl) (fun u12 e => ?_)))))
    have h := tl_leteq e h
    clear e
    refine tl_aload_n dX10_load_51 rfl (tl_getr (f := 8) (o := 6) tl_ck10 dX10_load_52 fl_X10_25 (Nat.le_of_ble_eq_true rfl) rfl h1 (tl_iconst (v := 1) dX10_load_55 ic_1 (tl_iconst (v := 0) dX10_load_56 ic_0 (tl_zastK dX10_load_57 (tt_10_8 h1) (1) (li_1 2 rfl) lx_1 (Or.inl rfl) (fun u13 e => ?_)))))
    have h := tl_leteq e h
    clear e
    exact tl_aload_n dX10_load_58 rfl (tl_geti (f := 10) tl_ck10 dX10_load_59 fl_X10_161 (Nat.le_of_ble_eq_true rfl) rfl h1 (tl_iretE dX10_load_62 rfl rfl h))
  · replace h := tl_in h c8
    exact tl_iconst (v := 0) dX10_load_24 ic_0 (tl_iretE dX10_load_25 rfl rfl h)

theorem l10_load {E : tl_E} {a0 : Nat}  {u : tl_S} {r : Int32} {v : tl_S} (h0 : tl_T E.2.1 a0 = some 10) (h : f10_load a0 u = some (r, v)) : tl_MB E mX10_load [.ref a0] u (fun q w => q = some (.int r) ∧ w = v) := by
  unfold f10_load at h
  refine tl_start [some (.ref a0)] rfl rfl rfl (Nat.le_of_ble_eq_true rfl) ?_
  obtain ⟨x4, u3, e2, h⟩ := tl_b2i h
  refine tl_aload_n dX10_load_0 rfl (tl_aload_n dX10_load_1 rfl (tl_aload_n dX10_load_2 rfl (tl_getr (f := 4) (o := 3) tl_ck10 dX10_load_3 fl_X10_16 (Nat.le_of_ble_eq_true rfl) rfl h0 (tl_iV1 tl_ck10 rfl h0 (l10_readText h0 (tt_10_4 h0) e2) dX10_load_6 cs_X10_load_6 ⟨rfl, rfl⟩ ⟨Nat.zero_le _, Nat.zero_le _⟩ (Nat.le_of_ble_eq_true rfl) (tl_iconst (v := (-1)) dX10_load_9 ic_m1 (tl_icmp_ne (tgt := 17) dX10_load_10 (by decide) (fun c5 => ?_) (fun c5 => ?_)))))))
  · replace h := tl_in h c5
    refine tl_iconst (v := 1) dX10_load_17 ic_1 (?_)
    exact l10_load_p18 h0 h0 h
  · replace h := tl_ip h c5
    refine tl_iconst (v := 0) dX10_load_13 ic_0 (tl_goto (tgt := 18) dX10_load_14 (by decide) (?_))
    exact l10_load_p18 h0 h0 h

theorem cs_X10_about_7 : tl_cS mX10_about mX10_in 37 3 := ⟨cd_X10_in, ml_X10_37, sm_X10_in, in_X10, ⟨by decide, by decide, by decide +kernel⟩, Nat.le_of_ble_eq_true rfl, Nat.le_of_ble_eq_true rfl⟩
theorem cs_X10_about_18 : tl_cV mX10_about mX10_refused 152 1 := ⟨cd_X10_refused, ml_X10_152, im_X10_refused, se_X10_refused, in_X10, ⟨by decide, by decide, by decide +kernel⟩, Nat.le_of_ble_eq_true rfl, Nat.le_of_ble_eq_true rfl⟩
theorem cs_X10_about_47 : tl_cS mX10_about mX10_ofLamp 51 3 := ⟨cd_X10_ofLamp, ml_X10_51, sm_X10_ofLamp, in_X10, ⟨by decide, by decide, by decide +kernel⟩, Nat.le_of_ble_eq_true rfl, Nat.le_of_ble_eq_true rfl⟩
def f10_about_p30 : Nat → Nat → Int32 → Int32 → Int32 → tl_S → Option (Int32 × tl_S)
  | 0, _, _, _, _, _ => none
  | fu + 1, a1, x2, x3, x4, u =>
  (if (u.1 (a1 + 2) 2) ≤ x4 then (if x2.toInt < 5 ∨ 12 < x2.toInt then tl_g (¬ (x2 < 0 ∨ 104 ≤ x2.toNatClampNeg)) (some ((u.1 (a1 + 2) x2.toNatClampNeg), u)) else (if x2.toInt = 5 then some (x3, u) else (if x2.toInt = 6 then some ((u.1 (a1 + 2) 14), u) else (if x2.toInt = 7 then tl_g (¬ (((5 + x2) - 7) < 0 ∨ 104 ≤ ((5 + x2) - 7).toNatClampNeg)) (some ((u.1 (a1 + 2) ((5 + x2) - 7).toNatClampNeg), u)) else (if x2.toInt = 8 then tl_g (¬ (((5 + x2) - 7) < 0 ∨ 104 ≤ ((5 + x2) - 7).toNatClampNeg)) (some ((u.1 (a1 + 2) ((5 + x2) - 7).toNatClampNeg), u)) else (if x2.toInt = 9 then tl_g (¬ (((5 + x2) - 7) < 0 ∨ 104 ≤ ((5 + x2) - 7).toNatClampNeg)) (some ((u.1 (a1 + 2) ((5 + x2) - 7).toNatClampNeg), u)) else (if x2.toInt = 10 then some ((u.1 (a1 + 2) 8), u) else (if x2.toInt = 11 then some ((u.1 (a1 + 2) 9), u) else some ((u.1 (a1 + 2) 10), u))))))))) else tl_b2 (f10_ofLamp (a1 + 2) x4 1 u) (fun x9 u8 => tl_let ((x3 + x9)) (fun x10 => tl_let (x4 + 1) (fun x11 => f10_about_p30 fu a1 x2 x10 x11 u8))))

def f10_about (a0 : Nat) (x1 : Int32) (u : tl_S) : Option (Int32 × tl_S) :=
  tl_b2 (f10_in ((x1 : Int32).toInt64) 0 12 u) (fun x5 u4 => (if x5 = 0 then tl_b2 (f10_refused a0 1 u4) (fun x9 u8 => (if x9 = 0 then f10_about_p30 tl_F a0 x1 0 0 u8 else some (0, u8))) else tl_b2 (f10_refused a0 0 u4) (fun x9 u8 => (if x9 = 0 then f10_about_p30 tl_F a0 x1 0 0 u8 else some (0, u8)))))

theorem l10_about_p30 {E : tl_E}  {r : Int32} {v : tl_S} : ∀ (n : Nat) (a1 : Nat) (x2 : Int32) (x3 : Int32) (x4 : Int32) (u : tl_S) , tl_T E.2.1 a1 = some 10 → f10_about_p30 n a1 x2 x3 x4 u = some (r, v) → tl_R E mX10_about tl_X0 (tl_ZB E mX10_about (fun q w => q = some (.int r) ∧ w = v)) 0 0 (tl_HB E u) 30 [some (.ref a1), some (.int x2), some (.int x3), some (.int x4)] [] := by
  intro n
  induction n with
  | zero => intro a1 x2 x3 x4 u  h1 h; exact absurd h (by simp [f10_about_p30])
  | succ n ih =>
    intro a1 x2 x3 x4 u  h1 h
    rw [f10_about_p30] at h
    refine tl_iload_n dX10_about_30 rfl (tl_aload_n dX10_about_31 rfl (tl_getr (f := 3) (o := 2) tl_ck10 dX10_about_32 fl_X10_13 (Nat.le_of_ble_eq_true rfl) rfl h1 (tl_iconst (v := 2) dX10_about_35 ic_2 (tl_iald (j := 2) (fun _ _ => rfl) dX10_about_36 (tt_10_3 h1) (li_2 104 rfl) lx_2 (tl_icmp_ge (tgt := 58) dX10_about_37 (by decide) (fun c6 => ?_) (fun c6 => ?_))))))
    · replace h := tl_ip h c6
      refine tl_iload_n dX10_about_58 rfl (?_)
      by_cases c7 : x2.toInt < 5 ∨ 12 < x2.toInt
      · replace h := tl_ip h c7
        refine tl_tableOut (tgt := 150) dX10_about_59 c7 (by decide) ?_
        obtain ⟨g9, h⟩ := tl_gi h
        exact tl_aload_n dX10_about_150 rfl (tl_getr (f := 3) (o := 2) tl_ck10 dX10_about_151 fl_X10_13 (Nat.le_of_ble_eq_true rfl) rfl h1 (tl_iload_n dX10_about_154 rfl (tl_iald (j := x2.toNatClampNeg) (fun _ _ => rfl) dX10_about_155 (tt_10_3 h1) g9 rfl (tl_iretE dX10_about_156 rfl rfl h))))
      replace h := tl_in h c7
      by_cases c8_5 : x2.toInt = 5
      · replace h := tl_ip h c8_5
        refine tl_tableIn (off := 45) (tgt := 104) dX10_about_59 (by omega) (by omega) (by rw [c8_5]; rfl) (by decide) ?_
        exact tl_iload_n dX10_about_104 rfl (tl_iretE dX10_about_105 rfl rfl h)
      replace h := tl_in h c8_5
      by_cases c8_6 : x2.toInt = 6
      · replace h := tl_ip h c8_6
        refine tl_tableIn (off := 47) (tgt := 106) dX10_about_59 (by omega) (by omega) (by rw [c8_6]; rfl) (by decide) ?_
        exact tl_aload_n dX10_about_106 rfl (tl_getr (f := 3) (o := 2) tl_ck10 dX10_about_107 fl_X10_13 (Nat.le_of_ble_eq_true rfl) rfl h1 (tl_bipush (v := 14) dX10_about_110 bp_14 (tl_iald (j := 14) (fun _ _ => rfl) dX10_about_112 (tt_10_3 h1) (li_14 104 rfl) lx_14 (tl_iretE dX10_about_113 rfl rfl h))))
      replace h := tl_in h c8_6
      by_cases c8_7 : x2.toInt = 7
      · replace h := tl_ip h c8_7
        refine tl_tableIn (off := 55) (tgt := 114) dX10_about_59 (by omega) (by omega) (by rw [c8_7]; rfl) (by decide) ?_
        obtain ⟨g9, h⟩ := tl_gi h
        exact tl_aload_n dX10_about_114 rfl (tl_getr (f := 3) (o := 2) tl_ck10 dX10_about_115 fl_X10_13 (Nat.le_of_ble_eq_true rfl) rfl h1 (tl_iconst (v := 5) dX10_about_118 ic_5 (tl_iload_n dX10_about_119 rfl (tl_iadd dX10_about_120 (tl_bipush (v := 7) dX10_about_121 bp_7 (tl_isub dX10_about_123 (tl_iald (j := ((5 + x2) - 7).toNatClampNeg) (fun _ _ => rfl) dX10_about_124 (tt_10_3 h1) g9 rfl (tl_iretE dX10_about_125 rfl rfl h))))))))
      replace h := tl_in h c8_7
      by_cases c8_8 : x2.toInt = 8
      · replace h := tl_ip h c8_8
        refine tl_tableIn (off := 55) (tgt := 114) dX10_about_59 (by omega) (by omega) (by rw [c8_8]; rfl) (by decide) ?_
        obtain ⟨g9, h⟩ := tl_gi h
        exact tl_aload_n dX10_about_114 rfl (tl_getr (f := 3) (o := 2) tl_ck10 dX10_about_115 fl_X10_13 (Nat.le_of_ble_eq_true rfl) rfl h1 (tl_iconst (v := 5) dX10_about_118 ic_5 (tl_iload_n dX10_about_119 rfl (tl_iadd dX10_about_120 (tl_bipush (v := 7) dX10_about_121 bp_7 (tl_isub dX10_about_123 (tl_iald (j := ((5 + x2) - 7).toNatClampNeg) (fun _ _ => rfl) dX10_about_124 (tt_10_3 h1) g9 rfl (tl_iretE dX10_about_125 rfl rfl h))))))))
      replace h := tl_in h c8_8
      by_cases c8_9 : x2.toInt = 9
      · replace h := tl_ip h c8_9
        refine tl_tableIn (off := 55) (tgt := 114) dX10_about_59 (by omega) (by omega) (by rw [c8_9]; rfl) (by decide) ?_
        obtain ⟨g9, h⟩ := tl_gi h
        exact tl_aload_n dX10_about_114 rfl (tl_getr (f := 3) (o := 2) tl_ck10 dX10_about_115 fl_X10_13 (Nat.le_of_ble_eq_true rfl) rfl h1 (tl_iconst (v := 5) dX10_about_118 ic_5 (tl_iload_n dX10_about_119 rfl (tl_iadd dX10_about_120 (tl_bipush (v := 7) dX10_about_121 bp_7 (tl_isub dX10_about_123 (tl_iald (j := ((5 + x2) - 7).toNatClampNeg) (fun _ _ => rfl) dX10_about_124 (tt_10_3 h1) g9 rfl (tl_iretE dX10_about_125 rfl rfl h))))))))
      replace h := tl_in h c8_9
      by_cases c8_10 : x2.toInt = 10
      · replace h := tl_ip h c8_10
        refine tl_tableIn (off := 67) (tgt := 126) dX10_about_59 (by omega) (by omega) (by rw [c8_10]; rfl) (by decide) ?_
        exact tl_aload_n dX10_about_126 rfl (tl_getr (f := 3) (o := 2) tl_ck10 dX10_about_127 fl_X10_13 (Nat.le_of_ble_eq_true rfl) rfl h1 (tl_bipush (v := 8) dX10_about_130 bp_8 (tl_iald (j := 8) (fun _ _ => rfl) dX10_about_132 (tt_10_3 h1) (li_8 104 rfl) lx_8 (tl_iretE dX10_about_133 rfl rfl h))))
      replace h := tl_in h c8_10
      by_cases c8_11 : x2.toInt = 11
      · replace h := tl_ip h c8_11
        refine tl_tableIn (off := 75) (tgt := 134) dX10_about_59 (by omega) (by omega) (by rw [c8_11]; rfl) (by decide) ?_
        exact tl_aload_n dX10_about_134 rfl (tl_getr (f := 3) (o := 2) tl_ck10 dX10_about_135 fl_X10_13 (Nat.le_of_ble_eq_true rfl) rfl h1 (tl_bipush (v := 9) dX10_about_138 bp_9 (tl_iald (j := 9) (fun _ _ => rfl) dX10_about_140 (tt_10_3 h1) (li_9 104 rfl) lx_9 (tl_iretE dX10_about_141 rfl rfl h))))
      replace h := tl_in h c8_11
      have c8_12 : x2.toInt = 12 := by omega
      refine tl_tableIn (off := 83) (tgt := 142) dX10_about_59 (by omega) (by omega) (by rw [c8_12]; rfl) (by decide) ?_
      exact tl_aload_n dX10_about_142 rfl (tl_getr (f := 3) (o := 2) tl_ck10 dX10_about_143 fl_X10_13 (Nat.le_of_ble_eq_true rfl) rfl h1 (tl_bipush (v := 10) dX10_about_146 bp_10 (tl_iald (j := 10) (fun _ _ => rfl) dX10_about_148 (tt_10_3 h1) (li_10 104 rfl) lx_10 (tl_iretE dX10_about_149 rfl rfl h))))
    · replace h := tl_in h c6
      obtain ⟨x9, u8, e7, h⟩ := tl_b2i h
      refine tl_iload_n dX10_about_40 rfl (tl_aload_n dX10_about_41 rfl (tl_getr (f := 3) (o := 2) tl_ck10 dX10_about_42 fl_X10_13 (Nat.le_of_ble_eq_true rfl) rfl h1 (tl_iload_n dX10_about_45 rfl (tl_iconst (v := 1) dX10_about_46 ic_1 (tl_iS3 (l10_ofLamp (tt_10_3 h1) e7) dX10_about_47 cs_X10_about_47 ⟨rfl, rfl⟩ ⟨Nat.zero_le _, Nat.zero_le _⟩ (Nat.le_of_ble_eq_true rfl) (tl_iadd dX10_about_50 (tl_isto_n dX10_about_51 (Nat.le_of_ble_eq_true rfl) (fun x10 e => ?_))))))))
      have h := tl_leteq e h
      clear e
      refine tl_iincK dX10_about_52 rfl (ii_1 _) (Nat.le_of_ble_eq_true rfl) (fun x11 e => ?_)
      have h := tl_leteq e h
      clear e
      refine tl_goto (tgt := 30) dX10_about_55 (by decide) (?_)
      exact ih _ _ _ _ _  h1 h

theorem l10_about {E : tl_E} {a0 : Nat} {x1 : Int32}  {u : tl_S} {r : Int32} {v : tl_S} (h0 : tl_T E.2.1 a0 = some 10) (h : f10_about a0 x1 u = some (r, v)) : tl_MB E mX10_about [.ref a0, .int x1] u (fun q w => q = some (.int r) ∧ w = v) := by
  unfold f10_about at h
  refine tl_start [some (.ref a0), some (.int x1), none, none] rfl rfl rfl (Nat.le_of_ble_eq_true rfl) ?_
  obtain ⟨x5, u4, e3, h⟩ := tl_b2i h
  refine tl_aload_n dX10_about_0 rfl (tl_iload_n dX10_about_1 rfl (tl_i2l dX10_about_2 (tl_lconst (v := 0) dX10_about_3 lc_0 (tl_ldc2 dX10_about_4 kl_X10_49 (tl_iS3 (l10_in  e3) dX10_about_7 cs_X10_about_7 ⟨rfl, rfl⟩ ⟨Nat.zero_le _, Nat.zero_le _⟩ (Nat.le_of_ble_eq_true rfl) (tl_if_eq (tgt := 17) dX10_about_10 (by decide) (fun c6 => ?_) (fun c6 => ?_)))))))
  · replace h := tl_ip h c6
    obtain ⟨x9, u8, e7, h⟩ := tl_b2i h
    refine tl_iconst (v := 1) dX10_about_17 ic_1 (tl_iV1 tl_ck10 rfl h0 (l10_refused h0 e7) dX10_about_18 cs_X10_about_18 ⟨rfl, rfl⟩ ⟨Nat.zero_le _, Nat.zero_le _⟩ (Nat.le_of_ble_eq_true rfl) (tl_if_eq (tgt := 26) dX10_about_21 (by decide) (fun c10 => ?_) (fun c10 => ?_)))
    · replace h := tl_ip h c10
      refine tl_iconst (v := 0) dX10_about_26 ic_0 (tl_istore_n dX10_about_27 (Nat.le_of_ble_eq_true rfl) (tl_iconst (v := 0) dX10_about_28 ic_0 (tl_istore_n dX10_about_29 (Nat.le_of_ble_eq_true rfl) (?_))))
      exact l10_about_p30 tl_F _ _ _ _ _  h0 h
    · replace h := tl_in h c10
      exact tl_iconst (v := 0) dX10_about_24 ic_0 (tl_iretE dX10_about_25 rfl rfl h)
  · replace h := tl_in h c6
    obtain ⟨x9, u8, e7, h⟩ := tl_b2i h
    refine tl_iconst (v := 0) dX10_about_13 ic_0 (tl_goto (tgt := 18) dX10_about_14 (by decide) (tl_iV1 tl_ck10 rfl h0 (l10_refused h0 e7) dX10_about_18 cs_X10_about_18 ⟨rfl, rfl⟩ ⟨Nat.zero_le _, Nat.zero_le _⟩ (Nat.le_of_ble_eq_true rfl) (tl_if_eq (tgt := 26) dX10_about_21 (by decide) (fun c10 => ?_) (fun c10 => ?_))))
    · replace h := tl_ip h c10
      refine tl_iconst (v := 0) dX10_about_26 ic_0 (tl_istore_n dX10_about_27 (Nat.le_of_ble_eq_true rfl) (tl_iconst (v := 0) dX10_about_28 ic_0 (tl_istore_n dX10_about_29 (Nat.le_of_ble_eq_true rfl) (?_))))
      exact l10_about_p30 tl_F _ _ _ _ _  h0 h
    · replace h := tl_in h c10
      exact tl_iconst (v := 0) dX10_about_24 ic_0 (tl_iretE dX10_about_25 rfl rfl h)

theorem cs_X10_galleryOf_6 : tl_cS mX10_galleryOf mX10_isGallery 41 2 := ⟨cd_X10_isGallery, ml_X10_41, sm_X10_isGallery, in_X10, ⟨by decide, by decide, by decide +kernel⟩, Nat.le_of_ble_eq_true rfl, Nat.le_of_ble_eq_true rfl⟩
theorem cs_X10_galleryOf_22 : tl_cS mX10_galleryOf mX10_in 37 3 := ⟨cd_X10_in, ml_X10_37, sm_X10_in, in_X10, ⟨by decide, by decide, by decide +kernel⟩, Nat.le_of_ble_eq_true rfl, Nat.le_of_ble_eq_true rfl⟩
theorem cs_X10_galleryOf_33 : tl_cV mX10_galleryOf mX10_refused 152 1 := ⟨cd_X10_refused, ml_X10_152, im_X10_refused, se_X10_refused, in_X10, ⟨by decide, by decide, by decide +kernel⟩, Nat.le_of_ble_eq_true rfl, Nat.le_of_ble_eq_true rfl⟩
theorem cs_X10_galleryOf_188 : tl_cS mX10_galleryOf mX10_depth 45 2 := ⟨cd_X10_depth, ml_X10_45, sm_X10_depth, in_X10, ⟨by decide, by decide, by decide +kernel⟩, Nat.le_of_ble_eq_true rfl, Nat.le_of_ble_eq_true rfl⟩
theorem cs_X10_galleryOf_191 : tl_cS mX10_galleryOf mX10_hard 106 2 := ⟨cd_X10_hard, ml_X10_106, sm_X10_hard, in_X10, ⟨by decide, by decide, by decide +kernel⟩, Nat.le_of_ble_eq_true rfl, Nat.le_of_ble_eq_true rfl⟩
theorem cs_X10_galleryOf_205 : tl_cS mX10_galleryOf mX10_depth 45 2 := ⟨cd_X10_depth, ml_X10_45, sm_X10_depth, in_X10, ⟨by decide, by decide, by decide +kernel⟩, Nat.le_of_ble_eq_true rfl, Nat.le_of_ble_eq_true rfl⟩
theorem cs_X10_galleryOf_208 : tl_cS mX10_galleryOf mX10_isLit 102 3 := ⟨cd_X10_isLit, ml_X10_102, sm_X10_isLit, in_X10, ⟨by decide, by decide, by decide +kernel⟩, Nat.le_of_ble_eq_true rfl, Nat.le_of_ble_eq_true rfl⟩
theorem cs_X10_galleryOf_111 : tl_cS mX10_galleryOf mX10_ofLamp 51 3 := ⟨cd_X10_ofLamp, ml_X10_51, sm_X10_ofLamp, in_X10, ⟨by decide, by decide, by decide +kernel⟩, Nat.le_of_ble_eq_true rfl, Nat.le_of_ble_eq_true rfl⟩
theorem cs_X10_galleryOf_65 : tl_cS mX10_galleryOf mX10_ofMiner 99 3 := ⟨cd_X10_ofMiner, ml_X10_99, sm_X10_ofMiner, in_X10, ⟨by decide, by decide, by decide +kernel⟩, Nat.le_of_ble_eq_true rfl, Nat.le_of_ble_eq_true rfl⟩
def f10_galleryOf_p91 : Nat → Nat → Int32 → Int32 → Int32 → Int32 → Int32 → tl_S → Option (Int32 × tl_S)
  | 0, _, _, _, _, _, _, _ => none
  | fu + 1, a1, x2, x3, x4, x5, x6, u =>
  (if (u.1 (a1 + 2) 2) ≤ x6 then (if x3.toInt < 0 ∨ 4 < x3.toInt then some (x5, u) else (if x3.toInt = 0 then tl_g (¬ (((18 + (2 * x2)) + x3) < 0 ∨ 104 ≤ ((18 + (2 * x2)) + x3).toNatClampNeg)) (some ((u.1 (a1 + 2) ((18 + (2 * x2)) + x3).toNatClampNeg), u)) else (if x3.toInt = 1 then tl_g (¬ (((18 + (2 * x2)) + x3) < 0 ∨ 104 ≤ ((18 + (2 * x2)) + x3).toNatClampNeg)) (some ((u.1 (a1 + 2) ((18 + (2 * x2)) + x3).toNatClampNeg), u)) else (if x3.toInt = 2 then tl_b2 (f10_depth (a1 + 2) x2 u) (fun x13 u12 => tl_b2 (f10_hard x2 x13 u12) (fun x16 u15 => some (x16, u15))) else (if x3.toInt = 3 then tl_b2 (f10_depth (a1 + 2) x2 u) (fun x13 u12 => tl_b2 (f10_isLit (a1 + 2) x2 x13 u12) (fun x16 u15 => (if x16 = 0 then some (0, u15) else some (1, u15)))) else some (x4, u)))))) else tl_b2 (f10_ofLamp (a1 + 2) x6 2 u) (fun x11 u10 => (if x11 = x2 then tl_let ((x5 + 1)) (fun x13 => tl_let (x6 + 1) (fun x14 => f10_galleryOf_p91 fu a1 x2 x3 x4 x13 x14 u10)) else tl_let ((x5 + 0)) (fun x13 => tl_let (x6 + 1) (fun x14 => f10_galleryOf_p91 fu a1 x2 x3 x4 x13 x14 u10)))))

def f10_galleryOf_p46 : Nat → Nat → Int32 → Int32 → Int32 → Int32 → tl_S → Option (Int32 × tl_S)
  | 0, _, _, _, _, _, _ => none
  | fu + 1, a1, x2, x3, x4, x5, u =>
  (if (u.1 (a1 + 2) 1) ≤ x5 then f10_galleryOf_p91 tl_F a1 x2 x3 x4 0 0 u else tl_b2 (f10_ofMiner (a1 + 2) x5 0 u) (fun x10 u9 => (if x10 = x2 then tl_let ((x4 + 1)) (fun x12 => tl_let (x5 + 1) (fun x13 => f10_galleryOf_p46 fu a1 x2 x3 x12 x13 u9)) else tl_let ((x4 + 0)) (fun x12 => tl_let (x5 + 1) (fun x13 => f10_galleryOf_p46 fu a1 x2 x3 x12 x13 u9)))))

def f10_galleryOf_p33 (a1 : Nat) (x2 : Int32) (x3 : Int32) (x4 : Int32) (a5 : Nat) (u : tl_S) : Option (Int32 × tl_S) :=
  tl_b2 (f10_refused a5 x4 u) (fun x9 u8 => (if x9 = 0 then f10_galleryOf_p46 tl_F a1 x2 x3 0 0 u8 else some (0, u8)))

def f10_galleryOf (a0 : Nat) (x1 : Int32) (x2 : Int32) (u : tl_S) : Option (Int32 × tl_S) :=
  tl_b2 (f10_isGallery (a0 + 2) x1 u) (fun x6 u5 => (if x6 = 0 then f10_galleryOf_p33 a0 x1 x2 1 a0 u5 else tl_b2 (f10_in ((x2 : Int32).toInt64) 0 5 u5) (fun x10 u9 => (if x10 = 0 then f10_galleryOf_p33 a0 x1 x2 2 a0 u9 else f10_galleryOf_p33 a0 x1 x2 0 a0 u9))))

theorem l10_galleryOf_p91 {E : tl_E}  {r : Int32} {v : tl_S} : ∀ (n : Nat) (a1 : Nat) (x2 : Int32) (x3 : Int32) (x4 : Int32) (x5 : Int32) (x6 : Int32) (u : tl_S) , tl_T E.2.1 a1 = some 10 → f10_galleryOf_p91 n a1 x2 x3 x4 x5 x6 u = some (r, v) → tl_R E mX10_galleryOf tl_X0 (tl_ZB E mX10_galleryOf (fun q w => q = some (.int r) ∧ w = v)) 0 0 (tl_HB E u) 91 [some (.ref a1), some (.int x2), some (.int x3), some (.int x4), some (.int x5), some (.int x6)] [] := by
  intro n
  induction n with
  | zero => intro a1 x2 x3 x4 x5 x6 u  h1 h; exact absurd h (by simp [f10_galleryOf_p91])
  | succ n ih =>
    intro a1 x2 x3 x4 x5 x6 u  h1 h
    rw [f10_galleryOf_p91] at h
    refine tl_iload dX10_galleryOf_91 rfl (tl_aload_n dX10_galleryOf_93 rfl (tl_getr (f := 3) (o := 2) tl_ck10 dX10_galleryOf_94 fl_X10_13 (Nat.le_of_ble_eq_true rfl) rfl h1 (tl_iconst (v := 2) dX10_galleryOf_97 ic_2 (tl_iald (j := 2) (fun _ _ => rfl) dX10_galleryOf_98 (tt_10_3 h1) (li_2 104 rfl) lx_2 (tl_icmp_ge (tgt := 132) dX10_galleryOf_99 (by decide) (fun c8 => ?_) (fun c8 => ?_))))))
    · replace h := tl_ip h c8
      refine tl_iload_n dX10_galleryOf_132 rfl (?_)
      by_cases c9 : x3.toInt < 0 ∨ 4 < x3.toInt
      · replace h := tl_ip h c9
        refine tl_tableOut (tgt := 222) dX10_galleryOf_133 c9 (by decide) ?_
        exact tl_iload dX10_galleryOf_222 rfl (tl_iretE dX10_galleryOf_224 rfl rfl h)
      replace h := tl_in h c9
      by_cases c10_0 : x3.toInt = 0
      · replace h := tl_ip h c10_0
        refine tl_tableIn (off := 35) (tgt := 168) dX10_galleryOf_133 (by omega) (by omega) (by rw [c10_0]; rfl) (by decide) ?_
        obtain ⟨g11, h⟩ := tl_gi h
        exact tl_aload_n dX10_galleryOf_168 rfl (tl_getr (f := 3) (o := 2) tl_ck10 dX10_galleryOf_169 fl_X10_13 (Nat.le_of_ble_eq_true rfl) rfl h1 (tl_bipush (v := 18) dX10_galleryOf_172 bp_18 (tl_iconst (v := 2) dX10_galleryOf_174 ic_2 (tl_iload_n dX10_galleryOf_175 rfl (tl_imul dX10_galleryOf_176 (tl_iadd dX10_galleryOf_177 (tl_iload_n dX10_galleryOf_178 rfl (tl_iadd dX10_galleryOf_179 (tl_iald (j := ((18 + (2 * x2)) + x3).toNatClampNeg) (fun _ _ => rfl) dX10_galleryOf_180 (tt_10_3 h1) g11 rfl (tl_iretE dX10_galleryOf_181 rfl rfl h))))))))))
      replace h := tl_in h c10_0
      by_cases c10_1 : x3.toInt = 1
      · replace h := tl_ip h c10_1
        refine tl_tableIn (off := 35) (tgt := 168) dX10_galleryOf_133 (by omega) (by omega) (by rw [c10_1]; rfl) (by decide) ?_
        obtain ⟨g11, h⟩ := tl_gi h
        exact tl_aload_n dX10_galleryOf_168 rfl (tl_getr (f := 3) (o := 2) tl_ck10 dX10_galleryOf_169 fl_X10_13 (Nat.le_of_ble_eq_true rfl) rfl h1 (tl_bipush (v := 18) dX10_galleryOf_172 bp_18 (tl_iconst (v := 2) dX10_galleryOf_174 ic_2 (tl_iload_n dX10_galleryOf_175 rfl (tl_imul dX10_galleryOf_176 (tl_iadd dX10_galleryOf_177 (tl_iload_n dX10_galleryOf_178 rfl (tl_iadd dX10_galleryOf_179 (tl_iald (j := ((18 + (2 * x2)) + x3).toNatClampNeg) (fun _ _ => rfl) dX10_galleryOf_180 (tt_10_3 h1) g11 rfl (tl_iretE dX10_galleryOf_181 rfl rfl h))))))))))
      replace h := tl_in h c10_1
      by_cases c10_2 : x3.toInt = 2
      · replace h := tl_ip h c10_2
        refine tl_tableIn (off := 49) (tgt := 182) dX10_galleryOf_133 (by omega) (by omega) (by rw [c10_2]; rfl) (by decide) ?_
        obtain ⟨x13, u12, e11, h⟩ := tl_b2i h
        obtain ⟨x16, u15, e14, h⟩ := tl_b2i h
        exact tl_iload_n dX10_galleryOf_182 rfl (tl_aload_n dX10_galleryOf_183 rfl (tl_getr (f := 3) (o := 2) tl_ck10 dX10_galleryOf_184 fl_X10_13 (Nat.le_of_ble_eq_true rfl) rfl h1 (tl_iload_n dX10_galleryOf_187 rfl (tl_iS2 (l10_depth (tt_10_3 h1) e11) dX10_galleryOf_188 cs_X10_galleryOf_188 ⟨rfl, rfl⟩ ⟨Nat.zero_le _, Nat.zero_le _⟩ (Nat.le_of_ble_eq_true rfl) (tl_iS2 (l10_hard  e14) dX10_galleryOf_191 cs_X10_galleryOf_191 ⟨rfl, rfl⟩ ⟨Nat.zero_le _, Nat.zero_le _⟩ (Nat.le_of_ble_eq_true rfl) (tl_iretE dX10_galleryOf_194 rfl rfl h))))))
      replace h := tl_in h c10_2
      by_cases c10_3 : x3.toInt = 3
      · replace h := tl_ip h c10_3
        refine tl_tableIn (off := 62) (tgt := 195) dX10_galleryOf_133 (by omega) (by omega) (by rw [c10_3]; rfl) (by decide) ?_
        obtain ⟨x13, u12, e11, h⟩ := tl_b2i h
        obtain ⟨x16, u15, e14, h⟩ := tl_b2i h
        refine tl_aload_n dX10_galleryOf_195 rfl (tl_getr (f := 3) (o := 2) tl_ck10 dX10_galleryOf_196 fl_X10_13 (Nat.le_of_ble_eq_true rfl) rfl h1 (tl_iload_n dX10_galleryOf_199 rfl (tl_aload_n dX10_galleryOf_200 rfl (tl_getr (f := 3) (o := 2) tl_ck10 dX10_galleryOf_201 fl_X10_13 (Nat.le_of_ble_eq_true rfl) rfl h1 (tl_iload_n dX10_galleryOf_204 rfl (tl_iS2 (l10_depth (tt_10_3 h1) e11) dX10_galleryOf_205 cs_X10_galleryOf_205 ⟨rfl, rfl⟩ ⟨Nat.zero_le _, Nat.zero_le _⟩ (Nat.le_of_ble_eq_true rfl) (tl_iS3 (l10_isLit (tt_10_3 h1) e14) dX10_galleryOf_208 cs_X10_galleryOf_208 ⟨rfl, rfl⟩ ⟨Nat.zero_le _, Nat.zero_le _⟩ (Nat.le_of_ble_eq_true rfl) (tl_if_eq (tgt := 218) dX10_galleryOf_211 (by decide) (fun c17 => ?_) (fun c17 => ?_)))))))))
        · replace h := tl_ip h c17
          exact tl_iconst (v := 0) dX10_galleryOf_218 ic_0 (tl_iretE dX10_galleryOf_219 rfl rfl h)
        · replace h := tl_in h c17
          exact tl_iconst (v := 1) dX10_galleryOf_214 ic_1 (tl_goto (tgt := 219) dX10_galleryOf_215 (by decide) (tl_iretE dX10_galleryOf_219 rfl rfl h))
      replace h := tl_in h c10_3
      have c10_4 : x3.toInt = 4 := by omega
      refine tl_tableIn (off := 87) (tgt := 220) dX10_galleryOf_133 (by omega) (by omega) (by rw [c10_4]; rfl) (by decide) ?_
      exact tl_iload_n dX10_galleryOf_220 rfl (tl_iretE dX10_galleryOf_221 rfl rfl h)
    · replace h := tl_in h c8
      obtain ⟨x11, u10, e9, h⟩ := tl_b2i h
      refine tl_iload dX10_galleryOf_102 rfl (tl_aload_n dX10_galleryOf_104 rfl (tl_getr (f := 3) (o := 2) tl_ck10 dX10_galleryOf_105 fl_X10_13 (Nat.le_of_ble_eq_true rfl) rfl h1 (tl_iload dX10_galleryOf_108 rfl (tl_iconst (v := 2) dX10_galleryOf_110 ic_2 (tl_iS3 (l10_ofLamp (tt_10_3 h1) e9) dX10_galleryOf_111 cs_X10_galleryOf_111 ⟨rfl, rfl⟩ ⟨Nat.zero_le _, Nat.zero_le _⟩ (Nat.le_of_ble_eq_true rfl) (tl_iload_n dX10_galleryOf_114 rfl (tl_icmp_ne (tgt := 122) dX10_galleryOf_115 (by decide) (fun c12 => ?_) (fun c12 => ?_))))))))
      · replace h := tl_in h c12
        refine tl_iconst (v := 0) dX10_galleryOf_122 ic_0 (tl_iadd dX10_galleryOf_123 (tl_isto dX10_galleryOf_124 (Nat.le_of_ble_eq_true rfl) (fun x13 e => ?_)))
        have h := tl_leteq e h
        clear e
        refine tl_iincK dX10_galleryOf_126 rfl (ii_1 _) (Nat.le_of_ble_eq_true rfl) (fun x14 e => ?_)
        have h := tl_leteq e h
        clear e
        refine tl_goto (tgt := 91) dX10_galleryOf_129 (by decide) (?_)
        exact ih _ _ _ _ _ _ _  h1 h
      · replace h := tl_ip h c12
        refine tl_iconst (v := 1) dX10_galleryOf_118 ic_1 (tl_goto (tgt := 123) dX10_galleryOf_119 (by decide) (tl_iadd dX10_galleryOf_123 (tl_isto dX10_galleryOf_124 (Nat.le_of_ble_eq_true rfl) (fun x13 e => ?_))))
        have h := tl_leteq e h
        clear e
        refine tl_iincK dX10_galleryOf_126 rfl (ii_1 _) (Nat.le_of_ble_eq_true rfl) (fun x14 e => ?_)
        have h := tl_leteq e h
        clear e
        refine tl_goto (tgt := 91) dX10_galleryOf_129 (by decide) (?_)
        exact ih _ _ _ _ _ _ _  h1 h

theorem l10_galleryOf_p46 {E : tl_E}  {r : Int32} {v : tl_S} : ∀ (n : Nat) (a1 : Nat) (x2 : Int32) (x3 : Int32) (x4 : Int32) (x5 : Int32) (u : tl_S) (d5 : Option Value), tl_T E.2.1 a1 = some 10 → f10_galleryOf_p46 n a1 x2 x3 x4 x5 u = some (r, v) → tl_R E mX10_galleryOf tl_X0 (tl_ZB E mX10_galleryOf (fun q w => q = some (.int r) ∧ w = v)) 0 0 (tl_HB E u) 46 [some (.ref a1), some (.int x2), some (.int x3), some (.int x4), some (.int x5), d5] [] := by
  intro n
  induction n with
  | zero => intro a1 x2 x3 x4 x5 u d5 h1 h; exact absurd h (by simp [f10_galleryOf_p46])
  | succ n ih =>
    intro a1 x2 x3 x4 x5 u d5 h1 h
    rw [f10_galleryOf_p46] at h
    refine tl_iload dX10_galleryOf_46 rfl (tl_aload_n dX10_galleryOf_48 rfl (tl_getr (f := 3) (o := 2) tl_ck10 dX10_galleryOf_49 fl_X10_13 (Nat.le_of_ble_eq_true rfl) rfl h1 (tl_iconst (v := 1) dX10_galleryOf_52 ic_1 (tl_iald (j := 1) (fun _ _ => rfl) dX10_galleryOf_53 (tt_10_3 h1) (li_1 104 rfl) lx_1 (tl_icmp_ge (tgt := 85) dX10_galleryOf_54 (by decide) (fun c7 => ?_) (fun c7 => ?_))))))
    · replace h := tl_ip h c7
      refine tl_iconst (v := 0) dX10_galleryOf_85 ic_0 (tl_istore dX10_galleryOf_86 (Nat.le_of_ble_eq_true rfl) (tl_iconst (v := 0) dX10_galleryOf_88 ic_0 (tl_istore dX10_galleryOf_89 (Nat.le_of_ble_eq_true rfl) (?_))))
      exact l10_galleryOf_p91 tl_F _ _ _ _ _ _ _  h1 h
    · replace h := tl_in h c7
      obtain ⟨x10, u9, e8, h⟩ := tl_b2i h
      refine tl_iload_n dX10_galleryOf_57 rfl (tl_aload_n dX10_galleryOf_58 rfl (tl_getr (f := 3) (o := 2) tl_ck10 dX10_galleryOf_59 fl_X10_13 (Nat.le_of_ble_eq_true rfl) rfl h1 (tl_iload dX10_galleryOf_62 rfl (tl_iconst (v := 0) dX10_galleryOf_64 ic_0 (tl_iS3 (l10_ofMiner (tt_10_3 h1) e8) dX10_galleryOf_65 cs_X10_galleryOf_65 ⟨rfl, rfl⟩ ⟨Nat.zero_le _, Nat.zero_le _⟩ (Nat.le_of_ble_eq_true rfl) (tl_iload_n dX10_galleryOf_68 rfl (tl_icmp_ne (tgt := 76) dX10_galleryOf_69 (by decide) (fun c11 => ?_) (fun c11 => ?_))))))))
      · replace h := tl_in h c11
        refine tl_iconst (v := 0) dX10_galleryOf_76 ic_0 (tl_iadd dX10_galleryOf_77 (tl_isto_n dX10_galleryOf_78 (Nat.le_of_ble_eq_true rfl) (fun x12 e => ?_)))
        have h := tl_leteq e h
        clear e
        refine tl_iincK dX10_galleryOf_79 rfl (ii_1 _) (Nat.le_of_ble_eq_true rfl) (fun x13 e => ?_)
        have h := tl_leteq e h
        clear e
        refine tl_goto (tgt := 46) dX10_galleryOf_82 (by decide) (?_)
        exact ih _ _ _ _ _ _ _ h1 h
      · replace h := tl_ip h c11
        refine tl_iconst (v := 1) dX10_galleryOf_72 ic_1 (tl_goto (tgt := 77) dX10_galleryOf_73 (by decide) (tl_iadd dX10_galleryOf_77 (tl_isto_n dX10_galleryOf_78 (Nat.le_of_ble_eq_true rfl) (fun x12 e => ?_))))
        have h := tl_leteq e h
        clear e
        refine tl_iincK dX10_galleryOf_79 rfl (ii_1 _) (Nat.le_of_ble_eq_true rfl) (fun x13 e => ?_)
        have h := tl_leteq e h
        clear e
        refine tl_goto (tgt := 46) dX10_galleryOf_82 (by decide) (?_)
        exact ih _ _ _ _ _ _ _ h1 h

theorem l10_galleryOf_p33 {E : tl_E} {a1 : Nat} {x2 : Int32} {x3 : Int32} {x4 : Int32} {a5 : Nat}  {d3 : Option Value} {d4 : Option Value} {d5 : Option Value} {u : tl_S} {r : Int32} {v : tl_S} (h1 : tl_T E.2.1 a1 = some 10) (h5 : tl_T E.2.1 a5 = some 10) (h : f10_galleryOf_p33 a1 x2 x3 x4 a5 u = some (r, v)) : tl_R E mX10_galleryOf tl_X0 (tl_ZB E mX10_galleryOf (fun q w => q = some (.int r) ∧ w = v)) 0 0 (tl_HB E u) 33 [some (.ref a1), some (.int x2), some (.int x3), d3, d4, d5] [.int x4, .ref a5] := by
  unfold f10_galleryOf_p33 at h
  obtain ⟨x9, u8, e7, h⟩ := tl_b2i h
  refine tl_iV1 tl_ck10 rfl h5 (l10_refused h5 e7) dX10_galleryOf_33 cs_X10_galleryOf_33 ⟨rfl, rfl⟩ ⟨Nat.zero_le _, Nat.zero_le _⟩ (Nat.le_of_ble_eq_true rfl) (tl_if_eq (tgt := 41) dX10_galleryOf_36 (by decide) (fun c10 => ?_) (fun c10 => ?_))
  · replace h := tl_ip h c10
    refine tl_iconst (v := 0) dX10_galleryOf_41 ic_0 (tl_istore_n dX10_galleryOf_42 (Nat.le_of_ble_eq_true rfl) (tl_iconst (v := 0) dX10_galleryOf_43 ic_0 (tl_istore dX10_galleryOf_44 (Nat.le_of_ble_eq_true rfl) (?_))))
    exact l10_galleryOf_p46 tl_F _ _ _ _ _ _ _ h1 h
  · replace h := tl_in h c10
    exact tl_iconst (v := 0) dX10_galleryOf_39 ic_0 (tl_iretE dX10_galleryOf_40 rfl rfl h)

theorem l10_galleryOf {E : tl_E} {a0 : Nat} {x1 : Int32} {x2 : Int32}  {u : tl_S} {r : Int32} {v : tl_S} (h0 : tl_T E.2.1 a0 = some 10) (h : f10_galleryOf a0 x1 x2 u = some (r, v)) : tl_MB E mX10_galleryOf [.ref a0, .int x1, .int x2] u (fun q w => q = some (.int r) ∧ w = v) := by
  unfold f10_galleryOf at h
  refine tl_start [some (.ref a0), some (.int x1), some (.int x2), none, none, none] rfl rfl rfl (Nat.le_of_ble_eq_true rfl) ?_
  obtain ⟨x6, u5, e4, h⟩ := tl_b2i h
  refine tl_aload_n dX10_galleryOf_0 rfl (tl_aload_n dX10_galleryOf_1 rfl (tl_getr (f := 3) (o := 2) tl_ck10 dX10_galleryOf_2 fl_X10_13 (Nat.le_of_ble_eq_true rfl) rfl h0 (tl_iload_n dX10_galleryOf_5 rfl (tl_iS2 (l10_isGallery (tt_10_3 h0) e4) dX10_galleryOf_6 cs_X10_galleryOf_6 ⟨rfl, rfl⟩ ⟨Nat.zero_le _, Nat.zero_le _⟩ (Nat.le_of_ble_eq_true rfl) (tl_if_ne (tgt := 16) dX10_galleryOf_9 (by decide) (fun c7 => ?_) (fun c7 => ?_))))))
  · replace h := tl_in h c7
    obtain ⟨x10, u9, e8, h⟩ := tl_b2i h
    refine tl_iload_n dX10_galleryOf_16 rfl (tl_i2l dX10_galleryOf_17 (tl_lconst (v := 0) dX10_galleryOf_18 lc_0 (tl_ldc2 dX10_galleryOf_19 kl_X10_227 (tl_iS3 (l10_in  e8) dX10_galleryOf_22 cs_X10_galleryOf_22 ⟨rfl, rfl⟩ ⟨Nat.zero_le _, Nat.zero_le _⟩ (Nat.le_of_ble_eq_true rfl) (tl_if_eq (tgt := 32) dX10_galleryOf_25 (by decide) (fun c11 => ?_) (fun c11 => ?_))))))
    · replace h := tl_ip h c11
      refine tl_iconst (v := 2) dX10_galleryOf_32 ic_2 (?_)
      exact l10_galleryOf_p33 h0 h0 h
    · replace h := tl_in h c11
      refine tl_iconst (v := 0) dX10_galleryOf_28 ic_0 (tl_goto (tgt := 33) dX10_galleryOf_29 (by decide) (?_))
      exact l10_galleryOf_p33 h0 h0 h
  · replace h := tl_ip h c7
    refine tl_iconst (v := 1) dX10_galleryOf_12 ic_1 (tl_goto (tgt := 33) dX10_galleryOf_13 (by decide) (?_))
    exact l10_galleryOf_p33 h0 h0 h

theorem cs_X10_minerOf_6 : tl_cS mX10_minerOf mX10_isMiner 229 2 := ⟨cd_X10_isMiner, ml_X10_229, sm_X10_isMiner, in_X10, ⟨by decide, by decide, by decide +kernel⟩, Nat.le_of_ble_eq_true rfl, Nat.le_of_ble_eq_true rfl⟩
theorem cs_X10_minerOf_22 : tl_cS mX10_minerOf mX10_in 37 3 := ⟨cd_X10_in, ml_X10_37, sm_X10_in, in_X10, ⟨by decide, by decide, by decide +kernel⟩, Nat.le_of_ble_eq_true rfl, Nat.le_of_ble_eq_true rfl⟩
theorem cs_X10_minerOf_33 : tl_cV mX10_minerOf mX10_refused 152 1 := ⟨cd_X10_refused, ml_X10_152, im_X10_refused, se_X10_refused, in_X10, ⟨by decide, by decide, by decide +kernel⟩, Nat.le_of_ble_eq_true rfl, Nat.le_of_ble_eq_true rfl⟩
theorem cs_X10_minerOf_47 : tl_cS mX10_minerOf mX10_ofMiner 99 3 := ⟨cd_X10_ofMiner, ml_X10_99, sm_X10_ofMiner, in_X10, ⟨by decide, by decide, by decide +kernel⟩, Nat.le_of_ble_eq_true rfl, Nat.le_of_ble_eq_true rfl⟩
def f10_minerOf_p33 (a1 : Nat) (x2 : Int32) (x3 : Int32) (x4 : Int32) (a5 : Nat) (u : tl_S) : Option (Int32 × tl_S) :=
  tl_b2 (f10_refused a5 x4 u) (fun x9 u8 => (if x9 = 0 then tl_b2 (f10_ofMiner (a1 + 2) x2 x3 u8) (fun x13 u12 => some (x13, u12)) else some (0, u8)))

def f10_minerOf (a0 : Nat) (x1 : Int32) (x2 : Int32) (u : tl_S) : Option (Int32 × tl_S) :=
  tl_b2 (f10_isMiner (a0 + 2) x1 u) (fun x6 u5 => (if x6 = 0 then f10_minerOf_p33 a0 x1 x2 1 a0 u5 else tl_b2 (f10_in ((x2 : Int32).toInt64) 0 3 u5) (fun x10 u9 => (if x10 = 0 then f10_minerOf_p33 a0 x1 x2 2 a0 u9 else f10_minerOf_p33 a0 x1 x2 0 a0 u9))))

theorem l10_minerOf_p33 {E : tl_E} {a1 : Nat} {x2 : Int32} {x3 : Int32} {x4 : Int32} {a5 : Nat}   {u : tl_S} {r : Int32} {v : tl_S} (h1 : tl_T E.2.1 a1 = some 10) (h5 : tl_T E.2.1 a5 = some 10) (h : f10_minerOf_p33 a1 x2 x3 x4 a5 u = some (r, v)) : tl_R E mX10_minerOf tl_X0 (tl_ZB E mX10_minerOf (fun q w => q = some (.int r) ∧ w = v)) 0 0 (tl_HB E u) 33 [some (.ref a1), some (.int x2), some (.int x3)] [.int x4, .ref a5] := by
  unfold f10_minerOf_p33 at h
  obtain ⟨x9, u8, e7, h⟩ := tl_b2i h
  refine tl_iV1 tl_ck10 rfl h5 (l10_refused h5 e7) dX10_minerOf_33 cs_X10_minerOf_33 ⟨rfl, rfl⟩ ⟨Nat.zero_le _, Nat.zero_le _⟩ (Nat.le_of_ble_eq_true rfl) (tl_if_eq (tgt := 41) dX10_minerOf_36 (by decide) (fun c10 => ?_) (fun c10 => ?_))
  · replace h := tl_ip h c10
    obtain ⟨x13, u12, e11, h⟩ := tl_b2i h
    exact tl_aload_n dX10_minerOf_41 rfl (tl_getr (f := 3) (o := 2) tl_ck10 dX10_minerOf_42 fl_X10_13 (Nat.le_of_ble_eq_true rfl) rfl h1 (tl_iload_n dX10_minerOf_45 rfl (tl_iload_n dX10_minerOf_46 rfl (tl_iS3 (l10_ofMiner (tt_10_3 h1) e11) dX10_minerOf_47 cs_X10_minerOf_47 ⟨rfl, rfl⟩ ⟨Nat.zero_le _, Nat.zero_le _⟩ (Nat.le_of_ble_eq_true rfl) (tl_iretE dX10_minerOf_50 rfl rfl h)))))
  · replace h := tl_in h c10
    exact tl_iconst (v := 0) dX10_minerOf_39 ic_0 (tl_iretE dX10_minerOf_40 rfl rfl h)

theorem l10_minerOf {E : tl_E} {a0 : Nat} {x1 : Int32} {x2 : Int32}  {u : tl_S} {r : Int32} {v : tl_S} (h0 : tl_T E.2.1 a0 = some 10) (h : f10_minerOf a0 x1 x2 u = some (r, v)) : tl_MB E mX10_minerOf [.ref a0, .int x1, .int x2] u (fun q w => q = some (.int r) ∧ w = v) := by
  unfold f10_minerOf at h
  refine tl_start [some (.ref a0), some (.int x1), some (.int x2)] rfl rfl rfl (Nat.le_of_ble_eq_true rfl) ?_
  obtain ⟨x6, u5, e4, h⟩ := tl_b2i h
  refine tl_aload_n dX10_minerOf_0 rfl (tl_aload_n dX10_minerOf_1 rfl (tl_getr (f := 3) (o := 2) tl_ck10 dX10_minerOf_2 fl_X10_13 (Nat.le_of_ble_eq_true rfl) rfl h0 (tl_iload_n dX10_minerOf_5 rfl (tl_iS2 (l10_isMiner (tt_10_3 h0) e4) dX10_minerOf_6 cs_X10_minerOf_6 ⟨rfl, rfl⟩ ⟨Nat.zero_le _, Nat.zero_le _⟩ (Nat.le_of_ble_eq_true rfl) (tl_if_ne (tgt := 16) dX10_minerOf_9 (by decide) (fun c7 => ?_) (fun c7 => ?_))))))
  · replace h := tl_in h c7
    obtain ⟨x10, u9, e8, h⟩ := tl_b2i h
    refine tl_iload_n dX10_minerOf_16 rfl (tl_i2l dX10_minerOf_17 (tl_lconst (v := 0) dX10_minerOf_18 lc_0 (tl_ldc2 dX10_minerOf_19 kl_X10_232 (tl_iS3 (l10_in  e8) dX10_minerOf_22 cs_X10_minerOf_22 ⟨rfl, rfl⟩ ⟨Nat.zero_le _, Nat.zero_le _⟩ (Nat.le_of_ble_eq_true rfl) (tl_if_eq (tgt := 32) dX10_minerOf_25 (by decide) (fun c11 => ?_) (fun c11 => ?_))))))
    · replace h := tl_ip h c11
      refine tl_iconst (v := 2) dX10_minerOf_32 ic_2 (?_)
      exact l10_minerOf_p33 h0 h0 h
    · replace h := tl_in h c11
      refine tl_iconst (v := 0) dX10_minerOf_28 ic_0 (tl_goto (tgt := 33) dX10_minerOf_29 (by decide) (?_))
      exact l10_minerOf_p33 h0 h0 h
  · replace h := tl_ip h c7
    refine tl_iconst (v := 1) dX10_minerOf_12 ic_1 (tl_goto (tgt := 33) dX10_minerOf_13 (by decide) (?_))
    exact l10_minerOf_p33 h0 h0 h

theorem cs_X10_lampOf_6 : tl_cS mX10_lampOf mX10_isLamp 142 2 := ⟨cd_X10_isLamp, ml_X10_142, sm_X10_isLamp, in_X10, ⟨by decide, by decide, by decide +kernel⟩, Nat.le_of_ble_eq_true rfl, Nat.le_of_ble_eq_true rfl⟩
theorem cs_X10_lampOf_22 : tl_cS mX10_lampOf mX10_in 37 3 := ⟨cd_X10_in, ml_X10_37, sm_X10_in, in_X10, ⟨by decide, by decide, by decide +kernel⟩, Nat.le_of_ble_eq_true rfl, Nat.le_of_ble_eq_true rfl⟩
theorem cs_X10_lampOf_33 : tl_cV mX10_lampOf mX10_refused 152 1 := ⟨cd_X10_refused, ml_X10_152, im_X10_refused, se_X10_refused, in_X10, ⟨by decide, by decide, by decide +kernel⟩, Nat.le_of_ble_eq_true rfl, Nat.le_of_ble_eq_true rfl⟩
theorem cs_X10_lampOf_72 : tl_cS mX10_lampOf mX10_ofLamp 51 3 := ⟨cd_X10_ofLamp, ml_X10_51, sm_X10_ofLamp, in_X10, ⟨by decide, by decide, by decide +kernel⟩, Nat.le_of_ble_eq_true rfl, Nat.le_of_ble_eq_true rfl⟩
theorem cs_X10_lampOf_52 : tl_cS mX10_lampOf mX10_ofLamp 51 3 := ⟨cd_X10_ofLamp, ml_X10_51, sm_X10_ofLamp, in_X10, ⟨by decide, by decide, by decide +kernel⟩, Nat.le_of_ble_eq_true rfl, Nat.le_of_ble_eq_true rfl⟩
def f10_lampOf_p33 (a1 : Nat) (x2 : Int32) (x3 : Int32) (x4 : Int32) (a5 : Nat) (u : tl_S) : Option (Int32 × tl_S) :=
  tl_b2 (f10_refused a5 x4 u) (fun x9 u8 => (if x9 = 0 then (if x3 = 4 then tl_b2 (f10_ofLamp (a1 + 2) x2 1 u8) (fun x14 u13 => (if x14 ≤ 0 then some (0, u13) else some (1, u13))) else tl_b2 (f10_ofLamp (a1 + 2) x2 x3 u8) (fun x14 u13 => some (x14, u13))) else some (0, u8)))

def f10_lampOf (a0 : Nat) (x1 : Int32) (x2 : Int32) (u : tl_S) : Option (Int32 × tl_S) :=
  tl_b2 (f10_isLamp (a0 + 2) x1 u) (fun x6 u5 => (if x6 = 0 then f10_lampOf_p33 a0 x1 x2 1 a0 u5 else tl_b2 (f10_in ((x2 : Int32).toInt64) 0 4 u5) (fun x10 u9 => (if x10 = 0 then f10_lampOf_p33 a0 x1 x2 2 a0 u9 else f10_lampOf_p33 a0 x1 x2 0 a0 u9))))

theorem l10_lampOf_p33 {E : tl_E} {a1 : Nat} {x2 : Int32} {x3 : Int32} {x4 : Int32} {a5 : Nat}   {u : tl_S} {r : Int32} {v : tl_S} (h1 : tl_T E.2.1 a1 = some 10) (h5 : tl_T E.2.1 a5 = some 10) (h : f10_lampOf_p33 a1 x2 x3 x4 a5 u = some (r, v)) : tl_R E mX10_lampOf tl_X0 (tl_ZB E mX10_lampOf (fun q w => q = some (.int r) ∧ w = v)) 0 0 (tl_HB E u) 33 [some (.ref a1), some (.int x2), some (.int x3)] [.int x4, .ref a5] := by
  unfold f10_lampOf_p33 at h
  obtain ⟨x9, u8, e7, h⟩ := tl_b2i h
  refine tl_iV1 tl_ck10 rfl h5 (l10_refused h5 e7) dX10_lampOf_33 cs_X10_lampOf_33 ⟨rfl, rfl⟩ ⟨Nat.zero_le _, Nat.zero_le _⟩ (Nat.le_of_ble_eq_true rfl) (tl_if_eq (tgt := 41) dX10_lampOf_36 (by decide) (fun c10 => ?_) (fun c10 => ?_))
  · replace h := tl_ip h c10
    refine tl_iload_n dX10_lampOf_41 rfl (tl_iconst (v := 4) dX10_lampOf_42 ic_4 (tl_icmp_ne (tgt := 66) dX10_lampOf_43 (by decide) (fun c11 => ?_) (fun c11 => ?_)))
    · replace h := tl_in h c11
      obtain ⟨x14, u13, e12, h⟩ := tl_b2i h
      exact tl_aload_n dX10_lampOf_66 rfl (tl_getr (f := 3) (o := 2) tl_ck10 dX10_lampOf_67 fl_X10_13 (Nat.le_of_ble_eq_true rfl) rfl h1 (tl_iload_n dX10_lampOf_70 rfl (tl_iload_n dX10_lampOf_71 rfl (tl_iS3 (l10_ofLamp (tt_10_3 h1) e12) dX10_lampOf_72 cs_X10_lampOf_72 ⟨rfl, rfl⟩ ⟨Nat.zero_le _, Nat.zero_le _⟩ (Nat.le_of_ble_eq_true rfl) (tl_iretE dX10_lampOf_75 rfl rfl h)))))
    · replace h := tl_ip h c11
      obtain ⟨x14, u13, e12, h⟩ := tl_b2i h
      refine tl_aload_n dX10_lampOf_46 rfl (tl_getr (f := 3) (o := 2) tl_ck10 dX10_lampOf_47 fl_X10_13 (Nat.le_of_ble_eq_true rfl) rfl h1 (tl_iload_n dX10_lampOf_50 rfl (tl_iconst (v := 1) dX10_lampOf_51 ic_1 (tl_iS3 (l10_ofLamp (tt_10_3 h1) e12) dX10_lampOf_52 cs_X10_lampOf_52 ⟨rfl, rfl⟩ ⟨Nat.zero_le _, Nat.zero_le _⟩ (Nat.le_of_ble_eq_true rfl) (tl_if_le (tgt := 62) dX10_lampOf_55 (by decide) (fun c15 => ?_) (fun c15 => ?_))))))
      · replace h := tl_ip h c15
        exact tl_iconst (v := 0) dX10_lampOf_62 ic_0 (tl_goto (tgt := 75) dX10_lampOf_63 (by decide) (tl_iretE dX10_lampOf_75 rfl rfl h))
      · replace h := tl_in h c15
        exact tl_iconst (v := 1) dX10_lampOf_58 ic_1 (tl_goto (tgt := 75) dX10_lampOf_59 (by decide) (tl_iretE dX10_lampOf_75 rfl rfl h))
  · replace h := tl_in h c10
    exact tl_iconst (v := 0) dX10_lampOf_39 ic_0 (tl_iretE dX10_lampOf_40 rfl rfl h)

theorem l10_lampOf {E : tl_E} {a0 : Nat} {x1 : Int32} {x2 : Int32}  {u : tl_S} {r : Int32} {v : tl_S} (h0 : tl_T E.2.1 a0 = some 10) (h : f10_lampOf a0 x1 x2 u = some (r, v)) : tl_MB E mX10_lampOf [.ref a0, .int x1, .int x2] u (fun q w => q = some (.int r) ∧ w = v) := by
  unfold f10_lampOf at h
  refine tl_start [some (.ref a0), some (.int x1), some (.int x2)] rfl rfl rfl (Nat.le_of_ble_eq_true rfl) ?_
  obtain ⟨x6, u5, e4, h⟩ := tl_b2i h
  refine tl_aload_n dX10_lampOf_0 rfl (tl_aload_n dX10_lampOf_1 rfl (tl_getr (f := 3) (o := 2) tl_ck10 dX10_lampOf_2 fl_X10_13 (Nat.le_of_ble_eq_true rfl) rfl h0 (tl_iload_n dX10_lampOf_5 rfl (tl_iS2 (l10_isLamp (tt_10_3 h0) e4) dX10_lampOf_6 cs_X10_lampOf_6 ⟨rfl, rfl⟩ ⟨Nat.zero_le _, Nat.zero_le _⟩ (Nat.le_of_ble_eq_true rfl) (tl_if_ne (tgt := 16) dX10_lampOf_9 (by decide) (fun c7 => ?_) (fun c7 => ?_))))))
  · replace h := tl_in h c7
    obtain ⟨x10, u9, e8, h⟩ := tl_b2i h
    refine tl_iload_n dX10_lampOf_16 rfl (tl_i2l dX10_lampOf_17 (tl_lconst (v := 0) dX10_lampOf_18 lc_0 (tl_ldc2 dX10_lampOf_19 kl_X10_234 (tl_iS3 (l10_in  e8) dX10_lampOf_22 cs_X10_lampOf_22 ⟨rfl, rfl⟩ ⟨Nat.zero_le _, Nat.zero_le _⟩ (Nat.le_of_ble_eq_true rfl) (tl_if_eq (tgt := 32) dX10_lampOf_25 (by decide) (fun c11 => ?_) (fun c11 => ?_))))))
    · replace h := tl_ip h c11
      refine tl_iconst (v := 2) dX10_lampOf_32 ic_2 (?_)
      exact l10_lampOf_p33 h0 h0 h
    · replace h := tl_in h c11
      refine tl_iconst (v := 0) dX10_lampOf_28 ic_0 (tl_goto (tgt := 33) dX10_lampOf_29 (by decide) (?_))
      exact l10_lampOf_p33 h0 h0 h
  · replace h := tl_ip h c7
    refine tl_iconst (v := 1) dX10_lampOf_12 ic_1 (tl_goto (tgt := 33) dX10_lampOf_13 (by decide) (?_))
    exact l10_lampOf_p33 h0 h0 h

theorem cs_X10_stepsLeft_10 : tl_cS mX10_stepsLeft mX10_copyState 220 4 := ⟨cd_X10_copyState, ml_X10_220, sm_X10_copyState, in_X10, ⟨by decide, by decide, by decide +kernel⟩, Nat.le_of_ble_eq_true rfl, Nat.le_of_ble_eq_true rfl⟩
theorem cs_X10_stepsLeft_19 : tl_cS mX10_stepsLeft mX10_handleAll 93 1 := ⟨cd_X10_handleAll, ml_X10_93, sm_X10_handleAll, in_X10, ⟨by decide, by decide, by decide +kernel⟩, Nat.le_of_ble_eq_true rfl, Nat.le_of_ble_eq_true rfl⟩
theorem cs_X10_stepsLeft_36 : tl_cS mX10_stepsLeft mX10_step 96 1 := ⟨cd_X10_step, ml_X10_96, sm_X10_step, in_X10, ⟨by decide, by decide, by decide +kernel⟩, Nat.le_of_ble_eq_true rfl, Nat.le_of_ble_eq_true rfl⟩
theorem cs_X10_stepsLeft_46 : tl_cS mX10_stepsLeft mX10_handleAll 93 1 := ⟨cd_X10_handleAll, ml_X10_93, sm_X10_handleAll, in_X10, ⟨by decide, by decide, by decide +kernel⟩, Nat.le_of_ble_eq_true rfl, Nat.le_of_ble_eq_true rfl⟩
def f10_stepsLeft_p22 : Nat → Nat → Int32 → tl_S → Option (Int32 × tl_S)
  | 0, _, _, _ => none
  | fu + 1, a1, x2, u =>
  (if (u.1 (a1 + 3) 8) ≤ 0 then some (x2, u) else tl_b (f10_step (a1 + 3) u) (fun u6 => tl_let (x2 + 1) (fun x7 => tl_b (f10_handleAll (a1 + 3) u6) (fun u9 => f10_stepsLeft_p22 fu a1 x7 u9))))

def f10_stepsLeft (a0 : Nat) (u : tl_S) : Option (Int32 × tl_S) :=
  tl_b (f10_copyState (a0 + 2) 104 0 (a0 + 3) 104 0 u) (fun u3 => tl_b (f10_handleAll (a0 + 3) u3) (fun u5 => f10_stepsLeft_p22 tl_F a0 0 u5))

theorem l10_stepsLeft_p22 {E : tl_E}  {r : Int32} {v : tl_S} : ∀ (n : Nat) (a1 : Nat) (x2 : Int32) (u : tl_S) , tl_T E.2.1 a1 = some 10 → f10_stepsLeft_p22 n a1 x2 u = some (r, v) → tl_R E mX10_stepsLeft tl_X0 (tl_ZB E mX10_stepsLeft (fun q w => q = some (.int r) ∧ w = v)) 0 0 (tl_HB E u) 22 [some (.ref a1), some (.int x2)] [] := by
  intro n
  induction n with
  | zero => intro a1 x2 u  h1 h; exact absurd h (by simp [f10_stepsLeft_p22])
  | succ n ih =>
    intro a1 x2 u  h1 h
    rw [f10_stepsLeft_p22] at h
    refine tl_aload_n dX10_stepsLeft_22 rfl (tl_getr (f := 4) (o := 3) tl_ck10 dX10_stepsLeft_23 fl_X10_16 (Nat.le_of_ble_eq_true rfl) rfl h1 (tl_bipush (v := 8) dX10_stepsLeft_26 bp_8 (tl_iald (j := 8) (fun _ _ => rfl) dX10_stepsLeft_28 (tt_10_4 h1) (li_8 104 rfl) lx_8 (tl_if_le (tgt := 52) dX10_stepsLeft_29 (by decide) (fun c4 => ?_) (fun c4 => ?_)))))
    · replace h := tl_ip h c4
      exact tl_iload_n dX10_stepsLeft_52 rfl (tl_iretE dX10_stepsLeft_53 rfl rfl h)
    · replace h := tl_in h c4
      obtain ⟨u6, e5, h⟩ := tl_bi h
      refine tl_aload_n dX10_stepsLeft_32 rfl (tl_getr (f := 4) (o := 3) tl_ck10 dX10_stepsLeft_33 fl_X10_16 (Nat.le_of_ble_eq_true rfl) rfl h1 (tl_vS1 (l10_step (tt_10_4 h1) e5) dX10_stepsLeft_36 cs_X10_stepsLeft_36 ⟨rfl, rfl⟩ ⟨Nat.zero_le _, Nat.zero_le _⟩ (Nat.le_of_ble_eq_true rfl) (tl_iincK dX10_stepsLeft_39 rfl (ii_1 _) (Nat.le_of_ble_eq_true rfl) (fun x7 e => ?_))))
      have h := tl_leteq e h
      clear e
      obtain ⟨u9, e8, h⟩ := tl_bi h
      refine tl_aload_n dX10_stepsLeft_42 rfl (tl_getr (f := 4) (o := 3) tl_ck10 dX10_stepsLeft_43 fl_X10_16 (Nat.le_of_ble_eq_true rfl) rfl h1 (tl_vS1 (l10_handleAll (tt_10_4 h1) e8) dX10_stepsLeft_46 cs_X10_stepsLeft_46 ⟨rfl, rfl⟩ ⟨Nat.zero_le _, Nat.zero_le _⟩ (Nat.le_of_ble_eq_true rfl) (tl_goto (tgt := 22) dX10_stepsLeft_49 (by decide) (?_))))
      exact ih _ _ _  h1 h

theorem l10_stepsLeft {E : tl_E} {a0 : Nat}  {u : tl_S} {r : Int32} {v : tl_S} (h0 : tl_T E.2.1 a0 = some 10) (h : f10_stepsLeft a0 u = some (r, v)) : tl_MB E mX10_stepsLeft [.ref a0] u (fun q w => q = some (.int r) ∧ w = v) := by
  unfold f10_stepsLeft at h
  refine tl_start [some (.ref a0), none] rfl rfl rfl (Nat.le_of_ble_eq_true rfl) ?_
  obtain ⟨u3, e2, h⟩ := tl_bi h
  obtain ⟨u5, e4, h⟩ := tl_bi h
  refine tl_aload_n dX10_stepsLeft_0 rfl (tl_getr (f := 3) (o := 2) tl_ck10 dX10_stepsLeft_1 fl_X10_13 (Nat.le_of_ble_eq_true rfl) rfl h0 (tl_iconst (v := 0) dX10_stepsLeft_4 ic_0 (tl_aload_n dX10_stepsLeft_5 rfl (tl_getr (f := 4) (o := 3) tl_ck10 dX10_stepsLeft_6 fl_X10_16 (Nat.le_of_ble_eq_true rfl) rfl h0 (tl_iconst (v := 0) dX10_stepsLeft_9 ic_0 (tl_vS4 (l10_copyState (fun _ _ => rfl) (tt_10_3 h0) (fun _ _ => rfl) (tt_10_4 h0) e2) dX10_stepsLeft_10 cs_X10_stepsLeft_10 ⟨rfl, rfl⟩ ⟨Nat.zero_le _, Nat.zero_le _⟩ (Nat.le_of_ble_eq_true rfl) (tl_iconst (v := 0) dX10_stepsLeft_13 ic_0 (tl_istore_n dX10_stepsLeft_14 (Nat.le_of_ble_eq_true rfl) (tl_aload_n dX10_stepsLeft_15 rfl (tl_getr (f := 4) (o := 3) tl_ck10 dX10_stepsLeft_16 fl_X10_16 (Nat.le_of_ble_eq_true rfl) rfl h0 (tl_vS1 (l10_handleAll (tt_10_4 h0) e4) dX10_stepsLeft_19 cs_X10_stepsLeft_19 ⟨rfl, rfl⟩ ⟨Nat.zero_le _, Nat.zero_le _⟩ (Nat.le_of_ble_eq_true rfl) (?_))))))))))))
  exact l10_stepsLeft_p22 tl_F _ _ _  h0 h

theorem cs_X10_lad_7 : tl_cS mX10_lad mX10_in 37 3 := ⟨cd_X10_in, ml_X10_37, sm_X10_in, in_X10, ⟨by decide, by decide, by decide +kernel⟩, Nat.le_of_ble_eq_true rfl, Nat.le_of_ble_eq_true rfl⟩
theorem cs_X10_lad_18 : tl_cV mX10_lad mX10_refused 152 1 := ⟨cd_X10_refused, ml_X10_152, im_X10_refused, se_X10_refused, in_X10, ⟨by decide, by decide, by decide +kernel⟩, Nat.le_of_ble_eq_true rfl, Nat.le_of_ble_eq_true rfl⟩
theorem cs_X10_lad_71 : tl_cV mX10_lad mX10_stepsLeft 236 0 := ⟨cd_X10_stepsLeft, ml_X10_236, im_X10_stepsLeft, se_X10_stepsLeft, in_X10, ⟨by decide, by decide, by decide +kernel⟩, Nat.le_of_ble_eq_true rfl, Nat.le_of_ble_eq_true rfl⟩
def f10_lad_p18 (a1 : Nat) (x2 : Int32) (x3 : Int32) (a4 : Nat) (u : tl_S) : Option (Int32 × tl_S) :=
  tl_b2 (f10_refused a4 x3 u) (fun x8 u7 => (if x8 = 0 then (if x2 = 0 then some ((u7.1 (a1 + 2) 11), u7) else (if x2 = 1 then some ((u7.1 (a1 + 2) 12), u7) else (if x2 = 2 then some ((u7.1 (a1 + 2) 13), u7) else tl_b2 (f10_stepsLeft a1 u7) (fun x15 u14 => some (x15, u14))))) else some (0, u7)))

def f10_lad (a0 : Nat) (x1 : Int32) (u : tl_S) : Option (Int32 × tl_S) :=
  tl_b2 (f10_in ((x1 : Int32).toInt64) 0 3 u) (fun x5 u4 => (if x5 = 0 then f10_lad_p18 a0 x1 1 a0 u4 else f10_lad_p18 a0 x1 0 a0 u4))

theorem l10_lad_p18 {E : tl_E} {a1 : Nat} {x2 : Int32} {x3 : Int32} {a4 : Nat}   {u : tl_S} {r : Int32} {v : tl_S} (h1 : tl_T E.2.1 a1 = some 10) (h4 : tl_T E.2.1 a4 = some 10) (h : f10_lad_p18 a1 x2 x3 a4 u = some (r, v)) : tl_R E mX10_lad tl_X0 (tl_ZB E mX10_lad (fun q w => q = some (.int r) ∧ w = v)) 0 0 (tl_HB E u) 18 [some (.ref a1), some (.int x2)] [.int x3, .ref a4] := by
  unfold f10_lad_p18 at h
  obtain ⟨x8, u7, e6, h⟩ := tl_b2i h
  refine tl_iV1 tl_ck10 rfl h4 (l10_refused h4 e6) dX10_lad_18 cs_X10_lad_18 ⟨rfl, rfl⟩ ⟨Nat.zero_le _, Nat.zero_le _⟩ (Nat.le_of_ble_eq_true rfl) (tl_if_eq (tgt := 26) dX10_lad_21 (by decide) (fun c9 => ?_) (fun c9 => ?_))
  · replace h := tl_ip h c9
    refine tl_iload_n dX10_lad_26 rfl (tl_if_ne (tgt := 40) dX10_lad_27 (by decide) (fun c10 => ?_) (fun c10 => ?_))
    · replace h := tl_in h c10
      refine tl_iload_n dX10_lad_40 rfl (tl_iconst (v := 1) dX10_lad_41 ic_1 (tl_icmp_ne (tgt := 55) dX10_lad_42 (by decide) (fun c11 => ?_) (fun c11 => ?_)))
      · replace h := tl_in h c11
        refine tl_iload_n dX10_lad_55 rfl (tl_iconst (v := 2) dX10_lad_56 ic_2 (tl_icmp_ne (tgt := 70) dX10_lad_57 (by decide) (fun c12 => ?_) (fun c12 => ?_)))
        · replace h := tl_in h c12
          obtain ⟨x15, u14, e13, h⟩ := tl_b2i h
          exact tl_aload_n dX10_lad_70 rfl (tl_iV0 tl_ck10 rfl h1 (l10_stepsLeft h1 e13) dX10_lad_71 cs_X10_lad_71 ⟨rfl, rfl⟩ ⟨Nat.zero_le _, Nat.zero_le _⟩ (Nat.le_of_ble_eq_true rfl) (tl_iretE dX10_lad_74 rfl rfl h))
        · replace h := tl_ip h c12
          exact tl_aload_n dX10_lad_60 rfl (tl_getr (f := 3) (o := 2) tl_ck10 dX10_lad_61 fl_X10_13 (Nat.le_of_ble_eq_true rfl) rfl h1 (tl_bipush (v := 13) dX10_lad_64 bp_13 (tl_iald (j := 13) (fun _ _ => rfl) dX10_lad_66 (tt_10_3 h1) (li_13 104 rfl) lx_13 (tl_goto (tgt := 74) dX10_lad_67 (by decide) (tl_iretE dX10_lad_74 rfl rfl h)))))
      · replace h := tl_ip h c11
        exact tl_aload_n dX10_lad_45 rfl (tl_getr (f := 3) (o := 2) tl_ck10 dX10_lad_46 fl_X10_13 (Nat.le_of_ble_eq_true rfl) rfl h1 (tl_bipush (v := 12) dX10_lad_49 bp_12 (tl_iald (j := 12) (fun _ _ => rfl) dX10_lad_51 (tt_10_3 h1) (li_12 104 rfl) lx_12 (tl_goto (tgt := 74) dX10_lad_52 (by decide) (tl_iretE dX10_lad_74 rfl rfl h)))))
    · replace h := tl_ip h c10
      exact tl_aload_n dX10_lad_30 rfl (tl_getr (f := 3) (o := 2) tl_ck10 dX10_lad_31 fl_X10_13 (Nat.le_of_ble_eq_true rfl) rfl h1 (tl_bipush (v := 11) dX10_lad_34 bp_11 (tl_iald (j := 11) (fun _ _ => rfl) dX10_lad_36 (tt_10_3 h1) (li_11 104 rfl) lx_11 (tl_goto (tgt := 74) dX10_lad_37 (by decide) (tl_iretE dX10_lad_74 rfl rfl h)))))
  · replace h := tl_in h c9
    exact tl_iconst (v := 0) dX10_lad_24 ic_0 (tl_iretE dX10_lad_25 rfl rfl h)

theorem l10_lad {E : tl_E} {a0 : Nat} {x1 : Int32}  {u : tl_S} {r : Int32} {v : tl_S} (h0 : tl_T E.2.1 a0 = some 10) (h : f10_lad a0 x1 u = some (r, v)) : tl_MB E mX10_lad [.ref a0, .int x1] u (fun q w => q = some (.int r) ∧ w = v) := by
  unfold f10_lad at h
  refine tl_start [some (.ref a0), some (.int x1)] rfl rfl rfl (Nat.le_of_ble_eq_true rfl) ?_
  obtain ⟨x5, u4, e3, h⟩ := tl_b2i h
  refine tl_aload_n dX10_lad_0 rfl (tl_iload_n dX10_lad_1 rfl (tl_i2l dX10_lad_2 (tl_lconst (v := 0) dX10_lad_3 lc_0 (tl_ldc2 dX10_lad_4 kl_X10_232 (tl_iS3 (l10_in  e3) dX10_lad_7 cs_X10_lad_7 ⟨rfl, rfl⟩ ⟨Nat.zero_le _, Nat.zero_le _⟩ (Nat.le_of_ble_eq_true rfl) (tl_if_eq (tgt := 17) dX10_lad_10 (by decide) (fun c6 => ?_) (fun c6 => ?_)))))))
  · replace h := tl_ip h c6
    refine tl_iconst (v := 1) dX10_lad_17 ic_1 (?_)
    exact l10_lad_p18 h0 h0 h
  · replace h := tl_in h c6
    refine tl_iconst (v := 0) dX10_lad_13 ic_0 (tl_goto (tgt := 18) dX10_lad_14 (by decide) (?_))
    exact l10_lad_p18 h0 h0 h

theorem cs_X10_orderOf_14 : tl_cS mX10_orderOf mX10_in 37 3 := ⟨cd_X10_in, ml_X10_37, sm_X10_in, in_X10, ⟨by decide, by decide, by decide +kernel⟩, Nat.le_of_ble_eq_true rfl, Nat.le_of_ble_eq_true rfl⟩
theorem cs_X10_orderOf_30 : tl_cS mX10_orderOf mX10_in 37 3 := ⟨cd_X10_in, ml_X10_37, sm_X10_in, in_X10, ⟨by decide, by decide, by decide +kernel⟩, Nat.le_of_ble_eq_true rfl, Nat.le_of_ble_eq_true rfl⟩
theorem cs_X10_orderOf_41 : tl_cV mX10_orderOf mX10_refused 152 1 := ⟨cd_X10_refused, ml_X10_152, im_X10_refused, se_X10_refused, in_X10, ⟨by decide, by decide, by decide +kernel⟩, Nat.le_of_ble_eq_true rfl, Nat.le_of_ble_eq_true rfl⟩
theorem cs_X10_orderOf_55 : tl_cS mX10_orderOf mX10_ofOrder 59 3 := ⟨cd_X10_ofOrder, ml_X10_59, sm_X10_ofOrder, in_X10, ⟨by decide, by decide, by decide +kernel⟩, Nat.le_of_ble_eq_true rfl, Nat.le_of_ble_eq_true rfl⟩
def f10_orderOf_p41 (a1 : Nat) (x2 : Int32) (x3 : Int32) (x4 : Int32) (a5 : Nat) (u : tl_S) : Option (Int32 × tl_S) :=
  tl_b2 (f10_refused a5 x4 u) (fun x9 u8 => (if x9 = 0 then tl_b2 (f10_ofOrder (a1 + 2) x2 x3 u8) (fun x13 u12 => some (x13, u12)) else some (0, u8)))

def f10_orderOf (a0 : Nat) (x1 : Int32) (x2 : Int32) (u : tl_S) : Option (Int32 × tl_S) :=
  tl_b2 (f10_in ((x1 : Int32).toInt64) 0 ((((u.1 (a0 + 2) 8) - 1) : Int32).toInt64) u) (fun x6 u5 => (if x6 = 0 then f10_orderOf_p41 a0 x1 x2 1 a0 u5 else tl_b2 (f10_in ((x2 : Int32).toInt64) 0 3 u5) (fun x10 u9 => (if x10 = 0 then f10_orderOf_p41 a0 x1 x2 2 a0 u9 else f10_orderOf_p41 a0 x1 x2 0 a0 u9))))

theorem l10_orderOf_p41 {E : tl_E} {a1 : Nat} {x2 : Int32} {x3 : Int32} {x4 : Int32} {a5 : Nat}   {u : tl_S} {r : Int32} {v : tl_S} (h1 : tl_T E.2.1 a1 = some 10) (h5 : tl_T E.2.1 a5 = some 10) (h : f10_orderOf_p41 a1 x2 x3 x4 a5 u = some (r, v)) : tl_R E mX10_orderOf tl_X0 (tl_ZB E mX10_orderOf (fun q w => q = some (.int r) ∧ w = v)) 0 0 (tl_HB E u) 41 [some (.ref a1), some (.int x2), some (.int x3)] [.int x4, .ref a5] := by
  unfold f10_orderOf_p41 at h
  obtain ⟨x9, u8, e7, h⟩ := tl_b2i h
  refine tl_iV1 tl_ck10 rfl h5 (l10_refused h5 e7) dX10_orderOf_41 cs_X10_orderOf_41 ⟨rfl, rfl⟩ ⟨Nat.zero_le _, Nat.zero_le _⟩ (Nat.le_of_ble_eq_true rfl) (tl_if_eq (tgt := 49) dX10_orderOf_44 (by decide) (fun c10 => ?_) (fun c10 => ?_))
  · replace h := tl_ip h c10
    obtain ⟨x13, u12, e11, h⟩ := tl_b2i h
    exact tl_aload_n dX10_orderOf_49 rfl (tl_getr (f := 3) (o := 2) tl_ck10 dX10_orderOf_50 fl_X10_13 (Nat.le_of_ble_eq_true rfl) rfl h1 (tl_iload_n dX10_orderOf_53 rfl (tl_iload_n dX10_orderOf_54 rfl (tl_iS3 (l10_ofOrder (tt_10_3 h1) e11) dX10_orderOf_55 cs_X10_orderOf_55 ⟨rfl, rfl⟩ ⟨Nat.zero_le _, Nat.zero_le _⟩ (Nat.le_of_ble_eq_true rfl) (tl_iretE dX10_orderOf_58 rfl rfl h)))))
  · replace h := tl_in h c10
    exact tl_iconst (v := 0) dX10_orderOf_47 ic_0 (tl_iretE dX10_orderOf_48 rfl rfl h)

theorem l10_orderOf {E : tl_E} {a0 : Nat} {x1 : Int32} {x2 : Int32}  {u : tl_S} {r : Int32} {v : tl_S} (h0 : tl_T E.2.1 a0 = some 10) (h : f10_orderOf a0 x1 x2 u = some (r, v)) : tl_MB E mX10_orderOf [.ref a0, .int x1, .int x2] u (fun q w => q = some (.int r) ∧ w = v) := by
  unfold f10_orderOf at h
  refine tl_start [some (.ref a0), some (.int x1), some (.int x2)] rfl rfl rfl (Nat.le_of_ble_eq_true rfl) ?_
  obtain ⟨x6, u5, e4, h⟩ := tl_b2i h
  refine tl_aload_n dX10_orderOf_0 rfl (tl_iload_n dX10_orderOf_1 rfl (tl_i2l dX10_orderOf_2 (tl_lconst (v := 0) dX10_orderOf_3 lc_0 (tl_aload_n dX10_orderOf_4 rfl (tl_getr (f := 3) (o := 2) tl_ck10 dX10_orderOf_5 fl_X10_13 (Nat.le_of_ble_eq_true rfl) rfl h0 (tl_bipush (v := 8) dX10_orderOf_8 bp_8 (tl_iald (j := 8) (fun _ _ => rfl) dX10_orderOf_10 (tt_10_3 h0) (li_8 104 rfl) lx_8 (tl_iconst (v := 1) dX10_orderOf_11 ic_1 (tl_isub dX10_orderOf_12 (tl_i2l dX10_orderOf_13 (tl_iS3 (l10_in  e4) dX10_orderOf_14 cs_X10_orderOf_14 ⟨rfl, rfl⟩ ⟨Nat.zero_le _, Nat.zero_le _⟩ (Nat.le_of_ble_eq_true rfl) (tl_if_ne (tgt := 24) dX10_orderOf_17 (by decide) (fun c7 => ?_) (fun c7 => ?_)))))))))))))
  · replace h := tl_in h c7
    obtain ⟨x10, u9, e8, h⟩ := tl_b2i h
    refine tl_iload_n dX10_orderOf_24 rfl (tl_i2l dX10_orderOf_25 (tl_lconst (v := 0) dX10_orderOf_26 lc_0 (tl_ldc2 dX10_orderOf_27 kl_X10_232 (tl_iS3 (l10_in  e8) dX10_orderOf_30 cs_X10_orderOf_30 ⟨rfl, rfl⟩ ⟨Nat.zero_le _, Nat.zero_le _⟩ (Nat.le_of_ble_eq_true rfl) (tl_if_eq (tgt := 40) dX10_orderOf_33 (by decide) (fun c11 => ?_) (fun c11 => ?_))))))
    · replace h := tl_ip h c11
      refine tl_iconst (v := 2) dX10_orderOf_40 ic_2 (?_)
      exact l10_orderOf_p41 h0 h0 h
    · replace h := tl_in h c11
      refine tl_iconst (v := 0) dX10_orderOf_36 ic_0 (tl_goto (tgt := 41) dX10_orderOf_37 (by decide) (?_))
      exact l10_orderOf_p41 h0 h0 h
  · replace h := tl_ip h c7
    refine tl_iconst (v := 1) dX10_orderOf_20 ic_1 (tl_goto (tgt := 41) dX10_orderOf_21 (by decide) (?_))
    exact l10_orderOf_p41 h0 h0 h

theorem cs_X10_lit_6 : tl_cS mX10_lit mX10_isGallery 41 2 := ⟨cd_X10_isGallery, ml_X10_41, sm_X10_isGallery, in_X10, ⟨by decide, by decide, by decide +kernel⟩, Nat.le_of_ble_eq_true rfl, Nat.le_of_ble_eq_true rfl⟩
theorem cs_X10_lit_20 : tl_cS mX10_lit mX10_in 37 3 := ⟨cd_X10_in, ml_X10_37, sm_X10_in, in_X10, ⟨by decide, by decide, by decide +kernel⟩, Nat.le_of_ble_eq_true rfl, Nat.le_of_ble_eq_true rfl⟩
theorem cs_X10_lit_31 : tl_cV mX10_lit mX10_refused 152 1 := ⟨cd_X10_refused, ml_X10_152, im_X10_refused, se_X10_refused, in_X10, ⟨by decide, by decide, by decide +kernel⟩, Nat.le_of_ble_eq_true rfl, Nat.le_of_ble_eq_true rfl⟩
theorem cs_X10_lit_51 : tl_cS mX10_lit mX10_depth 45 2 := ⟨cd_X10_depth, ml_X10_45, sm_X10_depth, in_X10, ⟨by decide, by decide, by decide +kernel⟩, Nat.le_of_ble_eq_true rfl, Nat.le_of_ble_eq_true rfl⟩
theorem cs_X10_lit_65 : tl_cS mX10_lit mX10_isLit 102 3 := ⟨cd_X10_isLit, ml_X10_102, sm_X10_isLit, in_X10, ⟨by decide, by decide, by decide +kernel⟩, Nat.le_of_ble_eq_true rfl, Nat.le_of_ble_eq_true rfl⟩
def f10_lit_p44 : Nat → Nat → Int32 → Int32 → Int32 → tl_S → Option (Int32 × tl_S)
  | 0, _, _, _, _, _ => none
  | fu + 1, a1, x2, x3, x4, u =>
  tl_b2 (f10_depth (a1 + 2) x2 u) (fun x8 u7 => (if x8 ≤ x4 then some (x3, u7) else tl_b2 (f10_isLit (a1 + 2) x2 x4 u7) (fun x12 u11 => (if x12 = 0 then tl_let ((x3 + 0)) (fun x14 => tl_let (x4 + 1) (fun x15 => f10_lit_p44 fu a1 x2 x14 x15 u11)) else tl_let ((x3 + 1)) (fun x14 => tl_let (x4 + 1) (fun x15 => f10_lit_p44 fu a1 x2 x14 x15 u11))))))

def f10_lit_p31 (a1 : Nat) (x2 : Int32) (x3 : Int32) (a4 : Nat) (u : tl_S) : Option (Int32 × tl_S) :=
  tl_b2 (f10_refused a4 x3 u) (fun x8 u7 => (if x8 = 0 then f10_lit_p44 tl_F a1 x2 0 0 u7 else some (0, u7)))

def f10_lit (a0 : Nat) (x1 : Int32) (x2 : Int32) (u : tl_S) : Option (Int32 × tl_S) :=
  tl_b2 (f10_isGallery (a0 + 2) x1 u) (fun x6 u5 => (if x6 = 0 then f10_lit_p31 a0 x1 1 a0 u5 else tl_b2 (f10_in ((x2 : Int32).toInt64) 0 1 u5) (fun x10 u9 => (if x10 = 0 then f10_lit_p31 a0 x1 2 a0 u9 else f10_lit_p31 a0 x1 0 a0 u9))))

theorem l10_lit_p44 {E : tl_E}  {r : Int32} {v : tl_S} : ∀ (n : Nat) (a1 : Nat) (x2 : Int32) (x3 : Int32) (x4 : Int32) (u : tl_S) (d2 : Option Value), tl_T E.2.1 a1 = some 10 → f10_lit_p44 n a1 x2 x3 x4 u = some (r, v) → tl_R E mX10_lit tl_X0 (tl_ZB E mX10_lit (fun q w => q = some (.int r) ∧ w = v)) 0 0 (tl_HB E u) 44 [some (.ref a1), some (.int x2), d2, some (.int x3), some (.int x4)] [] := by
  intro n
  induction n with
  | zero => intro a1 x2 x3 x4 u d2 h1 h; exact absurd h (by simp [f10_lit_p44])
  | succ n ih =>
    intro a1 x2 x3 x4 u d2 h1 h
    rw [f10_lit_p44] at h
    obtain ⟨x8, u7, e6, h⟩ := tl_b2i h
    refine tl_iload dX10_lit_44 rfl (tl_aload_n dX10_lit_46 rfl (tl_getr (f := 3) (o := 2) tl_ck10 dX10_lit_47 fl_X10_13 (Nat.le_of_ble_eq_true rfl) rfl h1 (tl_iload_n dX10_lit_50 rfl (tl_iS2 (l10_depth (tt_10_3 h1) e6) dX10_lit_51 cs_X10_lit_51 ⟨rfl, rfl⟩ ⟨Nat.zero_le _, Nat.zero_le _⟩ (Nat.le_of_ble_eq_true rfl) (tl_icmp_ge (tgt := 84) dX10_lit_54 (by decide) (fun c9 => ?_) (fun c9 => ?_))))))
    · replace h := tl_ip h c9
      exact tl_iload_n dX10_lit_84 rfl (tl_iretE dX10_lit_85 rfl rfl h)
    · replace h := tl_in h c9
      obtain ⟨x12, u11, e10, h⟩ := tl_b2i h
      refine tl_iload_n dX10_lit_57 rfl (tl_aload_n dX10_lit_58 rfl (tl_getr (f := 3) (o := 2) tl_ck10 dX10_lit_59 fl_X10_13 (Nat.le_of_ble_eq_true rfl) rfl h1 (tl_iload_n dX10_lit_62 rfl (tl_iload dX10_lit_63 rfl (tl_iS3 (l10_isLit (tt_10_3 h1) e10) dX10_lit_65 cs_X10_lit_65 ⟨rfl, rfl⟩ ⟨Nat.zero_le _, Nat.zero_le _⟩ (Nat.le_of_ble_eq_true rfl) (tl_if_eq (tgt := 75) dX10_lit_68 (by decide) (fun c13 => ?_) (fun c13 => ?_)))))))
      · replace h := tl_ip h c13
        refine tl_iconst (v := 0) dX10_lit_75 ic_0 (tl_iadd dX10_lit_76 (tl_isto_n dX10_lit_77 (Nat.le_of_ble_eq_true rfl) (fun x14 e => ?_)))
        have h := tl_leteq e h
        clear e
        refine tl_iincK dX10_lit_78 rfl (ii_1 _) (Nat.le_of_ble_eq_true rfl) (fun x15 e => ?_)
        have h := tl_leteq e h
        clear e
        refine tl_goto (tgt := 44) dX10_lit_81 (by decide) (?_)
        exact ih _ _ _ _ _ _ h1 h
      · replace h := tl_in h c13
        refine tl_iconst (v := 1) dX10_lit_71 ic_1 (tl_goto (tgt := 76) dX10_lit_72 (by decide) (tl_iadd dX10_lit_76 (tl_isto_n dX10_lit_77 (Nat.le_of_ble_eq_true rfl) (fun x14 e => ?_))))
        have h := tl_leteq e h
        clear e
        refine tl_iincK dX10_lit_78 rfl (ii_1 _) (Nat.le_of_ble_eq_true rfl) (fun x15 e => ?_)
        have h := tl_leteq e h
        clear e
        refine tl_goto (tgt := 44) dX10_lit_81 (by decide) (?_)
        exact ih _ _ _ _ _ _ h1 h

theorem l10_lit_p31 {E : tl_E} {a1 : Nat} {x2 : Int32} {x3 : Int32} {a4 : Nat}  {d2 : Option Value} {d3 : Option Value} {d4 : Option Value} {u : tl_S} {r : Int32} {v : tl_S} (h1 : tl_T E.2.1 a1 = some 10) (h4 : tl_T E.2.1 a4 = some 10) (h : f10_lit_p31 a1 x2 x3 a4 u = some (r, v)) : tl_R E mX10_lit tl_X0 (tl_ZB E mX10_lit (fun q w => q = some (.int r) ∧ w = v)) 0 0 (tl_HB E u) 31 [some (.ref a1), some (.int x2), d2, d3, d4] [.int x3, .ref a4] := by
  unfold f10_lit_p31 at h
  obtain ⟨x8, u7, e6, h⟩ := tl_b2i h
  refine tl_iV1 tl_ck10 rfl h4 (l10_refused h4 e6) dX10_lit_31 cs_X10_lit_31 ⟨rfl, rfl⟩ ⟨Nat.zero_le _, Nat.zero_le _⟩ (Nat.le_of_ble_eq_true rfl) (tl_if_eq (tgt := 39) dX10_lit_34 (by decide) (fun c9 => ?_) (fun c9 => ?_))
  · replace h := tl_ip h c9
    refine tl_iconst (v := 0) dX10_lit_39 ic_0 (tl_istore_n dX10_lit_40 (Nat.le_of_ble_eq_true rfl) (tl_iconst (v := 0) dX10_lit_41 ic_0 (tl_istore dX10_lit_42 (Nat.le_of_ble_eq_true rfl) (?_))))
    exact l10_lit_p44 tl_F _ _ _ _ _ _ h1 h
  · replace h := tl_in h c9
    exact tl_iconst (v := 0) dX10_lit_37 ic_0 (tl_iretE dX10_lit_38 rfl rfl h)

theorem l10_lit {E : tl_E} {a0 : Nat} {x1 : Int32} {x2 : Int32}  {u : tl_S} {r : Int32} {v : tl_S} (h0 : tl_T E.2.1 a0 = some 10) (h : f10_lit a0 x1 x2 u = some (r, v)) : tl_MB E mX10_lit [.ref a0, .int x1, .int x2] u (fun q w => q = some (.int r) ∧ w = v) := by
  unfold f10_lit at h
  refine tl_start [some (.ref a0), some (.int x1), some (.int x2), none, none] rfl rfl rfl (Nat.le_of_ble_eq_true rfl) ?_
  obtain ⟨x6, u5, e4, h⟩ := tl_b2i h
  refine tl_aload_n dX10_lit_0 rfl (tl_aload_n dX10_lit_1 rfl (tl_getr (f := 3) (o := 2) tl_ck10 dX10_lit_2 fl_X10_13 (Nat.le_of_ble_eq_true rfl) rfl h0 (tl_iload_n dX10_lit_5 rfl (tl_iS2 (l10_isGallery (tt_10_3 h0) e4) dX10_lit_6 cs_X10_lit_6 ⟨rfl, rfl⟩ ⟨Nat.zero_le _, Nat.zero_le _⟩ (Nat.le_of_ble_eq_true rfl) (tl_if_ne (tgt := 16) dX10_lit_9 (by decide) (fun c7 => ?_) (fun c7 => ?_))))))
  · replace h := tl_in h c7
    obtain ⟨x10, u9, e8, h⟩ := tl_b2i h
    refine tl_iload_n dX10_lit_16 rfl (tl_i2l dX10_lit_17 (tl_lconst (v := 0) dX10_lit_18 lc_0 (tl_lconst (v := 1) dX10_lit_19 lc_1 (tl_iS3 (l10_in  e8) dX10_lit_20 cs_X10_lit_20 ⟨rfl, rfl⟩ ⟨Nat.zero_le _, Nat.zero_le _⟩ (Nat.le_of_ble_eq_true rfl) (tl_if_eq (tgt := 30) dX10_lit_23 (by decide) (fun c11 => ?_) (fun c11 => ?_))))))
    · replace h := tl_ip h c11
      refine tl_iconst (v := 2) dX10_lit_30 ic_2 (?_)
      exact l10_lit_p31 h0 h0 h
    · replace h := tl_in h c11
      refine tl_iconst (v := 0) dX10_lit_26 ic_0 (tl_goto (tgt := 31) dX10_lit_27 (by decide) (?_))
      exact l10_lit_p31 h0 h0 h
  · replace h := tl_ip h c7
    refine tl_iconst (v := 1) dX10_lit_12 ic_1 (tl_goto (tgt := 31) dX10_lit_13 (by decide) (?_))
    exact l10_lit_p31 h0 h0 h

theorem cs_X10_remember_65 : tl_cS mX10_remember mX10_copyState 220 4 := ⟨cd_X10_copyState, ml_X10_220, sm_X10_copyState, in_X10, ⟨by decide, by decide, by decide +kernel⟩, Nat.le_of_ble_eq_true rfl, Nat.le_of_ble_eq_true rfl⟩
def f10_remember_p49 (a1 : Nat) (u : tl_S) : Option (tl_S) :=
  tl_b (f10_copyState (a1 + 2) 104 0 (a1 + 4) 1456 (104 * (u.1 a1 6)) u) (fun u4 => tl_let ((tl_u u4.1 a1 6 ((u4.1 a1 6) + 1), u4.2) : tl_S) (fun u5 => some u5))

def f10_remember_p11 : Nat → Nat → Int32 → tl_S → Option (tl_S)
  | 0, _, _, _ => none
  | fu + 1, a1, x2, u =>
  (if 1352 ≤ x2 then tl_let ((tl_u u.1 a1 6 ((u.1 a1 6) - 1), u.2) : tl_S) (fun u5 => f10_remember_p49 a1 u5) else tl_g (¬ ((x2 + 104) < 0 ∨ 1456 ≤ (x2 + 104).toNatClampNeg)) (tl_g (¬ (x2 < 0 ∨ 1456 ≤ x2.toNatClampNeg)) (tl_let ((tl_u u.1 (a1 + 4) x2.toNatClampNeg (u.1 (a1 + 4) (x2 + 104).toNatClampNeg), u.2) : tl_S) (fun u7 => tl_let (x2 + 1) (fun x8 => f10_remember_p11 fu a1 x8 u7)))))

def f10_remember (a0 : Nat) (u : tl_S) : Option (tl_S) :=
  (if (u.1 a0 6) = 14 then f10_remember_p11 tl_F a0 0 u else f10_remember_p49 a0 u)

theorem l10_remember_p49 {E : tl_E} {a1 : Nat}  {d1 : Option Value} {u : tl_S} {v : tl_S} (h1 : tl_T E.2.1 a1 = some 10) (h : f10_remember_p49 a1 u = some v) : tl_R E mX10_remember tl_X0 (tl_ZB E mX10_remember (fun q w => q = none ∧ w = v)) 0 0 (tl_HB E u) 49 [some (.ref a1), d1] [] := by
  unfold f10_remember_p49 at h
  obtain ⟨u4, e3, h⟩ := tl_bi h
  refine tl_aload_n dX10_remember_49 rfl (tl_getr (f := 3) (o := 2) tl_ck10 dX10_remember_50 fl_X10_13 (Nat.le_of_ble_eq_true rfl) rfl h1 (tl_iconst (v := 0) dX10_remember_53 ic_0 (tl_aload_n dX10_remember_54 rfl (tl_getr (f := 5) (o := 4) tl_ck10 dX10_remember_55 fl_X10_19 (Nat.le_of_ble_eq_true rfl) rfl h1 (tl_bipush (v := 104) dX10_remember_58 bp_104 (tl_aload_n dX10_remember_60 rfl (tl_geti (f := 6) tl_ck10 dX10_remember_61 fl_X10_224 (Nat.le_of_ble_eq_true rfl) rfl h1 (tl_imul dX10_remember_64 (tl_vS4 (l10_copyState (fun _ _ => rfl) (tt_10_3 h1) (fun _ _ => rfl) (tt_10_5 h1) e3) dX10_remember_65 cs_X10_remember_65 ⟨rfl, rfl⟩ ⟨Nat.zero_le _, Nat.zero_le _⟩ (Nat.le_of_ble_eq_true rfl) (tl_aload_n dX10_remember_68 rfl (tl_dup dX10_remember_69 rfl (tl_geti (f := 6) tl_ck10 dX10_remember_70 fl_X10_224 (Nat.le_of_ble_eq_true rfl) rfl h1 (tl_iconst (v := 1) dX10_remember_73 ic_1 (tl_iadd dX10_remember_74 (tl_puti (f := 6) tl_ck10 dX10_remember_75 fl_X10_224 (Nat.le_of_ble_eq_true rfl) rfl rfl rfl h1 (fun u5 e => ?_))))))))))))))))
  have h := tl_leteq e h
  clear e
  exact tl_vretE dX10_remember_78 rfl h

theorem l10_remember_p11 {E : tl_E}  {v : tl_S} : ∀ (n : Nat) (a1 : Nat) (x2 : Int32) (u : tl_S) , tl_T E.2.1 a1 = some 10 → f10_remember_p11 n a1 x2 u = some v → tl_R E mX10_remember tl_X0 (tl_ZB E mX10_remember (fun q w => q = none ∧ w = v)) 0 0 (tl_HB E u) 11 [some (.ref a1), some (.int x2)] [] := by
  intro n
  induction n with
  | zero => intro a1 x2 u  h1 h; exact absurd h (by simp [f10_remember_p11])
  | succ n ih =>
    intro a1 x2 u  h1 h
    rw [f10_remember_p11] at h
    refine tl_iload_n dX10_remember_11 rfl (tl_sipush (v := 1352) dX10_remember_12 sp_1352 (tl_icmp_ge (tgt := 39) dX10_remember_15 (by decide) (fun c4 => ?_) (fun c4 => ?_)))
    · replace h := tl_ip h c4
      refine tl_aload_n dX10_remember_39 rfl (tl_dup dX10_remember_40 rfl (tl_geti (f := 6) tl_ck10 dX10_remember_41 fl_X10_224 (Nat.le_of_ble_eq_true rfl) rfl h1 (tl_iconst (v := 1) dX10_remember_44 ic_1 (tl_isub dX10_remember_45 (tl_puti (f := 6) tl_ck10 dX10_remember_46 fl_X10_224 (Nat.le_of_ble_eq_true rfl) rfl rfl rfl h1 (fun u5 e => ?_))))))
      have h := tl_leteq e h
      clear e
      exact l10_remember_p49 h1 h
    · replace h := tl_in h c4
      obtain ⟨g5, h⟩ := tl_gi h
      obtain ⟨g6, h⟩ := tl_gi h
      refine tl_aload_n dX10_remember_18 rfl (tl_getr (f := 5) (o := 4) tl_ck10 dX10_remember_19 fl_X10_19 (Nat.le_of_ble_eq_true rfl) rfl h1 (tl_iload_n dX10_remember_22 rfl (tl_aload_n dX10_remember_23 rfl (tl_getr (f := 5) (o := 4) tl_ck10 dX10_remember_24 fl_X10_19 (Nat.le_of_ble_eq_true rfl) rfl h1 (tl_iload_n dX10_remember_27 rfl (tl_bipush (v := 104) dX10_remember_28 bp_104 (tl_iadd dX10_remember_30 (tl_iald (j := (x2 + 104).toNatClampNeg) (fun _ _ => rfl) dX10_remember_31 (tt_10_5 h1) g5 rfl (tl_iastK (fun _ _ => rfl) dX10_remember_32 (tt_10_5 h1) (x2.toNatClampNeg) g6 rfl (fun u7 e => ?_))))))))))
      have h := tl_leteq e h
      clear e
      refine tl_iincK dX10_remember_33 rfl (ii_1 _) (Nat.le_of_ble_eq_true rfl) (fun x8 e => ?_)
      have h := tl_leteq e h
      clear e
      refine tl_goto (tgt := 11) dX10_remember_36 (by decide) (?_)
      exact ih _ _ _  h1 h

theorem l10_remember {E : tl_E} {a0 : Nat}  {u : tl_S} {v : tl_S} (h0 : tl_T E.2.1 a0 = some 10) (h : f10_remember a0 u = some v) : tl_MB E mX10_remember [.ref a0] u (fun q w => q = none ∧ w = v) := by
  unfold f10_remember at h
  refine tl_start [some (.ref a0), none] rfl rfl rfl (Nat.le_of_ble_eq_true rfl) ?_
  refine tl_aload_n dX10_remember_0 rfl (tl_geti (f := 6) tl_ck10 dX10_remember_1 fl_X10_224 (Nat.le_of_ble_eq_true rfl) rfl h0 (tl_bipush (v := 14) dX10_remember_4 bp_14 (tl_icmp_ne (tgt := 49) dX10_remember_6 (by decide) (fun c2 => ?_) (fun c2 => ?_))))
  · replace h := tl_in h c2
    exact l10_remember_p49 h0 h
  · replace h := tl_ip h c2
    refine tl_iconst (v := 0) dX10_remember_9 ic_0 (tl_istore_n dX10_remember_10 (Nat.le_of_ble_eq_true rfl) (?_))
    exact l10_remember_p11 tl_F _ _ _  h0 h

theorem cs_X10_gallery_7 : tl_cS mX10_gallery mX10_in 37 3 := ⟨cd_X10_in, ml_X10_37, sm_X10_in, in_X10, ⟨by decide, by decide, by decide +kernel⟩, Nat.le_of_ble_eq_true rfl, Nat.le_of_ble_eq_true rfl⟩
theorem cs_X10_gallery_32 : tl_cV mX10_gallery mX10_refused 152 1 := ⟨cd_X10_refused, ml_X10_152, im_X10_refused, se_X10_refused, in_X10, ⟨by decide, by decide, by decide +kernel⟩, Nat.le_of_ble_eq_true rfl, Nat.le_of_ble_eq_true rfl⟩
theorem cs_X10_gallery_41 : tl_cV mX10_gallery mX10_remember 242 0 := ⟨cd_X10_remember, ml_X10_242, im_X10_remember, se_X10_remember, in_X10, ⟨by decide, by decide, by decide +kernel⟩, Nat.le_of_ble_eq_true rfl, Nat.le_of_ble_eq_true rfl⟩
theorem cs_X10_gallery_49 : tl_cS mX10_gallery mX10_galleryOn 190 2 := ⟨cd_X10_galleryOn, ml_X10_190, sm_X10_galleryOn, in_X10, ⟨by decide, by decide, by decide +kernel⟩, Nat.le_of_ble_eq_true rfl, Nat.le_of_ble_eq_true rfl⟩
def f10_gallery_p32 (a1 : Nat) (x2 : Int32) (x3 : Int32) (a4 : Nat) (u : tl_S) : Option (Int32 × tl_S) :=
  tl_b2 (f10_refused a4 x3 u) (fun x8 u7 => (if x8 = 0 then tl_b (f10_remember a1 u7) (fun u11 => tl_b2 (f10_galleryOn (a1 + 2) x2 u11) (fun x14 u13 => some (x14, u13))) else some (0, u7)))

def f10_gallery (a0 : Nat) (x1 : Int32) (u : tl_S) : Option (Int32 × tl_S) :=
  tl_b2 (f10_in ((x1 : Int32).toInt64) 1 60 u) (fun x5 u4 => (if x5 = 0 then f10_gallery_p32 a0 x1 1 a0 u4 else (if 3 ≤ (u4.1 (a0 + 2) 0) then f10_gallery_p32 a0 x1 2 a0 u4 else f10_gallery_p32 a0 x1 0 a0 u4)))

theorem l10_gallery_p32 {E : tl_E} {a1 : Nat} {x2 : Int32} {x3 : Int32} {a4 : Nat}   {u : tl_S} {r : Int32} {v : tl_S} (h1 : tl_T E.2.1 a1 = some 10) (h4 : tl_T E.2.1 a4 = some 10) (h : f10_gallery_p32 a1 x2 x3 a4 u = some (r, v)) : tl_R E mX10_gallery tl_X0 (tl_ZB E mX10_gallery (fun q w => q = some (.int r) ∧ w = v)) 0 0 (tl_HB E u) 32 [some (.ref a1), some (.int x2)] [.int x3, .ref a4] := by
  unfold f10_gallery_p32 at h
  obtain ⟨x8, u7, e6, h⟩ := tl_b2i h
  refine tl_iV1 tl_ck10 rfl h4 (l10_refused h4 e6) dX10_gallery_32 cs_X10_gallery_32 ⟨rfl, rfl⟩ ⟨Nat.zero_le _, Nat.zero_le _⟩ (Nat.le_of_ble_eq_true rfl) (tl_if_eq (tgt := 40) dX10_gallery_35 (by decide) (fun c9 => ?_) (fun c9 => ?_))
  · replace h := tl_ip h c9
    obtain ⟨u11, e10, h⟩ := tl_bi h
    obtain ⟨x14, u13, e12, h⟩ := tl_b2i h
    exact tl_aload_n dX10_gallery_40 rfl (tl_vV0 tl_ck10 rfl h1 (l10_remember h1 e10) dX10_gallery_41 cs_X10_gallery_41 ⟨rfl, rfl⟩ ⟨Nat.zero_le _, Nat.zero_le _⟩ (Nat.le_of_ble_eq_true rfl) (tl_aload_n dX10_gallery_44 rfl (tl_getr (f := 3) (o := 2) tl_ck10 dX10_gallery_45 fl_X10_13 (Nat.le_of_ble_eq_true rfl) rfl h1 (tl_iload_n dX10_gallery_48 rfl (tl_iS2 (l10_galleryOn (tt_10_3 h1) e12) dX10_gallery_49 cs_X10_gallery_49 ⟨rfl, rfl⟩ ⟨Nat.zero_le _, Nat.zero_le _⟩ (Nat.le_of_ble_eq_true rfl) (tl_iretE dX10_gallery_52 rfl rfl h))))))
  · replace h := tl_in h c9
    exact tl_iconst (v := 0) dX10_gallery_38 ic_0 (tl_iretE dX10_gallery_39 rfl rfl h)

theorem l10_gallery {E : tl_E} {a0 : Nat} {x1 : Int32}  {u : tl_S} {r : Int32} {v : tl_S} (h0 : tl_T E.2.1 a0 = some 10) (h : f10_gallery a0 x1 u = some (r, v)) : tl_MB E mX10_gallery [.ref a0, .int x1] u (fun q w => q = some (.int r) ∧ w = v) := by
  unfold f10_gallery at h
  refine tl_start [some (.ref a0), some (.int x1)] rfl rfl rfl (Nat.le_of_ble_eq_true rfl) ?_
  obtain ⟨x5, u4, e3, h⟩ := tl_b2i h
  refine tl_aload_n dX10_gallery_0 rfl (tl_iload_n dX10_gallery_1 rfl (tl_i2l dX10_gallery_2 (tl_lconst (v := 1) dX10_gallery_3 lc_1 (tl_ldc2 dX10_gallery_4 kl_X10_240 (tl_iS3 (l10_in  e3) dX10_gallery_7 cs_X10_gallery_7 ⟨rfl, rfl⟩ ⟨Nat.zero_le _, Nat.zero_le _⟩ (Nat.le_of_ble_eq_true rfl) (tl_if_ne (tgt := 17) dX10_gallery_10 (by decide) (fun c6 => ?_) (fun c6 => ?_)))))))
  · replace h := tl_in h c6
    refine tl_aload_n dX10_gallery_17 rfl (tl_getr (f := 3) (o := 2) tl_ck10 dX10_gallery_18 fl_X10_13 (Nat.le_of_ble_eq_true rfl) rfl h0 (tl_iconst (v := 0) dX10_gallery_21 ic_0 (tl_iald (j := 0) (fun _ _ => rfl) dX10_gallery_22 (tt_10_3 h0) (li_0 104 rfl) lx_0 (tl_iconst (v := 3) dX10_gallery_23 ic_3 (tl_icmp_ge (tgt := 31) dX10_gallery_24 (by decide) (fun c7 => ?_) (fun c7 => ?_))))))
    · replace h := tl_ip h c7
      refine tl_iconst (v := 2) dX10_gallery_31 ic_2 (?_)
      exact l10_gallery_p32 h0 h0 h
    · replace h := tl_in h c7
      refine tl_iconst (v := 0) dX10_gallery_27 ic_0 (tl_goto (tgt := 32) dX10_gallery_28 (by decide) (?_))
      exact l10_gallery_p32 h0 h0 h
  · replace h := tl_ip h c6
    refine tl_iconst (v := 1) dX10_gallery_13 ic_1 (tl_goto (tgt := 32) dX10_gallery_14 (by decide) (?_))
    exact l10_gallery_p32 h0 h0 h

theorem cs_X10_miner_6 : tl_cS mX10_miner mX10_isGallery 41 2 := ⟨cd_X10_isGallery, ml_X10_41, sm_X10_isGallery, in_X10, ⟨by decide, by decide, by decide +kernel⟩, Nat.le_of_ble_eq_true rfl, Nat.le_of_ble_eq_true rfl⟩
theorem cs_X10_miner_22 : tl_cS mX10_miner mX10_in 37 3 := ⟨cd_X10_in, ml_X10_37, sm_X10_in, in_X10, ⟨by decide, by decide, by decide +kernel⟩, Nat.le_of_ble_eq_true rfl, Nat.le_of_ble_eq_true rfl⟩
theorem cs_X10_miner_37 : tl_cS mX10_miner mX10_canMiner 193 2 := ⟨cd_X10_canMiner, ml_X10_193, sm_X10_canMiner, in_X10, ⟨by decide, by decide, by decide +kernel⟩, Nat.le_of_ble_eq_true rfl, Nat.le_of_ble_eq_true rfl⟩
theorem cs_X10_miner_48 : tl_cV mX10_miner mX10_refused 152 1 := ⟨cd_X10_refused, ml_X10_152, im_X10_refused, se_X10_refused, in_X10, ⟨by decide, by decide, by decide +kernel⟩, Nat.le_of_ble_eq_true rfl, Nat.le_of_ble_eq_true rfl⟩
theorem cs_X10_miner_57 : tl_cV mX10_miner mX10_remember 242 0 := ⟨cd_X10_remember, ml_X10_242, im_X10_remember, se_X10_remember, in_X10, ⟨by decide, by decide, by decide +kernel⟩, Nat.le_of_ble_eq_true rfl, Nat.le_of_ble_eq_true rfl⟩
theorem cs_X10_miner_66 : tl_cS mX10_miner mX10_minerOn 196 3 := ⟨cd_X10_minerOn, ml_X10_196, sm_X10_minerOn, in_X10, ⟨by decide, by decide, by decide +kernel⟩, Nat.le_of_ble_eq_true rfl, Nat.le_of_ble_eq_true rfl⟩
def f10_miner_p48 (a1 : Nat) (x2 : Int32) (x3 : Int32) (x4 : Int32) (a5 : Nat) (u : tl_S) : Option (Int32 × tl_S) :=
  tl_b2 (f10_refused a5 x4 u) (fun x9 u8 => (if x9 = 0 then tl_b (f10_remember a1 u8) (fun u12 => tl_b2 (f10_minerOn (a1 + 2) x2 x3 u12) (fun x15 u14 => some (x15, u14))) else some (0, u8)))

def f10_miner (a0 : Nat) (x1 : Int32) (x2 : Int32) (u : tl_S) : Option (Int32 × tl_S) :=
  tl_b2 (f10_isGallery (a0 + 2) x1 u) (fun x6 u5 => (if x6 = 0 then f10_miner_p48 a0 x1 x2 1 a0 u5 else tl_b2 (f10_in ((x2 : Int32).toInt64) 1 5 u5) (fun x10 u9 => (if x10 = 0 then f10_miner_p48 a0 x1 x2 2 a0 u9 else tl_b2 (f10_canMiner (a0 + 2) x1 u9) (fun x14 u13 => (if x14 = 0 then f10_miner_p48 a0 x1 x2 3 a0 u13 else f10_miner_p48 a0 x1 x2 0 a0 u13))))))

theorem l10_miner_p48 {E : tl_E} {a1 : Nat} {x2 : Int32} {x3 : Int32} {x4 : Int32} {a5 : Nat}   {u : tl_S} {r : Int32} {v : tl_S} (h1 : tl_T E.2.1 a1 = some 10) (h5 : tl_T E.2.1 a5 = some 10) (h : f10_miner_p48 a1 x2 x3 x4 a5 u = some (r, v)) : tl_R E mX10_miner tl_X0 (tl_ZB E mX10_miner (fun q w => q = some (.int r) ∧ w = v)) 0 0 (tl_HB E u) 48 [some (.ref a1), some (.int x2), some (.int x3)] [.int x4, .ref a5] := by
  unfold f10_miner_p48 at h
  obtain ⟨x9, u8, e7, h⟩ := tl_b2i h
  refine tl_iV1 tl_ck10 rfl h5 (l10_refused h5 e7) dX10_miner_48 cs_X10_miner_48 ⟨rfl, rfl⟩ ⟨Nat.zero_le _, Nat.zero_le _⟩ (Nat.le_of_ble_eq_true rfl) (tl_if_eq (tgt := 56) dX10_miner_51 (by decide) (fun c10 => ?_) (fun c10 => ?_))
  · replace h := tl_ip h c10
    obtain ⟨u12, e11, h⟩ := tl_bi h
    obtain ⟨x15, u14, e13, h⟩ := tl_b2i h
    exact tl_aload_n dX10_miner_56 rfl (tl_vV0 tl_ck10 rfl h1 (l10_remember h1 e11) dX10_miner_57 cs_X10_miner_57 ⟨rfl, rfl⟩ ⟨Nat.zero_le _, Nat.zero_le _⟩ (Nat.le_of_ble_eq_true rfl) (tl_aload_n dX10_miner_60 rfl (tl_getr (f := 3) (o := 2) tl_ck10 dX10_miner_61 fl_X10_13 (Nat.le_of_ble_eq_true rfl) rfl h1 (tl_iload_n dX10_miner_64 rfl (tl_iload_n dX10_miner_65 rfl (tl_iS3 (l10_minerOn (tt_10_3 h1) e13) dX10_miner_66 cs_X10_miner_66 ⟨rfl, rfl⟩ ⟨Nat.zero_le _, Nat.zero_le _⟩ (Nat.le_of_ble_eq_true rfl) (tl_iretE dX10_miner_69 rfl rfl h)))))))
  · replace h := tl_in h c10
    exact tl_iconst (v := 0) dX10_miner_54 ic_0 (tl_iretE dX10_miner_55 rfl rfl h)

theorem l10_miner {E : tl_E} {a0 : Nat} {x1 : Int32} {x2 : Int32}  {u : tl_S} {r : Int32} {v : tl_S} (h0 : tl_T E.2.1 a0 = some 10) (h : f10_miner a0 x1 x2 u = some (r, v)) : tl_MB E mX10_miner [.ref a0, .int x1, .int x2] u (fun q w => q = some (.int r) ∧ w = v) := by
  unfold f10_miner at h
  refine tl_start [some (.ref a0), some (.int x1), some (.int x2)] rfl rfl rfl (Nat.le_of_ble_eq_true rfl) ?_
  obtain ⟨x6, u5, e4, h⟩ := tl_b2i h
  refine tl_aload_n dX10_miner_0 rfl (tl_aload_n dX10_miner_1 rfl (tl_getr (f := 3) (o := 2) tl_ck10 dX10_miner_2 fl_X10_13 (Nat.le_of_ble_eq_true rfl) rfl h0 (tl_iload_n dX10_miner_5 rfl (tl_iS2 (l10_isGallery (tt_10_3 h0) e4) dX10_miner_6 cs_X10_miner_6 ⟨rfl, rfl⟩ ⟨Nat.zero_le _, Nat.zero_le _⟩ (Nat.le_of_ble_eq_true rfl) (tl_if_ne (tgt := 16) dX10_miner_9 (by decide) (fun c7 => ?_) (fun c7 => ?_))))))
  · replace h := tl_in h c7
    obtain ⟨x10, u9, e8, h⟩ := tl_b2i h
    refine tl_iload_n dX10_miner_16 rfl (tl_i2l dX10_miner_17 (tl_lconst (v := 1) dX10_miner_18 lc_1 (tl_ldc2 dX10_miner_19 kl_X10_227 (tl_iS3 (l10_in  e8) dX10_miner_22 cs_X10_miner_22 ⟨rfl, rfl⟩ ⟨Nat.zero_le _, Nat.zero_le _⟩ (Nat.le_of_ble_eq_true rfl) (tl_if_ne (tgt := 32) dX10_miner_25 (by decide) (fun c11 => ?_) (fun c11 => ?_))))))
    · replace h := tl_in h c11
      obtain ⟨x14, u13, e12, h⟩ := tl_b2i h
      refine tl_aload_n dX10_miner_32 rfl (tl_getr (f := 3) (o := 2) tl_ck10 dX10_miner_33 fl_X10_13 (Nat.le_of_ble_eq_true rfl) rfl h0 (tl_iload_n dX10_miner_36 rfl (tl_iS2 (l10_canMiner (tt_10_3 h0) e12) dX10_miner_37 cs_X10_miner_37 ⟨rfl, rfl⟩ ⟨Nat.zero_le _, Nat.zero_le _⟩ (Nat.le_of_ble_eq_true rfl) (tl_if_eq (tgt := 47) dX10_miner_40 (by decide) (fun c15 => ?_) (fun c15 => ?_)))))
      · replace h := tl_ip h c15
        refine tl_iconst (v := 3) dX10_miner_47 ic_3 (?_)
        exact l10_miner_p48 h0 h0 h
      · replace h := tl_in h c15
        refine tl_iconst (v := 0) dX10_miner_43 ic_0 (tl_goto (tgt := 48) dX10_miner_44 (by decide) (?_))
        exact l10_miner_p48 h0 h0 h
    · replace h := tl_ip h c11
      refine tl_iconst (v := 2) dX10_miner_28 ic_2 (tl_goto (tgt := 48) dX10_miner_29 (by decide) (?_))
      exact l10_miner_p48 h0 h0 h
  · replace h := tl_ip h c7
    refine tl_iconst (v := 1) dX10_miner_12 ic_1 (tl_goto (tgt := 48) dX10_miner_13 (by decide) (?_))
    exact l10_miner_p48 h0 h0 h

theorem cs_X10_send_6 : tl_cS mX10_send mX10_isMiner 229 2 := ⟨cd_X10_isMiner, ml_X10_229, sm_X10_isMiner, in_X10, ⟨by decide, by decide, by decide +kernel⟩, Nat.le_of_ble_eq_true rfl, Nat.le_of_ble_eq_true rfl⟩
theorem cs_X10_send_28 : tl_cV mX10_send mX10_refused 152 1 := ⟨cd_X10_refused, ml_X10_152, im_X10_refused, se_X10_refused, in_X10, ⟨by decide, by decide, by decide +kernel⟩, Nat.le_of_ble_eq_true rfl, Nat.le_of_ble_eq_true rfl⟩
theorem cs_X10_send_37 : tl_cV mX10_send mX10_remember 242 0 := ⟨cd_X10_remember, ml_X10_242, im_X10_remember, se_X10_remember, in_X10, ⟨by decide, by decide, by decide +kernel⟩, Nat.le_of_ble_eq_true rfl, Nat.le_of_ble_eq_true rfl⟩
theorem cs_X10_send_51 : tl_cS mX10_send mX10_change 245 3 := ⟨cd_X10_change, ml_X10_245, sm_X10_change, in_X10, ⟨by decide, by decide, by decide +kernel⟩, Nat.le_of_ble_eq_true rfl, Nat.le_of_ble_eq_true rfl⟩
theorem cs_X10_send_17 : tl_cS mX10_send mX10_isGallery 41 2 := ⟨cd_X10_isGallery, ml_X10_41, sm_X10_isGallery, in_X10, ⟨by decide, by decide, by decide +kernel⟩, Nat.le_of_ble_eq_true rfl, Nat.le_of_ble_eq_true rfl⟩
def f10_send_p28 (a1 : Nat) (x2 : Int32) (x3 : Int32) (x4 : Int32) (a5 : Nat) (u : tl_S) : Option (Int32 × tl_S) :=
  tl_b2 (f10_refused a5 x4 u) (fun x9 u8 => (if x9 = 0 then tl_b (f10_remember a1 u8) (fun u12 => tl_b2 (f10_change (a1 + 2) (24 + (4 * x2)) x3 u12) (fun x15 u14 => some (x15, u14))) else some (0, u8)))

def f10_send_p27 (a1 : Nat) (x2 : Int32) (x3 : Int32) (a4 : Nat) (u : tl_S) : Option (Int32 × tl_S) :=
  f10_send_p28 a1 x2 x3 1 a4 u

def f10_send (a0 : Nat) (x1 : Int32) (x2 : Int32) (u : tl_S) : Option (Int32 × tl_S) :=
  tl_b2 (f10_isMiner (a0 + 2) x1 u) (fun x6 u5 => (if x6 = 0 then f10_send_p27 a0 x1 x2 a0 u5 else tl_b2 (f10_isGallery (a0 + 2) x2 u5) (fun x10 u9 => (if x10 = 0 then f10_send_p27 a0 x1 x2 a0 u9 else f10_send_p28 a0 x1 x2 0 a0 u9))))

theorem l10_send_p28 {E : tl_E} {a1 : Nat} {x2 : Int32} {x3 : Int32} {x4 : Int32} {a5 : Nat}   {u : tl_S} {r : Int32} {v : tl_S} (h1 : tl_T E.2.1 a1 = some 10) (h5 : tl_T E.2.1 a5 = some 10) (h : f10_send_p28 a1 x2 x3 x4 a5 u = some (r, v)) : tl_R E mX10_send tl_X0 (tl_ZB E mX10_send (fun q w => q = some (.int r) ∧ w = v)) 0 0 (tl_HB E u) 28 [some (.ref a1), some (.int x2), some (.int x3)] [.int x4, .ref a5] := by
  unfold f10_send_p28 at h
  obtain ⟨x9, u8, e7, h⟩ := tl_b2i h
  refine tl_iV1 tl_ck10 rfl h5 (l10_refused h5 e7) dX10_send_28 cs_X10_send_28 ⟨rfl, rfl⟩ ⟨Nat.zero_le _, Nat.zero_le _⟩ (Nat.le_of_ble_eq_true rfl) (tl_if_eq (tgt := 36) dX10_send_31 (by decide) (fun c10 => ?_) (fun c10 => ?_))
  · replace h := tl_ip h c10
    obtain ⟨u12, e11, h⟩ := tl_bi h
    obtain ⟨x15, u14, e13, h⟩ := tl_b2i h
    exact tl_aload_n dX10_send_36 rfl (tl_vV0 tl_ck10 rfl h1 (l10_remember h1 e11) dX10_send_37 cs_X10_send_37 ⟨rfl, rfl⟩ ⟨Nat.zero_le _, Nat.zero_le _⟩ (Nat.le_of_ble_eq_true rfl) (tl_aload_n dX10_send_40 rfl (tl_getr (f := 3) (o := 2) tl_ck10 dX10_send_41 fl_X10_13 (Nat.le_of_ble_eq_true rfl) rfl h1 (tl_bipush (v := 24) dX10_send_44 bp_24 (tl_iconst (v := 4) dX10_send_46 ic_4 (tl_iload_n dX10_send_47 rfl (tl_imul dX10_send_48 (tl_iadd dX10_send_49 (tl_iload_n dX10_send_50 rfl (tl_iS3 (l10_change (tt_10_3 h1) e13) dX10_send_51 cs_X10_send_51 ⟨rfl, rfl⟩ ⟨Nat.zero_le _, Nat.zero_le _⟩ (Nat.le_of_ble_eq_true rfl) (tl_iretE dX10_send_54 rfl rfl h)))))))))))
  · replace h := tl_in h c10
    exact tl_iconst (v := 0) dX10_send_34 ic_0 (tl_iretE dX10_send_35 rfl rfl h)

theorem l10_send_p27 {E : tl_E} {a1 : Nat} {x2 : Int32} {x3 : Int32} {a4 : Nat}   {u : tl_S} {r : Int32} {v : tl_S} (h1 : tl_T E.2.1 a1 = some 10) (h4 : tl_T E.2.1 a4 = some 10) (h : f10_send_p27 a1 x2 x3 a4 u = some (r, v)) : tl_R E mX10_send tl_X0 (tl_ZB E mX10_send (fun q w => q = some (.int r) ∧ w = v)) 0 0 (tl_HB E u) 27 [some (.ref a1), some (.int x2), some (.int x3)] [.ref a4] := by
  unfold f10_send_p27 at h
  refine tl_iconst (v := 1) dX10_send_27 ic_1 (?_)
  exact l10_send_p28 h1 h4 h

theorem l10_send {E : tl_E} {a0 : Nat} {x1 : Int32} {x2 : Int32}  {u : tl_S} {r : Int32} {v : tl_S} (h0 : tl_T E.2.1 a0 = some 10) (h : f10_send a0 x1 x2 u = some (r, v)) : tl_MB E mX10_send [.ref a0, .int x1, .int x2] u (fun q w => q = some (.int r) ∧ w = v) := by
  unfold f10_send at h
  refine tl_start [some (.ref a0), some (.int x1), some (.int x2)] rfl rfl rfl (Nat.le_of_ble_eq_true rfl) ?_
  obtain ⟨x6, u5, e4, h⟩ := tl_b2i h
  refine tl_aload_n dX10_send_0 rfl (tl_aload_n dX10_send_1 rfl (tl_getr (f := 3) (o := 2) tl_ck10 dX10_send_2 fl_X10_13 (Nat.le_of_ble_eq_true rfl) rfl h0 (tl_iload_n dX10_send_5 rfl (tl_iS2 (l10_isMiner (tt_10_3 h0) e4) dX10_send_6 cs_X10_send_6 ⟨rfl, rfl⟩ ⟨Nat.zero_le _, Nat.zero_le _⟩ (Nat.le_of_ble_eq_true rfl) (tl_if_eq (tgt := 27) dX10_send_9 (by decide) (fun c7 => ?_) (fun c7 => ?_))))))
  · replace h := tl_ip h c7
    exact l10_send_p27 h0 h0 h
  · replace h := tl_in h c7
    obtain ⟨x10, u9, e8, h⟩ := tl_b2i h
    refine tl_aload_n dX10_send_12 rfl (tl_getr (f := 3) (o := 2) tl_ck10 dX10_send_13 fl_X10_13 (Nat.le_of_ble_eq_true rfl) rfl h0 (tl_iload_n dX10_send_16 rfl (tl_iS2 (l10_isGallery (tt_10_3 h0) e8) dX10_send_17 cs_X10_send_17 ⟨rfl, rfl⟩ ⟨Nat.zero_le _, Nat.zero_le _⟩ (Nat.le_of_ble_eq_true rfl) (tl_if_eq (tgt := 27) dX10_send_20 (by decide) (fun c11 => ?_) (fun c11 => ?_)))))
    · replace h := tl_ip h c11
      exact l10_send_p27 h0 h0 h
    · replace h := tl_in h c11
      refine tl_iconst (v := 0) dX10_send_23 ic_0 (tl_goto (tgt := 28) dX10_send_24 (by decide) (?_))
      exact l10_send_p28 h0 h0 h

theorem cs_X10_lamp_7 : tl_cS mX10_lamp mX10_isCell 139 3 := ⟨cd_X10_isCell, ml_X10_139, sm_X10_isCell, in_X10, ⟨by decide, by decide, by decide +kernel⟩, Nat.le_of_ble_eq_true rfl, Nat.le_of_ble_eq_true rfl⟩
theorem cs_X10_lamp_23 : tl_cS mX10_lamp mX10_in 37 3 := ⟨cd_X10_in, ml_X10_37, sm_X10_in, in_X10, ⟨by decide, by decide, by decide +kernel⟩, Nat.le_of_ble_eq_true rfl, Nat.le_of_ble_eq_true rfl⟩
theorem cs_X10_lamp_63 : tl_cV mX10_lamp mX10_refused 152 1 := ⟨cd_X10_refused, ml_X10_152, im_X10_refused, se_X10_refused, in_X10, ⟨by decide, by decide, by decide +kernel⟩, Nat.le_of_ble_eq_true rfl, Nat.le_of_ble_eq_true rfl⟩
theorem cs_X10_lamp_72 : tl_cV mX10_lamp mX10_remember 242 0 := ⟨cd_X10_remember, ml_X10_242, im_X10_remember, se_X10_remember, in_X10, ⟨by decide, by decide, by decide +kernel⟩, Nat.le_of_ble_eq_true rfl, Nat.le_of_ble_eq_true rfl⟩
theorem cs_X10_lamp_84 : tl_cS mX10_lamp mX10_lampOn 177 5 := ⟨cd_X10_lampOn, ml_X10_177, sm_X10_lampOn, in_X10, ⟨by decide, by decide, by decide +kernel⟩, Nat.le_of_ble_eq_true rfl, Nat.le_of_ble_eq_true rfl⟩
theorem cs_X10_lamp_36 : tl_cS mX10_lamp mX10_in 37 3 := ⟨cd_X10_in, ml_X10_37, sm_X10_in, in_X10, ⟨by decide, by decide, by decide +kernel⟩, Nat.le_of_ble_eq_true rfl, Nat.le_of_ble_eq_true rfl⟩
theorem cs_X10_lamp_52 : tl_cS mX10_lamp mX10_canLamp 174 3 := ⟨cd_X10_canLamp, ml_X10_174, sm_X10_canLamp, in_X10, ⟨by decide, by decide, by decide +kernel⟩, Nat.le_of_ble_eq_true rfl, Nat.le_of_ble_eq_true rfl⟩
def f10_lamp_p63 (a1 : Nat) (x2 : Int32) (x3 : Int32) (x4 : Int32) (x5 : Int32) (x6 : Int32) (a7 : Nat) (u : tl_S) : Option (Int32 × tl_S) :=
  tl_b2 (f10_refused a7 x6 u) (fun x11 u10 => (if x11 = 0 then tl_b (f10_remember a1 u10) (fun u14 => tl_b2 (f10_lampOn (a1 + 2) x2 x3 x4 x5 u14) (fun x17 u16 => some (x17, u16))) else some (0, u10)))

def f10_lamp_p42 (a1 : Nat) (x2 : Int32) (x3 : Int32) (x4 : Int32) (x5 : Int32) (a6 : Nat) (u : tl_S) : Option (Int32 × tl_S) :=
  f10_lamp_p63 a1 x2 x3 x4 x5 2 a6 u

def f10_lamp (a0 : Nat) (x1 : Int32) (x2 : Int32) (x3 : Int32) (x4 : Int32) (u : tl_S) : Option (Int32 × tl_S) :=
  tl_b2 (f10_isCell (a0 + 2) x1 x2 u) (fun x8 u7 => (if x8 = 0 then f10_lamp_p63 a0 x1 x2 x3 x4 1 a0 u7 else tl_b2 (f10_in ((x3 : Int32).toInt64) 1 9 u7) (fun x12 u11 => (if x12 = 0 then f10_lamp_p42 a0 x1 x2 x3 x4 a0 u11 else tl_b2 (f10_in ((x4 : Int32).toInt64) 0 99 u11) (fun x16 u15 => (if x16 = 0 then f10_lamp_p42 a0 x1 x2 x3 x4 a0 u15 else tl_b2 (f10_canLamp (a0 + 2) x1 x2 u15) (fun x20 u19 => (if x20 = 0 then f10_lamp_p63 a0 x1 x2 x3 x4 3 a0 u19 else f10_lamp_p63 a0 x1 x2 x3 x4 0 a0 u19))))))))

theorem l10_lamp_p63 {E : tl_E} {a1 : Nat} {x2 : Int32} {x3 : Int32} {x4 : Int32} {x5 : Int32} {x6 : Int32} {a7 : Nat}   {u : tl_S} {r : Int32} {v : tl_S} (h1 : tl_T E.2.1 a1 = some 10) (h7 : tl_T E.2.1 a7 = some 10) (h : f10_lamp_p63 a1 x2 x3 x4 x5 x6 a7 u = some (r, v)) : tl_R E mX10_lamp tl_X0 (tl_ZB E mX10_lamp (fun q w => q = some (.int r) ∧ w = v)) 0 0 (tl_HB E u) 63 [some (.ref a1), some (.int x2), some (.int x3), some (.int x4), some (.int x5)] [.int x6, .ref a7] := by
  unfold f10_lamp_p63 at h
  obtain ⟨x11, u10, e9, h⟩ := tl_b2i h
  refine tl_iV1 tl_ck10 rfl h7 (l10_refused h7 e9) dX10_lamp_63 cs_X10_lamp_63 ⟨rfl, rfl⟩ ⟨Nat.zero_le _, Nat.zero_le _⟩ (Nat.le_of_ble_eq_true rfl) (tl_if_eq (tgt := 71) dX10_lamp_66 (by decide) (fun c12 => ?_) (fun c12 => ?_))
  · replace h := tl_ip h c12
    obtain ⟨u14, e13, h⟩ := tl_bi h
    obtain ⟨x17, u16, e15, h⟩ := tl_b2i h
    exact tl_aload_n dX10_lamp_71 rfl (tl_vV0 tl_ck10 rfl h1 (l10_remember h1 e13) dX10_lamp_72 cs_X10_lamp_72 ⟨rfl, rfl⟩ ⟨Nat.zero_le _, Nat.zero_le _⟩ (Nat.le_of_ble_eq_true rfl) (tl_aload_n dX10_lamp_75 rfl (tl_getr (f := 3) (o := 2) tl_ck10 dX10_lamp_76 fl_X10_13 (Nat.le_of_ble_eq_true rfl) rfl h1 (tl_iload_n dX10_lamp_79 rfl (tl_iload_n dX10_lamp_80 rfl (tl_iload_n dX10_lamp_81 rfl (tl_iload dX10_lamp_82 rfl (tl_iS5 (l10_lampOn (tt_10_3 h1) e15) dX10_lamp_84 cs_X10_lamp_84 ⟨rfl, rfl⟩ ⟨Nat.zero_le _, Nat.zero_le _⟩ (Nat.le_of_ble_eq_true rfl) (tl_iretE dX10_lamp_87 rfl rfl h)))))))))
  · replace h := tl_in h c12
    exact tl_iconst (v := 0) dX10_lamp_69 ic_0 (tl_iretE dX10_lamp_70 rfl rfl h)

theorem l10_lamp_p42 {E : tl_E} {a1 : Nat} {x2 : Int32} {x3 : Int32} {x4 : Int32} {x5 : Int32} {a6 : Nat}   {u : tl_S} {r : Int32} {v : tl_S} (h1 : tl_T E.2.1 a1 = some 10) (h6 : tl_T E.2.1 a6 = some 10) (h : f10_lamp_p42 a1 x2 x3 x4 x5 a6 u = some (r, v)) : tl_R E mX10_lamp tl_X0 (tl_ZB E mX10_lamp (fun q w => q = some (.int r) ∧ w = v)) 0 0 (tl_HB E u) 42 [some (.ref a1), some (.int x2), some (.int x3), some (.int x4), some (.int x5)] [.ref a6] := by
  unfold f10_lamp_p42 at h
  refine tl_iconst (v := 2) dX10_lamp_42 ic_2 (tl_goto (tgt := 63) dX10_lamp_43 (by decide) (?_))
  exact l10_lamp_p63 h1 h6 h

theorem l10_lamp {E : tl_E} {a0 : Nat} {x1 : Int32} {x2 : Int32} {x3 : Int32} {x4 : Int32}  {u : tl_S} {r : Int32} {v : tl_S} (h0 : tl_T E.2.1 a0 = some 10) (h : f10_lamp a0 x1 x2 x3 x4 u = some (r, v)) : tl_MB E mX10_lamp [.ref a0, .int x1, .int x2, .int x3, .int x4] u (fun q w => q = some (.int r) ∧ w = v) := by
  unfold f10_lamp at h
  refine tl_start [some (.ref a0), some (.int x1), some (.int x2), some (.int x3), some (.int x4)] rfl rfl rfl (Nat.le_of_ble_eq_true rfl) ?_
  obtain ⟨x8, u7, e6, h⟩ := tl_b2i h
  refine tl_aload_n dX10_lamp_0 rfl (tl_aload_n dX10_lamp_1 rfl (tl_getr (f := 3) (o := 2) tl_ck10 dX10_lamp_2 fl_X10_13 (Nat.le_of_ble_eq_true rfl) rfl h0 (tl_iload_n dX10_lamp_5 rfl (tl_iload_n dX10_lamp_6 rfl (tl_iS3 (l10_isCell (tt_10_3 h0) e6) dX10_lamp_7 cs_X10_lamp_7 ⟨rfl, rfl⟩ ⟨Nat.zero_le _, Nat.zero_le _⟩ (Nat.le_of_ble_eq_true rfl) (tl_if_ne (tgt := 17) dX10_lamp_10 (by decide) (fun c9 => ?_) (fun c9 => ?_)))))))
  · replace h := tl_in h c9
    obtain ⟨x12, u11, e10, h⟩ := tl_b2i h
    refine tl_iload_n dX10_lamp_17 rfl (tl_i2l dX10_lamp_18 (tl_lconst (v := 1) dX10_lamp_19 lc_1 (tl_ldc2 dX10_lamp_20 kl_X10_159 (tl_iS3 (l10_in  e10) dX10_lamp_23 cs_X10_lamp_23 ⟨rfl, rfl⟩ ⟨Nat.zero_le _, Nat.zero_le _⟩ (Nat.le_of_ble_eq_true rfl) (tl_if_eq (tgt := 42) dX10_lamp_26 (by decide) (fun c13 => ?_) (fun c13 => ?_))))))
    · replace h := tl_ip h c13
      exact l10_lamp_p42 h0 h0 h
    · replace h := tl_in h c13
      obtain ⟨x16, u15, e14, h⟩ := tl_b2i h
      refine tl_iload dX10_lamp_29 rfl (tl_i2l dX10_lamp_31 (tl_lconst (v := 0) dX10_lamp_32 lc_0 (tl_ldc2 dX10_lamp_33 kl_X10_145 (tl_iS3 (l10_in  e14) dX10_lamp_36 cs_X10_lamp_36 ⟨rfl, rfl⟩ ⟨Nat.zero_le _, Nat.zero_le _⟩ (Nat.le_of_ble_eq_true rfl) (tl_if_ne (tgt := 46) dX10_lamp_39 (by decide) (fun c17 => ?_) (fun c17 => ?_))))))
      · replace h := tl_in h c17
        obtain ⟨x20, u19, e18, h⟩ := tl_b2i h
        refine tl_aload_n dX10_lamp_46 rfl (tl_getr (f := 3) (o := 2) tl_ck10 dX10_lamp_47 fl_X10_13 (Nat.le_of_ble_eq_true rfl) rfl h0 (tl_iload_n dX10_lamp_50 rfl (tl_iload_n dX10_lamp_51 rfl (tl_iS3 (l10_canLamp (tt_10_3 h0) e18) dX10_lamp_52 cs_X10_lamp_52 ⟨rfl, rfl⟩ ⟨Nat.zero_le _, Nat.zero_le _⟩ (Nat.le_of_ble_eq_true rfl) (tl_if_eq (tgt := 62) dX10_lamp_55 (by decide) (fun c21 => ?_) (fun c21 => ?_))))))
        · replace h := tl_ip h c21
          refine tl_iconst (v := 3) dX10_lamp_62 ic_3 (?_)
          exact l10_lamp_p63 h0 h0 h
        · replace h := tl_in h c21
          refine tl_iconst (v := 0) dX10_lamp_58 ic_0 (tl_goto (tgt := 63) dX10_lamp_59 (by decide) (?_))
          exact l10_lamp_p63 h0 h0 h
      · replace h := tl_ip h c17
        exact l10_lamp_p42 h0 h0 h
  · replace h := tl_ip h c9
    refine tl_iconst (v := 1) dX10_lamp_13 ic_1 (tl_goto (tgt := 63) dX10_lamp_14 (by decide) (?_))
    exact l10_lamp_p63 h0 h0 h

theorem cs_X10_store_7 : tl_cS mX10_store mX10_in 37 3 := ⟨cd_X10_in, ml_X10_37, sm_X10_in, in_X10, ⟨by decide, by decide, by decide +kernel⟩, Nat.le_of_ble_eq_true rfl, Nat.le_of_ble_eq_true rfl⟩
theorem cs_X10_store_36 : tl_cV mX10_store mX10_refused 152 1 := ⟨cd_X10_refused, ml_X10_152, im_X10_refused, se_X10_refused, in_X10, ⟨by decide, by decide, by decide +kernel⟩, Nat.le_of_ble_eq_true rfl, Nat.le_of_ble_eq_true rfl⟩
theorem cs_X10_store_45 : tl_cV mX10_store mX10_remember 242 0 := ⟨cd_X10_remember, ml_X10_242, im_X10_remember, se_X10_remember, in_X10, ⟨by decide, by decide, by decide +kernel⟩, Nat.le_of_ble_eq_true rfl, Nat.le_of_ble_eq_true rfl⟩
theorem cs_X10_store_53 : tl_cS mX10_store mX10_storeOn 202 2 := ⟨cd_X10_storeOn, ml_X10_202, sm_X10_storeOn, in_X10, ⟨by decide, by decide, by decide +kernel⟩, Nat.le_of_ble_eq_true rfl, Nat.le_of_ble_eq_true rfl⟩
def f10_store_p36 (a1 : Nat) (x2 : Int32) (x3 : Int32) (a4 : Nat) (u : tl_S) : Option (Int32 × tl_S) :=
  tl_b2 (f10_refused a4 x3 u) (fun x8 u7 => (if x8 = 0 then tl_b (f10_remember a1 u7) (fun u11 => tl_b2 (f10_storeOn (a1 + 2) x2 u11) (fun x14 u13 => some (x14, u13))) else some (0, u7)))

def f10_store (a0 : Nat) (x1 : Int32) (u : tl_S) : Option (Int32 × tl_S) :=
  tl_b2 (f10_in ((x1 : Int32).toInt64) 0 999 u) (fun x5 u4 => (if x5 = 0 then f10_store_p36 a0 x1 1 a0 u4 else (if ((u4.1 (a0 + 2) 4) + x1) ≤ 9999 then f10_store_p36 a0 x1 0 a0 u4 else f10_store_p36 a0 x1 2 a0 u4)))

theorem l10_store_p36 {E : tl_E} {a1 : Nat} {x2 : Int32} {x3 : Int32} {a4 : Nat}   {u : tl_S} {r : Int32} {v : tl_S} (h1 : tl_T E.2.1 a1 = some 10) (h4 : tl_T E.2.1 a4 = some 10) (h : f10_store_p36 a1 x2 x3 a4 u = some (r, v)) : tl_R E mX10_store tl_X0 (tl_ZB E mX10_store (fun q w => q = some (.int r) ∧ w = v)) 0 0 (tl_HB E u) 36 [some (.ref a1), some (.int x2)] [.int x3, .ref a4] := by
  unfold f10_store_p36 at h
  obtain ⟨x8, u7, e6, h⟩ := tl_b2i h
  refine tl_iV1 tl_ck10 rfl h4 (l10_refused h4 e6) dX10_store_36 cs_X10_store_36 ⟨rfl, rfl⟩ ⟨Nat.zero_le _, Nat.zero_le _⟩ (Nat.le_of_ble_eq_true rfl) (tl_if_eq (tgt := 44) dX10_store_39 (by decide) (fun c9 => ?_) (fun c9 => ?_))
  · replace h := tl_ip h c9
    obtain ⟨u11, e10, h⟩ := tl_bi h
    obtain ⟨x14, u13, e12, h⟩ := tl_b2i h
    exact tl_aload_n dX10_store_44 rfl (tl_vV0 tl_ck10 rfl h1 (l10_remember h1 e10) dX10_store_45 cs_X10_store_45 ⟨rfl, rfl⟩ ⟨Nat.zero_le _, Nat.zero_le _⟩ (Nat.le_of_ble_eq_true rfl) (tl_aload_n dX10_store_48 rfl (tl_getr (f := 3) (o := 2) tl_ck10 dX10_store_49 fl_X10_13 (Nat.le_of_ble_eq_true rfl) rfl h1 (tl_iload_n dX10_store_52 rfl (tl_iS2 (l10_storeOn (tt_10_3 h1) e12) dX10_store_53 cs_X10_store_53 ⟨rfl, rfl⟩ ⟨Nat.zero_le _, Nat.zero_le _⟩ (Nat.le_of_ble_eq_true rfl) (tl_iretE dX10_store_56 rfl rfl h))))))
  · replace h := tl_in h c9
    exact tl_iconst (v := 0) dX10_store_42 ic_0 (tl_iretE dX10_store_43 rfl rfl h)

theorem l10_store {E : tl_E} {a0 : Nat} {x1 : Int32}  {u : tl_S} {r : Int32} {v : tl_S} (h0 : tl_T E.2.1 a0 = some 10) (h : f10_store a0 x1 u = some (r, v)) : tl_MB E mX10_store [.ref a0, .int x1] u (fun q w => q = some (.int r) ∧ w = v) := by
  unfold f10_store at h
  refine tl_start [some (.ref a0), some (.int x1)] rfl rfl rfl (Nat.le_of_ble_eq_true rfl) ?_
  obtain ⟨x5, u4, e3, h⟩ := tl_b2i h
  refine tl_aload_n dX10_store_0 rfl (tl_iload_n dX10_store_1 rfl (tl_i2l dX10_store_2 (tl_lconst (v := 0) dX10_store_3 lc_0 (tl_ldc2 dX10_store_4 kl_X10_248 (tl_iS3 (l10_in  e3) dX10_store_7 cs_X10_store_7 ⟨rfl, rfl⟩ ⟨Nat.zero_le _, Nat.zero_le _⟩ (Nat.le_of_ble_eq_true rfl) (tl_if_ne (tgt := 17) dX10_store_10 (by decide) (fun c6 => ?_) (fun c6 => ?_)))))))
  · replace h := tl_in h c6
    refine tl_aload_n dX10_store_17 rfl (tl_getr (f := 3) (o := 2) tl_ck10 dX10_store_18 fl_X10_13 (Nat.le_of_ble_eq_true rfl) rfl h0 (tl_iconst (v := 4) dX10_store_21 ic_4 (tl_iald (j := 4) (fun _ _ => rfl) dX10_store_22 (tt_10_3 h0) (li_4 104 rfl) lx_4 (tl_iload_n dX10_store_23 rfl (tl_iadd dX10_store_24 (tl_sipush (v := 9999) dX10_store_25 sp_9999 (tl_icmp_le (tgt := 35) dX10_store_28 (by decide) (fun c7 => ?_) (fun c7 => ?_))))))))
    · replace h := tl_ip h c7
      refine tl_iconst (v := 0) dX10_store_35 ic_0 (?_)
      exact l10_store_p36 h0 h0 h
    · replace h := tl_in h c7
      refine tl_iconst (v := 2) dX10_store_31 ic_2 (tl_goto (tgt := 36) dX10_store_32 (by decide) (?_))
      exact l10_store_p36 h0 h0 h
  · replace h := tl_ip h c6
    refine tl_iconst (v := 1) dX10_store_13 ic_1 (tl_goto (tgt := 36) dX10_store_14 (by decide) (?_))
    exact l10_store_p36 h0 h0 h

theorem cs_X10_hang_6 : tl_cS mX10_hang mX10_isLamp 142 2 := ⟨cd_X10_isLamp, ml_X10_142, sm_X10_isLamp, in_X10, ⟨by decide, by decide, by decide +kernel⟩, Nat.le_of_ble_eq_true rfl, Nat.le_of_ble_eq_true rfl⟩
theorem cs_X10_hang_45 : tl_cV mX10_hang mX10_refused 152 1 := ⟨cd_X10_refused, ml_X10_152, im_X10_refused, se_X10_refused, in_X10, ⟨by decide, by decide, by decide +kernel⟩, Nat.le_of_ble_eq_true rfl, Nat.le_of_ble_eq_true rfl⟩
theorem cs_X10_hang_54 : tl_cV mX10_hang mX10_remember 242 0 := ⟨cd_X10_remember, ml_X10_242, im_X10_remember, se_X10_remember, in_X10, ⟨by decide, by decide, by decide +kernel⟩, Nat.le_of_ble_eq_true rfl, Nat.le_of_ble_eq_true rfl⟩
theorem cs_X10_hang_65 : tl_cS mX10_hang mX10_orderOn 120 5 := ⟨cd_X10_orderOn, ml_X10_120, sm_X10_orderOn, in_X10, ⟨by decide, by decide, by decide +kernel⟩, Nat.le_of_ble_eq_true rfl, Nat.le_of_ble_eq_true rfl⟩
theorem cs_X10_hang_18 : tl_cS mX10_hang mX10_isCell 139 3 := ⟨cd_X10_isCell, ml_X10_139, sm_X10_isCell, in_X10, ⟨by decide, by decide, by decide +kernel⟩, Nat.le_of_ble_eq_true rfl, Nat.le_of_ble_eq_true rfl⟩
def f10_hang_p45 (a1 : Nat) (x2 : Int32) (x3 : Int32) (x4 : Int32) (x5 : Int32) (a6 : Nat) (u : tl_S) : Option (Int32 × tl_S) :=
  tl_b2 (f10_refused a6 x5 u) (fun x10 u9 => (if x10 = 0 then tl_b (f10_remember a1 u9) (fun u13 => tl_b2 (f10_orderOn (a1 + 2) 0 x2 x3 x4 u13) (fun x16 u15 => some (x16, u15))) else some (0, u9)))

def f10_hang_p24 (a1 : Nat) (x2 : Int32) (x3 : Int32) (x4 : Int32) (a5 : Nat) (u : tl_S) : Option (Int32 × tl_S) :=
  f10_hang_p45 a1 x2 x3 x4 1 a5 u

def f10_hang (a0 : Nat) (x1 : Int32) (x2 : Int32) (x3 : Int32) (u : tl_S) : Option (Int32 × tl_S) :=
  tl_b2 (f10_isLamp (a0 + 2) x1 u) (fun x7 u6 => (if x7 = 0 then f10_hang_p24 a0 x1 x2 x3 a0 u6 else tl_b2 (f10_isCell (a0 + 2) x2 x3 u6) (fun x11 u10 => (if x11 = 0 then f10_hang_p24 a0 x1 x2 x3 a0 u10 else (if 6 ≤ (u10.1 (a0 + 2) 8) then f10_hang_p45 a0 x1 x2 x3 2 a0 u10 else f10_hang_p45 a0 x1 x2 x3 0 a0 u10)))))

theorem l10_hang_p45 {E : tl_E} {a1 : Nat} {x2 : Int32} {x3 : Int32} {x4 : Int32} {x5 : Int32} {a6 : Nat}   {u : tl_S} {r : Int32} {v : tl_S} (h1 : tl_T E.2.1 a1 = some 10) (h6 : tl_T E.2.1 a6 = some 10) (h : f10_hang_p45 a1 x2 x3 x4 x5 a6 u = some (r, v)) : tl_R E mX10_hang tl_X0 (tl_ZB E mX10_hang (fun q w => q = some (.int r) ∧ w = v)) 0 0 (tl_HB E u) 45 [some (.ref a1), some (.int x2), some (.int x3), some (.int x4)] [.int x5, .ref a6] := by
  unfold f10_hang_p45 at h
  obtain ⟨x10, u9, e8, h⟩ := tl_b2i h
  refine tl_iV1 tl_ck10 rfl h6 (l10_refused h6 e8) dX10_hang_45 cs_X10_hang_45 ⟨rfl, rfl⟩ ⟨Nat.zero_le _, Nat.zero_le _⟩ (Nat.le_of_ble_eq_true rfl) (tl_if_eq (tgt := 53) dX10_hang_48 (by decide) (fun c11 => ?_) (fun c11 => ?_))
  · replace h := tl_ip h c11
    obtain ⟨u13, e12, h⟩ := tl_bi h
    obtain ⟨x16, u15, e14, h⟩ := tl_b2i h
    exact tl_aload_n dX10_hang_53 rfl (tl_vV0 tl_ck10 rfl h1 (l10_remember h1 e12) dX10_hang_54 cs_X10_hang_54 ⟨rfl, rfl⟩ ⟨Nat.zero_le _, Nat.zero_le _⟩ (Nat.le_of_ble_eq_true rfl) (tl_aload_n dX10_hang_57 rfl (tl_getr (f := 3) (o := 2) tl_ck10 dX10_hang_58 fl_X10_13 (Nat.le_of_ble_eq_true rfl) rfl h1 (tl_iconst (v := 0) dX10_hang_61 ic_0 (tl_iload_n dX10_hang_62 rfl (tl_iload_n dX10_hang_63 rfl (tl_iload_n dX10_hang_64 rfl (tl_iS5 (l10_orderOn (tt_10_3 h1) e14) dX10_hang_65 cs_X10_hang_65 ⟨rfl, rfl⟩ ⟨Nat.zero_le _, Nat.zero_le _⟩ (Nat.le_of_ble_eq_true rfl) (tl_iretE dX10_hang_68 rfl rfl h)))))))))
  · replace h := tl_in h c11
    exact tl_iconst (v := 0) dX10_hang_51 ic_0 (tl_iretE dX10_hang_52 rfl rfl h)

theorem l10_hang_p24 {E : tl_E} {a1 : Nat} {x2 : Int32} {x3 : Int32} {x4 : Int32} {a5 : Nat}   {u : tl_S} {r : Int32} {v : tl_S} (h1 : tl_T E.2.1 a1 = some 10) (h5 : tl_T E.2.1 a5 = some 10) (h : f10_hang_p24 a1 x2 x3 x4 a5 u = some (r, v)) : tl_R E mX10_hang tl_X0 (tl_ZB E mX10_hang (fun q w => q = some (.int r) ∧ w = v)) 0 0 (tl_HB E u) 24 [some (.ref a1), some (.int x2), some (.int x3), some (.int x4)] [.ref a5] := by
  unfold f10_hang_p24 at h
  refine tl_iconst (v := 1) dX10_hang_24 ic_1 (tl_goto (tgt := 45) dX10_hang_25 (by decide) (?_))
  exact l10_hang_p45 h1 h5 h

theorem l10_hang {E : tl_E} {a0 : Nat} {x1 : Int32} {x2 : Int32} {x3 : Int32}  {u : tl_S} {r : Int32} {v : tl_S} (h0 : tl_T E.2.1 a0 = some 10) (h : f10_hang a0 x1 x2 x3 u = some (r, v)) : tl_MB E mX10_hang [.ref a0, .int x1, .int x2, .int x3] u (fun q w => q = some (.int r) ∧ w = v) := by
  unfold f10_hang at h
  refine tl_start [some (.ref a0), some (.int x1), some (.int x2), some (.int x3)] rfl rfl rfl (Nat.le_of_ble_eq_true rfl) ?_
  obtain ⟨x7, u6, e5, h⟩ := tl_b2i h
  refine tl_aload_n dX10_hang_0 rfl (tl_aload_n dX10_hang_1 rfl (tl_getr (f := 3) (o := 2) tl_ck10 dX10_hang_2 fl_X10_13 (Nat.le_of_ble_eq_true rfl) rfl h0 (tl_iload_n dX10_hang_5 rfl (tl_iS2 (l10_isLamp (tt_10_3 h0) e5) dX10_hang_6 cs_X10_hang_6 ⟨rfl, rfl⟩ ⟨Nat.zero_le _, Nat.zero_le _⟩ (Nat.le_of_ble_eq_true rfl) (tl_if_eq (tgt := 24) dX10_hang_9 (by decide) (fun c8 => ?_) (fun c8 => ?_))))))
  · replace h := tl_ip h c8
    exact l10_hang_p24 h0 h0 h
  · replace h := tl_in h c8
    obtain ⟨x11, u10, e9, h⟩ := tl_b2i h
    refine tl_aload_n dX10_hang_12 rfl (tl_getr (f := 3) (o := 2) tl_ck10 dX10_hang_13 fl_X10_13 (Nat.le_of_ble_eq_true rfl) rfl h0 (tl_iload_n dX10_hang_16 rfl (tl_iload_n dX10_hang_17 rfl (tl_iS3 (l10_isCell (tt_10_3 h0) e9) dX10_hang_18 cs_X10_hang_18 ⟨rfl, rfl⟩ ⟨Nat.zero_le _, Nat.zero_le _⟩ (Nat.le_of_ble_eq_true rfl) (tl_if_ne (tgt := 28) dX10_hang_21 (by decide) (fun c12 => ?_) (fun c12 => ?_))))))
    · replace h := tl_in h c12
      refine tl_aload_n dX10_hang_28 rfl (tl_getr (f := 3) (o := 2) tl_ck10 dX10_hang_29 fl_X10_13 (Nat.le_of_ble_eq_true rfl) rfl h0 (tl_bipush (v := 8) dX10_hang_32 bp_8 (tl_iald (j := 8) (fun _ _ => rfl) dX10_hang_34 (tt_10_3 h0) (li_8 104 rfl) lx_8 (tl_bipush (v := 6) dX10_hang_35 bp_6 (tl_icmp_ge (tgt := 44) dX10_hang_37 (by decide) (fun c13 => ?_) (fun c13 => ?_))))))
      · replace h := tl_ip h c13
        refine tl_iconst (v := 2) dX10_hang_44 ic_2 (?_)
        exact l10_hang_p45 h0 h0 h
      · replace h := tl_in h c13
        refine tl_iconst (v := 0) dX10_hang_40 ic_0 (tl_goto (tgt := 45) dX10_hang_41 (by decide) (?_))
        exact l10_hang_p45 h0 h0 h
    · replace h := tl_ip h c12
      exact l10_hang_p24 h0 h0 h

theorem cs_X10_fill_6 : tl_cS mX10_fill mX10_isLamp 142 2 := ⟨cd_X10_isLamp, ml_X10_142, sm_X10_isLamp, in_X10, ⟨by decide, by decide, by decide +kernel⟩, Nat.le_of_ble_eq_true rfl, Nat.le_of_ble_eq_true rfl⟩
theorem cs_X10_fill_22 : tl_cS mX10_fill mX10_in 37 3 := ⟨cd_X10_in, ml_X10_37, sm_X10_in, in_X10, ⟨by decide, by decide, by decide +kernel⟩, Nat.le_of_ble_eq_true rfl, Nat.le_of_ble_eq_true rfl⟩
theorem cs_X10_fill_49 : tl_cV mX10_fill mX10_refused 152 1 := ⟨cd_X10_refused, ml_X10_152, im_X10_refused, se_X10_refused, in_X10, ⟨by decide, by decide, by decide +kernel⟩, Nat.le_of_ble_eq_true rfl, Nat.le_of_ble_eq_true rfl⟩
theorem cs_X10_fill_58 : tl_cV mX10_fill mX10_remember 242 0 := ⟨cd_X10_remember, ml_X10_242, im_X10_remember, se_X10_remember, in_X10, ⟨by decide, by decide, by decide +kernel⟩, Nat.le_of_ble_eq_true rfl, Nat.le_of_ble_eq_true rfl⟩
theorem cs_X10_fill_69 : tl_cS mX10_fill mX10_orderOn 120 5 := ⟨cd_X10_orderOn, ml_X10_120, sm_X10_orderOn, in_X10, ⟨by decide, by decide, by decide +kernel⟩, Nat.le_of_ble_eq_true rfl, Nat.le_of_ble_eq_true rfl⟩
def f10_fill_p49 (a1 : Nat) (x2 : Int32) (x3 : Int32) (x4 : Int32) (a5 : Nat) (u : tl_S) : Option (Int32 × tl_S) :=
  tl_b2 (f10_refused a5 x4 u) (fun x9 u8 => (if x9 = 0 then tl_b (f10_remember a1 u8) (fun u12 => tl_b2 (f10_orderOn (a1 + 2) 1 x2 x3 (-1) u12) (fun x15 u14 => some (x15, u14))) else some (0, u8)))

def f10_fill (a0 : Nat) (x1 : Int32) (x2 : Int32) (u : tl_S) : Option (Int32 × tl_S) :=
  tl_b2 (f10_isLamp (a0 + 2) x1 u) (fun x6 u5 => (if x6 = 0 then f10_fill_p49 a0 x1 x2 1 a0 u5 else tl_b2 (f10_in ((x2 : Int32).toInt64) 1 99 u5) (fun x10 u9 => (if x10 = 0 then f10_fill_p49 a0 x1 x2 2 a0 u9 else (if 6 ≤ (u9.1 (a0 + 2) 8) then f10_fill_p49 a0 x1 x2 3 a0 u9 else f10_fill_p49 a0 x1 x2 0 a0 u9)))))

theorem l10_fill_p49 {E : tl_E} {a1 : Nat} {x2 : Int32} {x3 : Int32} {x4 : Int32} {a5 : Nat}   {u : tl_S} {r : Int32} {v : tl_S} (h1 : tl_T E.2.1 a1 = some 10) (h5 : tl_T E.2.1 a5 = some 10) (h : f10_fill_p49 a1 x2 x3 x4 a5 u = some (r, v)) : tl_R E mX10_fill tl_X0 (tl_ZB E mX10_fill (fun q w => q = some (.int r) ∧ w = v)) 0 0 (tl_HB E u) 49 [some (.ref a1), some (.int x2), some (.int x3)] [.int x4, .ref a5] := by
  unfold f10_fill_p49 at h
  obtain ⟨x9, u8, e7, h⟩ := tl_b2i h
  refine tl_iV1 tl_ck10 rfl h5 (l10_refused h5 e7) dX10_fill_49 cs_X10_fill_49 ⟨rfl, rfl⟩ ⟨Nat.zero_le _, Nat.zero_le _⟩ (Nat.le_of_ble_eq_true rfl) (tl_if_eq (tgt := 57) dX10_fill_52 (by decide) (fun c10 => ?_) (fun c10 => ?_))
  · replace h := tl_ip h c10
    obtain ⟨u12, e11, h⟩ := tl_bi h
    obtain ⟨x15, u14, e13, h⟩ := tl_b2i h
    exact tl_aload_n dX10_fill_57 rfl (tl_vV0 tl_ck10 rfl h1 (l10_remember h1 e11) dX10_fill_58 cs_X10_fill_58 ⟨rfl, rfl⟩ ⟨Nat.zero_le _, Nat.zero_le _⟩ (Nat.le_of_ble_eq_true rfl) (tl_aload_n dX10_fill_61 rfl (tl_getr (f := 3) (o := 2) tl_ck10 dX10_fill_62 fl_X10_13 (Nat.le_of_ble_eq_true rfl) rfl h1 (tl_iconst (v := 1) dX10_fill_65 ic_1 (tl_iload_n dX10_fill_66 rfl (tl_iload_n dX10_fill_67 rfl (tl_iconst (v := (-1)) dX10_fill_68 ic_m1 (tl_iS5 (l10_orderOn (tt_10_3 h1) e13) dX10_fill_69 cs_X10_fill_69 ⟨rfl, rfl⟩ ⟨Nat.zero_le _, Nat.zero_le _⟩ (Nat.le_of_ble_eq_true rfl) (tl_iretE dX10_fill_72 rfl rfl h)))))))))
  · replace h := tl_in h c10
    exact tl_iconst (v := 0) dX10_fill_55 ic_0 (tl_iretE dX10_fill_56 rfl rfl h)

theorem l10_fill {E : tl_E} {a0 : Nat} {x1 : Int32} {x2 : Int32}  {u : tl_S} {r : Int32} {v : tl_S} (h0 : tl_T E.2.1 a0 = some 10) (h : f10_fill a0 x1 x2 u = some (r, v)) : tl_MB E mX10_fill [.ref a0, .int x1, .int x2] u (fun q w => q = some (.int r) ∧ w = v) := by
  unfold f10_fill at h
  refine tl_start [some (.ref a0), some (.int x1), some (.int x2)] rfl rfl rfl (Nat.le_of_ble_eq_true rfl) ?_
  obtain ⟨x6, u5, e4, h⟩ := tl_b2i h
  refine tl_aload_n dX10_fill_0 rfl (tl_aload_n dX10_fill_1 rfl (tl_getr (f := 3) (o := 2) tl_ck10 dX10_fill_2 fl_X10_13 (Nat.le_of_ble_eq_true rfl) rfl h0 (tl_iload_n dX10_fill_5 rfl (tl_iS2 (l10_isLamp (tt_10_3 h0) e4) dX10_fill_6 cs_X10_fill_6 ⟨rfl, rfl⟩ ⟨Nat.zero_le _, Nat.zero_le _⟩ (Nat.le_of_ble_eq_true rfl) (tl_if_ne (tgt := 16) dX10_fill_9 (by decide) (fun c7 => ?_) (fun c7 => ?_))))))
  · replace h := tl_in h c7
    obtain ⟨x10, u9, e8, h⟩ := tl_b2i h
    refine tl_iload_n dX10_fill_16 rfl (tl_i2l dX10_fill_17 (tl_lconst (v := 1) dX10_fill_18 lc_1 (tl_ldc2 dX10_fill_19 kl_X10_145 (tl_iS3 (l10_in  e8) dX10_fill_22 cs_X10_fill_22 ⟨rfl, rfl⟩ ⟨Nat.zero_le _, Nat.zero_le _⟩ (Nat.le_of_ble_eq_true rfl) (tl_if_ne (tgt := 32) dX10_fill_25 (by decide) (fun c11 => ?_) (fun c11 => ?_))))))
    · replace h := tl_in h c11
      refine tl_aload_n dX10_fill_32 rfl (tl_getr (f := 3) (o := 2) tl_ck10 dX10_fill_33 fl_X10_13 (Nat.le_of_ble_eq_true rfl) rfl h0 (tl_bipush (v := 8) dX10_fill_36 bp_8 (tl_iald (j := 8) (fun _ _ => rfl) dX10_fill_38 (tt_10_3 h0) (li_8 104 rfl) lx_8 (tl_bipush (v := 6) dX10_fill_39 bp_6 (tl_icmp_ge (tgt := 48) dX10_fill_41 (by decide) (fun c12 => ?_) (fun c12 => ?_))))))
      · replace h := tl_ip h c12
        refine tl_iconst (v := 3) dX10_fill_48 ic_3 (?_)
        exact l10_fill_p49 h0 h0 h
      · replace h := tl_in h c12
        refine tl_iconst (v := 0) dX10_fill_44 ic_0 (tl_goto (tgt := 49) dX10_fill_45 (by decide) (?_))
        exact l10_fill_p49 h0 h0 h
    · replace h := tl_ip h c11
      refine tl_iconst (v := 2) dX10_fill_28 ic_2 (tl_goto (tgt := 49) dX10_fill_29 (by decide) (?_))
      exact l10_fill_p49 h0 h0 h
  · replace h := tl_ip h c7
    refine tl_iconst (v := 1) dX10_fill_12 ic_1 (tl_goto (tgt := 49) dX10_fill_13 (by decide) (?_))
    exact l10_fill_p49 h0 h0 h

theorem cs_X10_drop_45 : tl_cS mX10_drop mX10_in 37 3 := ⟨cd_X10_in, ml_X10_37, sm_X10_in, in_X10, ⟨by decide, by decide, by decide +kernel⟩, Nat.le_of_ble_eq_true rfl, Nat.le_of_ble_eq_true rfl⟩
theorem cs_X10_drop_64 : tl_cV mX10_drop mX10_refused 152 1 := ⟨cd_X10_refused, ml_X10_152, im_X10_refused, se_X10_refused, in_X10, ⟨by decide, by decide, by decide +kernel⟩, Nat.le_of_ble_eq_true rfl, Nat.le_of_ble_eq_true rfl⟩
theorem cs_X10_drop_73 : tl_cV mX10_drop mX10_remember 242 0 := ⟨cd_X10_remember, ml_X10_242, im_X10_remember, se_X10_remember, in_X10, ⟨by decide, by decide, by decide +kernel⟩, Nat.le_of_ble_eq_true rfl, Nat.le_of_ble_eq_true rfl⟩
theorem cs_X10_drop_81 : tl_cS mX10_drop mX10_orderDone 80 2 := ⟨cd_X10_orderDone, ml_X10_80, sm_X10_orderDone, in_X10, ⟨by decide, by decide, by decide +kernel⟩, Nat.le_of_ble_eq_true rfl, Nat.le_of_ble_eq_true rfl⟩
def f10_drop_p64 (a1 : Nat) (x2 : Int32) (x3 : Int32) (a4 : Nat) (u : tl_S) : Option (Int32 × tl_S) :=
  tl_b2 (f10_refused a4 x3 u) (fun x8 u7 => (if x8 = 0 then tl_b (f10_remember a1 u7) (fun u11 => tl_b (f10_orderDone (a1 + 2) x2 u11) (fun u13 => (if x2 = 0 then tl_let ((tl_u u13.1 (a1 + 2) 15 0, u13.2) : tl_S) (fun u15 => some ((u15.1 (a1 + 2) 8), u15)) else tl_let ((tl_u u13.1 (a1 + 2) 15 (u13.1 (a1 + 2) 15), u13.2) : tl_S) (fun u15 => some ((u15.1 (a1 + 2) 8), u15))))) else some (0, u7)))

def f10_drop_p30 (a1 : Nat) (x2 : Int32) (x3 : Int32) (u : tl_S) : Option (Int32 × tl_S) :=
  tl_b2 (f10_in ((x2 : Int32).toInt64) 0 ((((u.1 (a1 + 2) 8) - 1) : Int32).toInt64) u) (fun x7 u6 => (if x7 = 0 then f10_drop_p64 a1 x2 1 a1 u6 else (if x3 = 0 then f10_drop_p64 a1 x2 0 a1 u6 else f10_drop_p64 a1 x2 2 a1 u6)))

def f10_drop_p29 (a1 : Nat) (x2 : Int32) (u : tl_S) : Option (Int32 × tl_S) :=
  f10_drop_p30 a1 x2 0 u

def f10_drop_p25 (a1 : Nat) (x2 : Int32) (u : tl_S) : Option (Int32 × tl_S) :=
  f10_drop_p30 a1 x2 1 u

def f10_drop (a0 : Nat) (x1 : Int32) (u : tl_S) : Option (Int32 × tl_S) :=
  (if x1 = 0 then (if (u.1 (a0 + 2) 13) = (-1) then (if (u.1 (a0 + 2) 14) ≤ 0 then f10_drop_p29 a0 x1 u else f10_drop_p25 a0 x1 u) else f10_drop_p25 a0 x1 u) else f10_drop_p29 a0 x1 u)

theorem l10_drop_p64 {E : tl_E} {a1 : Nat} {x2 : Int32} {x3 : Int32} {a4 : Nat}  {d2 : Option Value} {u : tl_S} {r : Int32} {v : tl_S} (h1 : tl_T E.2.1 a1 = some 10) (h4 : tl_T E.2.1 a4 = some 10) (h : f10_drop_p64 a1 x2 x3 a4 u = some (r, v)) : tl_R E mX10_drop tl_X0 (tl_ZB E mX10_drop (fun q w => q = some (.int r) ∧ w = v)) 0 0 (tl_HB E u) 64 [some (.ref a1), some (.int x2), d2] [.int x3, .ref a4] := by
  unfold f10_drop_p64 at h
  obtain ⟨x8, u7, e6, h⟩ := tl_b2i h
  refine tl_iV1 tl_ck10 rfl h4 (l10_refused h4 e6) dX10_drop_64 cs_X10_drop_64 ⟨rfl, rfl⟩ ⟨Nat.zero_le _, Nat.zero_le _⟩ (Nat.le_of_ble_eq_true rfl) (tl_if_eq (tgt := 72) dX10_drop_67 (by decide) (fun c9 => ?_) (fun c9 => ?_))
  · replace h := tl_ip h c9
    obtain ⟨u11, e10, h⟩ := tl_bi h
    obtain ⟨u13, e12, h⟩ := tl_bi h
    refine tl_aload_n dX10_drop_72 rfl (tl_vV0 tl_ck10 rfl h1 (l10_remember h1 e10) dX10_drop_73 cs_X10_drop_73 ⟨rfl, rfl⟩ ⟨Nat.zero_le _, Nat.zero_le _⟩ (Nat.le_of_ble_eq_true rfl) (tl_aload_n dX10_drop_76 rfl (tl_getr (f := 3) (o := 2) tl_ck10 dX10_drop_77 fl_X10_13 (Nat.le_of_ble_eq_true rfl) rfl h1 (tl_iload_n dX10_drop_80 rfl (tl_vS2 (l10_orderDone (tt_10_3 h1) e12) dX10_drop_81 cs_X10_drop_81 ⟨rfl, rfl⟩ ⟨Nat.zero_le _, Nat.zero_le _⟩ (Nat.le_of_ble_eq_true rfl) (tl_aload_n dX10_drop_84 rfl (tl_getr (f := 3) (o := 2) tl_ck10 dX10_drop_85 fl_X10_13 (Nat.le_of_ble_eq_true rfl) rfl h1 (tl_bipush (v := 15) dX10_drop_88 bp_15 (tl_iload_n dX10_drop_90 rfl (tl_if_ne (tgt := 98) dX10_drop_91 (by decide) (fun c14 => ?_) (fun c14 => ?_)))))))))))
    · replace h := tl_in h c14
      refine tl_aload_n dX10_drop_98 rfl (tl_getr (f := 3) (o := 2) tl_ck10 dX10_drop_99 fl_X10_13 (Nat.le_of_ble_eq_true rfl) rfl h1 (tl_bipush (v := 15) dX10_drop_102 bp_15 (tl_iald (j := 15) (fun _ _ => rfl) dX10_drop_104 (tt_10_3 h1) (li_15 104 rfl) lx_15 (tl_iastK (fun _ _ => rfl) dX10_drop_105 (tt_10_3 h1) (15) (li_15 104 rfl) lx_15 (fun u15 e => ?_)))))
      have h := tl_leteq e h
      clear e
      exact tl_aload_n dX10_drop_106 rfl (tl_getr (f := 3) (o := 2) tl_ck10 dX10_drop_107 fl_X10_13 (Nat.le_of_ble_eq_true rfl) rfl h1 (tl_bipush (v := 8) dX10_drop_110 bp_8 (tl_iald (j := 8) (fun _ _ => rfl) dX10_drop_112 (tt_10_3 h1) (li_8 104 rfl) lx_8 (tl_iretE dX10_drop_113 rfl rfl h))))
    · replace h := tl_ip h c14
      refine tl_iconst (v := 0) dX10_drop_94 ic_0 (tl_goto (tgt := 105) dX10_drop_95 (by decide) (tl_iastK (fun _ _ => rfl) dX10_drop_105 (tt_10_3 h1) (15) (li_15 104 rfl) lx_15 (fun u15 e => ?_)))
      have h := tl_leteq e h
      clear e
      exact tl_aload_n dX10_drop_106 rfl (tl_getr (f := 3) (o := 2) tl_ck10 dX10_drop_107 fl_X10_13 (Nat.le_of_ble_eq_true rfl) rfl h1 (tl_bipush (v := 8) dX10_drop_110 bp_8 (tl_iald (j := 8) (fun _ _ => rfl) dX10_drop_112 (tt_10_3 h1) (li_8 104 rfl) lx_8 (tl_iretE dX10_drop_113 rfl rfl h))))
  · replace h := tl_in h c9
    exact tl_iconst (v := 0) dX10_drop_70 ic_0 (tl_iretE dX10_drop_71 rfl rfl h)

theorem l10_drop_p30 {E : tl_E} {a1 : Nat} {x2 : Int32} {x3 : Int32}  {d2 : Option Value} {u : tl_S} {r : Int32} {v : tl_S} (h1 : tl_T E.2.1 a1 = some 10) (h : f10_drop_p30 a1 x2 x3 u = some (r, v)) : tl_R E mX10_drop tl_X0 (tl_ZB E mX10_drop (fun q w => q = some (.int r) ∧ w = v)) 0 0 (tl_HB E u) 30 [some (.ref a1), some (.int x2), d2] [.int x3] := by
  unfold f10_drop_p30 at h
  obtain ⟨x7, u6, e5, h⟩ := tl_b2i h
  refine tl_istore_n dX10_drop_30 (Nat.le_of_ble_eq_true rfl) (tl_aload_n dX10_drop_31 rfl (tl_iload_n dX10_drop_32 rfl (tl_i2l dX10_drop_33 (tl_lconst (v := 0) dX10_drop_34 lc_0 (tl_aload_n dX10_drop_35 rfl (tl_getr (f := 3) (o := 2) tl_ck10 dX10_drop_36 fl_X10_13 (Nat.le_of_ble_eq_true rfl) rfl h1 (tl_bipush (v := 8) dX10_drop_39 bp_8 (tl_iald (j := 8) (fun _ _ => rfl) dX10_drop_41 (tt_10_3 h1) (li_8 104 rfl) lx_8 (tl_iconst (v := 1) dX10_drop_42 ic_1 (tl_isub dX10_drop_43 (tl_i2l dX10_drop_44 (tl_iS3 (l10_in  e5) dX10_drop_45 cs_X10_drop_45 ⟨rfl, rfl⟩ ⟨Nat.zero_le _, Nat.zero_le _⟩ (Nat.le_of_ble_eq_true rfl) (tl_if_ne (tgt := 55) dX10_drop_48 (by decide) (fun c8 => ?_) (fun c8 => ?_))))))))))))))
  · replace h := tl_in h c8
    refine tl_iload_n dX10_drop_55 rfl (tl_if_eq (tgt := 63) dX10_drop_56 (by decide) (fun c9 => ?_) (fun c9 => ?_))
    · replace h := tl_ip h c9
      refine tl_iconst (v := 0) dX10_drop_63 ic_0 (?_)
      exact l10_drop_p64 h1 h1 h
    · replace h := tl_in h c9
      refine tl_iconst (v := 2) dX10_drop_59 ic_2 (tl_goto (tgt := 64) dX10_drop_60 (by decide) (?_))
      exact l10_drop_p64 h1 h1 h
  · replace h := tl_ip h c8
    refine tl_iconst (v := 1) dX10_drop_51 ic_1 (tl_goto (tgt := 64) dX10_drop_52 (by decide) (?_))
    exact l10_drop_p64 h1 h1 h

theorem l10_drop_p29 {E : tl_E} {a1 : Nat} {x2 : Int32}  {d2 : Option Value} {u : tl_S} {r : Int32} {v : tl_S} (h1 : tl_T E.2.1 a1 = some 10) (h : f10_drop_p29 a1 x2 u = some (r, v)) : tl_R E mX10_drop tl_X0 (tl_ZB E mX10_drop (fun q w => q = some (.int r) ∧ w = v)) 0 0 (tl_HB E u) 29 [some (.ref a1), some (.int x2), d2] [] := by
  unfold f10_drop_p29 at h
  refine tl_iconst (v := 0) dX10_drop_29 ic_0 (?_)
  exact l10_drop_p30 h1 h

theorem l10_drop_p25 {E : tl_E} {a1 : Nat} {x2 : Int32}  {d2 : Option Value} {u : tl_S} {r : Int32} {v : tl_S} (h1 : tl_T E.2.1 a1 = some 10) (h : f10_drop_p25 a1 x2 u = some (r, v)) : tl_R E mX10_drop tl_X0 (tl_ZB E mX10_drop (fun q w => q = some (.int r) ∧ w = v)) 0 0 (tl_HB E u) 25 [some (.ref a1), some (.int x2), d2] [] := by
  unfold f10_drop_p25 at h
  refine tl_iconst (v := 1) dX10_drop_25 ic_1 (tl_goto (tgt := 30) dX10_drop_26 (by decide) (?_))
  exact l10_drop_p30 h1 h

theorem l10_drop {E : tl_E} {a0 : Nat} {x1 : Int32}  {u : tl_S} {r : Int32} {v : tl_S} (h0 : tl_T E.2.1 a0 = some 10) (h : f10_drop a0 x1 u = some (r, v)) : tl_MB E mX10_drop [.ref a0, .int x1] u (fun q w => q = some (.int r) ∧ w = v) := by
  unfold f10_drop at h
  refine tl_start [some (.ref a0), some (.int x1), none] rfl rfl rfl (Nat.le_of_ble_eq_true rfl) ?_
  refine tl_iload_n dX10_drop_0 rfl (tl_if_ne (tgt := 29) dX10_drop_1 (by decide) (fun c3 => ?_) (fun c3 => ?_))
  · replace h := tl_in h c3
    exact l10_drop_p29 h0 h
  · replace h := tl_ip h c3
    refine tl_aload_n dX10_drop_4 rfl (tl_getr (f := 3) (o := 2) tl_ck10 dX10_drop_5 fl_X10_13 (Nat.le_of_ble_eq_true rfl) rfl h0 (tl_bipush (v := 13) dX10_drop_8 bp_13 (tl_iald (j := 13) (fun _ _ => rfl) dX10_drop_10 (tt_10_3 h0) (li_13 104 rfl) lx_13 (tl_iconst (v := (-1)) dX10_drop_11 ic_m1 (tl_icmp_ne (tgt := 25) dX10_drop_12 (by decide) (fun c4 => ?_) (fun c4 => ?_))))))
    · replace h := tl_in h c4
      exact l10_drop_p25 h0 h
    · replace h := tl_ip h c4
      refine tl_aload_n dX10_drop_15 rfl (tl_getr (f := 3) (o := 2) tl_ck10 dX10_drop_16 fl_X10_13 (Nat.le_of_ble_eq_true rfl) rfl h0 (tl_bipush (v := 14) dX10_drop_19 bp_14 (tl_iald (j := 14) (fun _ _ => rfl) dX10_drop_21 (tt_10_3 h0) (li_14 104 rfl) lx_14 (tl_if_le (tgt := 29) dX10_drop_22 (by decide) (fun c5 => ?_) (fun c5 => ?_)))))
      · replace h := tl_ip h c5
        exact l10_drop_p29 h0 h
      · replace h := tl_in h c5
        exact l10_drop_p25 h0 h

theorem cs_X10_set_3 : tl_cS mX10_set mX10_isSetting 250 2 := ⟨cd_X10_isSetting, ml_X10_250, sm_X10_isSetting, in_X10, ⟨by decide, by decide, by decide +kernel⟩, Nat.le_of_ble_eq_true rfl, Nat.le_of_ble_eq_true rfl⟩
theorem cs_X10_set_14 : tl_cV mX10_set mX10_refused 152 1 := ⟨cd_X10_refused, ml_X10_152, im_X10_refused, se_X10_refused, in_X10, ⟨by decide, by decide, by decide +kernel⟩, Nat.le_of_ble_eq_true rfl, Nat.le_of_ble_eq_true rfl⟩
theorem cs_X10_set_23 : tl_cV mX10_set mX10_remember 242 0 := ⟨cd_X10_remember, ml_X10_242, im_X10_remember, se_X10_remember, in_X10, ⟨by decide, by decide, by decide +kernel⟩, Nat.le_of_ble_eq_true rfl, Nat.le_of_ble_eq_true rfl⟩
theorem cs_X10_set_35 : tl_cS mX10_set mX10_change 245 3 := ⟨cd_X10_change, ml_X10_245, sm_X10_change, in_X10, ⟨by decide, by decide, by decide +kernel⟩, Nat.le_of_ble_eq_true rfl, Nat.le_of_ble_eq_true rfl⟩
def f10_set (a0 : Nat) (x1 : Int32) (x2 : Int32) (u : tl_S) : Option (Int32 × tl_S) :=
  tl_b2 (f10_isSetting x1 x2 u) (fun x6 u5 => (if x6 = 0 then tl_b2 (f10_refused a0 1 u5) (fun x10 u9 => (if x10 = 0 then tl_b (f10_remember a0 u9) (fun u13 => tl_b2 (f10_change (a0 + 2) (16 + x1) x2 u13) (fun x16 u15 => some (x16, u15))) else some (0, u9))) else tl_b2 (f10_refused a0 0 u5) (fun x10 u9 => (if x10 = 0 then tl_b (f10_remember a0 u9) (fun u13 => tl_b2 (f10_change (a0 + 2) (16 + x1) x2 u13) (fun x16 u15 => some (x16, u15))) else some (0, u9)))))

theorem l10_set {E : tl_E} {a0 : Nat} {x1 : Int32} {x2 : Int32}  {u : tl_S} {r : Int32} {v : tl_S} (h0 : tl_T E.2.1 a0 = some 10) (h : f10_set a0 x1 x2 u = some (r, v)) : tl_MB E mX10_set [.ref a0, .int x1, .int x2] u (fun q w => q = some (.int r) ∧ w = v) := by
  unfold f10_set at h
  refine tl_start [some (.ref a0), some (.int x1), some (.int x2)] rfl rfl rfl (Nat.le_of_ble_eq_true rfl) ?_
  obtain ⟨x6, u5, e4, h⟩ := tl_b2i h
  refine tl_aload_n dX10_set_0 rfl (tl_iload_n dX10_set_1 rfl (tl_iload_n dX10_set_2 rfl (tl_iS2 (l10_isSetting  e4) dX10_set_3 cs_X10_set_3 ⟨rfl, rfl⟩ ⟨Nat.zero_le _, Nat.zero_le _⟩ (Nat.le_of_ble_eq_true rfl) (tl_if_eq (tgt := 13) dX10_set_6 (by decide) (fun c7 => ?_) (fun c7 => ?_)))))
  · replace h := tl_ip h c7
    obtain ⟨x10, u9, e8, h⟩ := tl_b2i h
    refine tl_iconst (v := 1) dX10_set_13 ic_1 (tl_iV1 tl_ck10 rfl h0 (l10_refused h0 e8) dX10_set_14 cs_X10_set_14 ⟨rfl, rfl⟩ ⟨Nat.zero_le _, Nat.zero_le _⟩ (Nat.le_of_ble_eq_true rfl) (tl_if_eq (tgt := 22) dX10_set_17 (by decide) (fun c11 => ?_) (fun c11 => ?_)))
    · replace h := tl_ip h c11
      obtain ⟨u13, e12, h⟩ := tl_bi h
      obtain ⟨x16, u15, e14, h⟩ := tl_b2i h
      exact tl_aload_n dX10_set_22 rfl (tl_vV0 tl_ck10 rfl h0 (l10_remember h0 e12) dX10_set_23 cs_X10_set_23 ⟨rfl, rfl⟩ ⟨Nat.zero_le _, Nat.zero_le _⟩ (Nat.le_of_ble_eq_true rfl) (tl_aload_n dX10_set_26 rfl (tl_getr (f := 3) (o := 2) tl_ck10 dX10_set_27 fl_X10_13 (Nat.le_of_ble_eq_true rfl) rfl h0 (tl_bipush (v := 16) dX10_set_30 bp_16 (tl_iload_n dX10_set_32 rfl (tl_iadd dX10_set_33 (tl_iload_n dX10_set_34 rfl (tl_iS3 (l10_change (tt_10_3 h0) e14) dX10_set_35 cs_X10_set_35 ⟨rfl, rfl⟩ ⟨Nat.zero_le _, Nat.zero_le _⟩ (Nat.le_of_ble_eq_true rfl) (tl_iretE dX10_set_38 rfl rfl h)))))))))
    · replace h := tl_in h c11
      exact tl_iconst (v := 0) dX10_set_20 ic_0 (tl_iretE dX10_set_21 rfl rfl h)
  · replace h := tl_in h c7
    obtain ⟨x10, u9, e8, h⟩ := tl_b2i h
    refine tl_iconst (v := 0) dX10_set_9 ic_0 (tl_goto (tgt := 14) dX10_set_10 (by decide) (tl_iV1 tl_ck10 rfl h0 (l10_refused h0 e8) dX10_set_14 cs_X10_set_14 ⟨rfl, rfl⟩ ⟨Nat.zero_le _, Nat.zero_le _⟩ (Nat.le_of_ble_eq_true rfl) (tl_if_eq (tgt := 22) dX10_set_17 (by decide) (fun c11 => ?_) (fun c11 => ?_))))
    · replace h := tl_ip h c11
      obtain ⟨u13, e12, h⟩ := tl_bi h
      obtain ⟨x16, u15, e14, h⟩ := tl_b2i h
      exact tl_aload_n dX10_set_22 rfl (tl_vV0 tl_ck10 rfl h0 (l10_remember h0 e12) dX10_set_23 cs_X10_set_23 ⟨rfl, rfl⟩ ⟨Nat.zero_le _, Nat.zero_le _⟩ (Nat.le_of_ble_eq_true rfl) (tl_aload_n dX10_set_26 rfl (tl_getr (f := 3) (o := 2) tl_ck10 dX10_set_27 fl_X10_13 (Nat.le_of_ble_eq_true rfl) rfl h0 (tl_bipush (v := 16) dX10_set_30 bp_16 (tl_iload_n dX10_set_32 rfl (tl_iadd dX10_set_33 (tl_iload_n dX10_set_34 rfl (tl_iS3 (l10_change (tt_10_3 h0) e14) dX10_set_35 cs_X10_set_35 ⟨rfl, rfl⟩ ⟨Nat.zero_le _, Nat.zero_le _⟩ (Nat.le_of_ble_eq_true rfl) (tl_iretE dX10_set_38 rfl rfl h)))))))))
    · replace h := tl_in h c11
      exact tl_iconst (v := 0) dX10_set_20 ic_0 (tl_iretE dX10_set_21 rfl rfl h)

theorem cs_X10_hours_7 : tl_cS mX10_hours mX10_in 37 3 := ⟨cd_X10_in, ml_X10_37, sm_X10_in, in_X10, ⟨by decide, by decide, by decide +kernel⟩, Nat.le_of_ble_eq_true rfl, Nat.le_of_ble_eq_true rfl⟩
theorem cs_X10_hours_18 : tl_cV mX10_hours mX10_refused 152 1 := ⟨cd_X10_refused, ml_X10_152, im_X10_refused, se_X10_refused, in_X10, ⟨by decide, by decide, by decide +kernel⟩, Nat.le_of_ble_eq_true rfl, Nat.le_of_ble_eq_true rfl⟩
theorem cs_X10_hours_27 : tl_cV mX10_hours mX10_remember 242 0 := ⟨cd_X10_remember, ml_X10_242, im_X10_remember, se_X10_remember, in_X10, ⟨by decide, by decide, by decide +kernel⟩, Nat.le_of_ble_eq_true rfl, Nat.le_of_ble_eq_true rfl⟩
theorem cs_X10_hours_35 : tl_cS mX10_hours mX10_hoursOn 211 2 := ⟨cd_X10_hoursOn, ml_X10_211, sm_X10_hoursOn, in_X10, ⟨by decide, by decide, by decide +kernel⟩, Nat.le_of_ble_eq_true rfl, Nat.le_of_ble_eq_true rfl⟩
def f10_hours (a0 : Nat) (x1 : Int32) (u : tl_S) : Option (Int32 × tl_S) :=
  tl_b2 (f10_in ((x1 : Int32).toInt64) 1 60 u) (fun x5 u4 => (if x5 = 0 then tl_b2 (f10_refused a0 1 u4) (fun x9 u8 => (if x9 = 0 then tl_b (f10_remember a0 u8) (fun u12 => tl_b2 (f10_hoursOn (a0 + 2) x1 u12) (fun x15 u14 => some (x15, u14))) else some (0, u8))) else tl_b2 (f10_refused a0 0 u4) (fun x9 u8 => (if x9 = 0 then tl_b (f10_remember a0 u8) (fun u12 => tl_b2 (f10_hoursOn (a0 + 2) x1 u12) (fun x15 u14 => some (x15, u14))) else some (0, u8)))))

theorem l10_hours {E : tl_E} {a0 : Nat} {x1 : Int32}  {u : tl_S} {r : Int32} {v : tl_S} (h0 : tl_T E.2.1 a0 = some 10) (h : f10_hours a0 x1 u = some (r, v)) : tl_MB E mX10_hours [.ref a0, .int x1] u (fun q w => q = some (.int r) ∧ w = v) := by
  unfold f10_hours at h
  refine tl_start [some (.ref a0), some (.int x1)] rfl rfl rfl (Nat.le_of_ble_eq_true rfl) ?_
  obtain ⟨x5, u4, e3, h⟩ := tl_b2i h
  refine tl_aload_n dX10_hours_0 rfl (tl_iload_n dX10_hours_1 rfl (tl_i2l dX10_hours_2 (tl_lconst (v := 1) dX10_hours_3 lc_1 (tl_ldc2 dX10_hours_4 kl_X10_240 (tl_iS3 (l10_in  e3) dX10_hours_7 cs_X10_hours_7 ⟨rfl, rfl⟩ ⟨Nat.zero_le _, Nat.zero_le _⟩ (Nat.le_of_ble_eq_true rfl) (tl_if_eq (tgt := 17) dX10_hours_10 (by decide) (fun c6 => ?_) (fun c6 => ?_)))))))
  · replace h := tl_ip h c6
    obtain ⟨x9, u8, e7, h⟩ := tl_b2i h
    refine tl_iconst (v := 1) dX10_hours_17 ic_1 (tl_iV1 tl_ck10 rfl h0 (l10_refused h0 e7) dX10_hours_18 cs_X10_hours_18 ⟨rfl, rfl⟩ ⟨Nat.zero_le _, Nat.zero_le _⟩ (Nat.le_of_ble_eq_true rfl) (tl_if_eq (tgt := 26) dX10_hours_21 (by decide) (fun c10 => ?_) (fun c10 => ?_)))
    · replace h := tl_ip h c10
      obtain ⟨u12, e11, h⟩ := tl_bi h
      obtain ⟨x15, u14, e13, h⟩ := tl_b2i h
      exact tl_aload_n dX10_hours_26 rfl (tl_vV0 tl_ck10 rfl h0 (l10_remember h0 e11) dX10_hours_27 cs_X10_hours_27 ⟨rfl, rfl⟩ ⟨Nat.zero_le _, Nat.zero_le _⟩ (Nat.le_of_ble_eq_true rfl) (tl_aload_n dX10_hours_30 rfl (tl_getr (f := 3) (o := 2) tl_ck10 dX10_hours_31 fl_X10_13 (Nat.le_of_ble_eq_true rfl) rfl h0 (tl_iload_n dX10_hours_34 rfl (tl_iS2 (l10_hoursOn (tt_10_3 h0) e13) dX10_hours_35 cs_X10_hours_35 ⟨rfl, rfl⟩ ⟨Nat.zero_le _, Nat.zero_le _⟩ (Nat.le_of_ble_eq_true rfl) (tl_iretE dX10_hours_38 rfl rfl h))))))
    · replace h := tl_in h c10
      exact tl_iconst (v := 0) dX10_hours_24 ic_0 (tl_iretE dX10_hours_25 rfl rfl h)
  · replace h := tl_in h c6
    obtain ⟨x9, u8, e7, h⟩ := tl_b2i h
    refine tl_iconst (v := 0) dX10_hours_13 ic_0 (tl_goto (tgt := 18) dX10_hours_14 (by decide) (tl_iV1 tl_ck10 rfl h0 (l10_refused h0 e7) dX10_hours_18 cs_X10_hours_18 ⟨rfl, rfl⟩ ⟨Nat.zero_le _, Nat.zero_le _⟩ (Nat.le_of_ble_eq_true rfl) (tl_if_eq (tgt := 26) dX10_hours_21 (by decide) (fun c10 => ?_) (fun c10 => ?_))))
    · replace h := tl_ip h c10
      obtain ⟨u12, e11, h⟩ := tl_bi h
      obtain ⟨x15, u14, e13, h⟩ := tl_b2i h
      exact tl_aload_n dX10_hours_26 rfl (tl_vV0 tl_ck10 rfl h0 (l10_remember h0 e11) dX10_hours_27 cs_X10_hours_27 ⟨rfl, rfl⟩ ⟨Nat.zero_le _, Nat.zero_le _⟩ (Nat.le_of_ble_eq_true rfl) (tl_aload_n dX10_hours_30 rfl (tl_getr (f := 3) (o := 2) tl_ck10 dX10_hours_31 fl_X10_13 (Nat.le_of_ble_eq_true rfl) rfl h0 (tl_iload_n dX10_hours_34 rfl (tl_iS2 (l10_hoursOn (tt_10_3 h0) e13) dX10_hours_35 cs_X10_hours_35 ⟨rfl, rfl⟩ ⟨Nat.zero_le _, Nat.zero_le _⟩ (Nat.le_of_ble_eq_true rfl) (tl_iretE dX10_hours_38 rfl rfl h))))))
    · replace h := tl_in h c10
      exact tl_iconst (v := 0) dX10_hours_24 ic_0 (tl_iretE dX10_hours_25 rfl rfl h)

theorem cs_X10_undo_13 : tl_cV mX10_undo mX10_refused 152 1 := ⟨cd_X10_refused, ml_X10_152, im_X10_refused, se_X10_refused, in_X10, ⟨by decide, by decide, by decide +kernel⟩, Nat.le_of_ble_eq_true rfl, Nat.le_of_ble_eq_true rfl⟩
theorem cs_X10_undo_47 : tl_cS mX10_undo mX10_copyState 220 4 := ⟨cd_X10_copyState, ml_X10_220, sm_X10_copyState, in_X10, ⟨by decide, by decide, by decide +kernel⟩, Nat.le_of_ble_eq_true rfl, Nat.le_of_ble_eq_true rfl⟩
def f10_undo_p13 (a1 : Nat) (x2 : Int32) (a3 : Nat) (u : tl_S) : Option (Int32 × tl_S) :=
  tl_b2 (f10_refused a3 x2 u) (fun x7 u6 => (if x7 = 0 then tl_let ((tl_u u6.1 a1 6 ((u6.1 a1 6) - 1), u6.2) : tl_S) (fun u9 => tl_b (f10_copyState (a1 + 4) 1456 (104 * (u9.1 a1 6)) (a1 + 2) 104 0 u9) (fun u11 => some ((u11.1 a1 6), u11))) else some (0, u6)))

def f10_undo (a0 : Nat) (u : tl_S) : Option (Int32 × tl_S) :=
  (if (u.1 a0 6) = 0 then f10_undo_p13 a0 1 a0 u else f10_undo_p13 a0 0 a0 u)

theorem l10_undo_p13 {E : tl_E} {a1 : Nat} {x2 : Int32} {a3 : Nat}   {u : tl_S} {r : Int32} {v : tl_S} (h1 : tl_T E.2.1 a1 = some 10) (h3 : tl_T E.2.1 a3 = some 10) (h : f10_undo_p13 a1 x2 a3 u = some (r, v)) : tl_R E mX10_undo tl_X0 (tl_ZB E mX10_undo (fun q w => q = some (.int r) ∧ w = v)) 0 0 (tl_HB E u) 13 [some (.ref a1)] [.int x2, .ref a3] := by
  unfold f10_undo_p13 at h
  obtain ⟨x7, u6, e5, h⟩ := tl_b2i h
  refine tl_iV1 tl_ck10 rfl h3 (l10_refused h3 e5) dX10_undo_13 cs_X10_undo_13 ⟨rfl, rfl⟩ ⟨Nat.zero_le _, Nat.zero_le _⟩ (Nat.le_of_ble_eq_true rfl) (tl_if_eq (tgt := 21) dX10_undo_16 (by decide) (fun c8 => ?_) (fun c8 => ?_))
  · replace h := tl_ip h c8
    refine tl_aload_n dX10_undo_21 rfl (tl_dup dX10_undo_22 rfl (tl_geti (f := 6) tl_ck10 dX10_undo_23 fl_X10_224 (Nat.le_of_ble_eq_true rfl) rfl h1 (tl_iconst (v := 1) dX10_undo_26 ic_1 (tl_isub dX10_undo_27 (tl_puti (f := 6) tl_ck10 dX10_undo_28 fl_X10_224 (Nat.le_of_ble_eq_true rfl) rfl rfl rfl h1 (fun u9 e => ?_))))))
    have h := tl_leteq e h
    clear e
    obtain ⟨u11, e10, h⟩ := tl_bi h
    exact tl_aload_n dX10_undo_31 rfl (tl_getr (f := 5) (o := 4) tl_ck10 dX10_undo_32 fl_X10_19 (Nat.le_of_ble_eq_true rfl) rfl h1 (tl_bipush (v := 104) dX10_undo_35 bp_104 (tl_aload_n dX10_undo_37 rfl (tl_geti (f := 6) tl_ck10 dX10_undo_38 fl_X10_224 (Nat.le_of_ble_eq_true rfl) rfl h1 (tl_imul dX10_undo_41 (tl_aload_n dX10_undo_42 rfl (tl_getr (f := 3) (o := 2) tl_ck10 dX10_undo_43 fl_X10_13 (Nat.le_of_ble_eq_true rfl) rfl h1 (tl_iconst (v := 0) dX10_undo_46 ic_0 (tl_vS4 (l10_copyState (fun _ _ => rfl) (tt_10_5 h1) (fun _ _ => rfl) (tt_10_3 h1) e10) dX10_undo_47 cs_X10_undo_47 ⟨rfl, rfl⟩ ⟨Nat.zero_le _, Nat.zero_le _⟩ (Nat.le_of_ble_eq_true rfl) (tl_aload_n dX10_undo_50 rfl (tl_geti (f := 6) tl_ck10 dX10_undo_51 fl_X10_224 (Nat.le_of_ble_eq_true rfl) rfl h1 (tl_iretE dX10_undo_54 rfl rfl h))))))))))))
  · replace h := tl_in h c8
    exact tl_iconst (v := 0) dX10_undo_19 ic_0 (tl_iretE dX10_undo_20 rfl rfl h)

theorem l10_undo {E : tl_E} {a0 : Nat}  {u : tl_S} {r : Int32} {v : tl_S} (h0 : tl_T E.2.1 a0 = some 10) (h : f10_undo a0 u = some (r, v)) : tl_MB E mX10_undo [.ref a0] u (fun q w => q = some (.int r) ∧ w = v) := by
  unfold f10_undo at h
  refine tl_start [some (.ref a0)] rfl rfl rfl (Nat.le_of_ble_eq_true rfl) ?_
  refine tl_aload_n dX10_undo_0 rfl (tl_aload_n dX10_undo_1 rfl (tl_geti (f := 6) tl_ck10 dX10_undo_2 fl_X10_224 (Nat.le_of_ble_eq_true rfl) rfl h0 (tl_if_ne (tgt := 12) dX10_undo_5 (by decide) (fun c2 => ?_) (fun c2 => ?_))))
  · replace h := tl_in h c2
    refine tl_iconst (v := 0) dX10_undo_12 ic_0 (?_)
    exact l10_undo_p13 h0 h0 h
  · replace h := tl_ip h c2
    refine tl_iconst (v := 1) dX10_undo_8 ic_1 (tl_goto (tgt := 13) dX10_undo_9 (by decide) (?_))
    exact l10_undo_p13 h0 h0 h

theorem cs_X10_darkIn_6 : tl_cS mX10_darkIn mX10_isGallery 41 2 := ⟨cd_X10_isGallery, ml_X10_41, sm_X10_isGallery, in_X10, ⟨by decide, by decide, by decide +kernel⟩, Nat.le_of_ble_eq_true rfl, Nat.le_of_ble_eq_true rfl⟩
theorem cs_X10_darkIn_17 : tl_cV mX10_darkIn mX10_refused 152 1 := ⟨cd_X10_refused, ml_X10_152, im_X10_refused, se_X10_refused, in_X10, ⟨by decide, by decide, by decide +kernel⟩, Nat.le_of_ble_eq_true rfl, Nat.le_of_ble_eq_true rfl⟩
theorem cs_X10_darkIn_35 : tl_cS mX10_darkIn mX10_copyState 220 4 := ⟨cd_X10_copyState, ml_X10_220, sm_X10_copyState, in_X10, ⟨by decide, by decide, by decide +kernel⟩, Nat.le_of_ble_eq_true rfl, Nat.le_of_ble_eq_true rfl⟩
theorem cs_X10_darkIn_57 : tl_cS mX10_darkIn mX10_depth 45 2 := ⟨cd_X10_depth, ml_X10_45, sm_X10_depth, in_X10, ⟨by decide, by decide, by decide +kernel⟩, Nat.le_of_ble_eq_true rfl, Nat.le_of_ble_eq_true rfl⟩
theorem cs_X10_darkIn_60 : tl_cS mX10_darkIn mX10_isLit 102 3 := ⟨cd_X10_isLit, ml_X10_102, sm_X10_isLit, in_X10, ⟨by decide, by decide, by decide +kernel⟩, Nat.le_of_ble_eq_true rfl, Nat.le_of_ble_eq_true rfl⟩
theorem cs_X10_darkIn_72 : tl_cS mX10_darkIn mX10_hour 136 1 := ⟨cd_X10_hour, ml_X10_136, sm_X10_hour, in_X10, ⟨by decide, by decide, by decide +kernel⟩, Nat.le_of_ble_eq_true rfl, Nat.le_of_ble_eq_true rfl⟩
def f10_darkIn_p40 : Nat → Nat → Int32 → Int32 → tl_S → Option (Int32 × tl_S)
  | 0, _, _, _, _ => none
  | fu + 1, a1, x2, x3, u =>
  (if 200 < x3 then some ((-1), u) else tl_b2 (f10_depth (a1 + 3) x2 u) (fun x8 u7 => tl_b2 (f10_isLit (a1 + 3) x2 x8 u7) (fun x11 u10 => (if x11 = 0 then some (x3, u10) else tl_b (f10_hour (a1 + 3) u10) (fun u14 => tl_let (x3 + 1) (fun x15 => f10_darkIn_p40 fu a1 x2 x15 u14))))))

def f10_darkIn (a0 : Nat) (x1 : Int32) (u : tl_S) : Option (Int32 × tl_S) :=
  tl_b2 (f10_isGallery (a0 + 2) x1 u) (fun x5 u4 => (if x5 = 0 then tl_b2 (f10_refused a0 1 u4) (fun x9 u8 => (if x9 = 0 then tl_b (f10_copyState (a0 + 2) 104 0 (a0 + 3) 104 0 u8) (fun u12 => f10_darkIn_p40 tl_F a0 x1 0 u12) else some (0, u8))) else tl_b2 (f10_refused a0 0 u4) (fun x9 u8 => (if x9 = 0 then tl_b (f10_copyState (a0 + 2) 104 0 (a0 + 3) 104 0 u8) (fun u12 => f10_darkIn_p40 tl_F a0 x1 0 u12) else some (0, u8)))))

theorem l10_darkIn_p40 {E : tl_E}  {r : Int32} {v : tl_S} : ∀ (n : Nat) (a1 : Nat) (x2 : Int32) (x3 : Int32) (u : tl_S) , tl_T E.2.1 a1 = some 10 → f10_darkIn_p40 n a1 x2 x3 u = some (r, v) → tl_R E mX10_darkIn tl_X0 (tl_ZB E mX10_darkIn (fun q w => q = some (.int r) ∧ w = v)) 0 0 (tl_HB E u) 40 [some (.ref a1), some (.int x2), some (.int x3)] [] := by
  intro n
  induction n with
  | zero => intro a1 x2 x3 u  h1 h; exact absurd h (by simp [f10_darkIn_p40])
  | succ n ih =>
    intro a1 x2 x3 u  h1 h
    rw [f10_darkIn_p40] at h
    refine tl_iload_n dX10_darkIn_40 rfl (tl_sipush (v := 200) dX10_darkIn_41 sp_200 (tl_icmp_gt (tgt := 81) dX10_darkIn_44 (by decide) (fun c5 => ?_) (fun c5 => ?_)))
    · replace h := tl_ip h c5
      exact tl_iconst (v := (-1)) dX10_darkIn_81 ic_m1 (tl_iretE dX10_darkIn_82 rfl rfl h)
    · replace h := tl_in h c5
      obtain ⟨x8, u7, e6, h⟩ := tl_b2i h
      obtain ⟨x11, u10, e9, h⟩ := tl_b2i h
      refine tl_aload_n dX10_darkIn_47 rfl (tl_getr (f := 4) (o := 3) tl_ck10 dX10_darkIn_48 fl_X10_16 (Nat.le_of_ble_eq_true rfl) rfl h1 (tl_iload_n dX10_darkIn_51 rfl (tl_aload_n dX10_darkIn_52 rfl (tl_getr (f := 4) (o := 3) tl_ck10 dX10_darkIn_53 fl_X10_16 (Nat.le_of_ble_eq_true rfl) rfl h1 (tl_iload_n dX10_darkIn_56 rfl (tl_iS2 (l10_depth (tt_10_4 h1) e6) dX10_darkIn_57 cs_X10_darkIn_57 ⟨rfl, rfl⟩ ⟨Nat.zero_le _, Nat.zero_le _⟩ (Nat.le_of_ble_eq_true rfl) (tl_iS3 (l10_isLit (tt_10_4 h1) e9) dX10_darkIn_60 cs_X10_darkIn_60 ⟨rfl, rfl⟩ ⟨Nat.zero_le _, Nat.zero_le _⟩ (Nat.le_of_ble_eq_true rfl) (tl_if_ne (tgt := 68) dX10_darkIn_63 (by decide) (fun c12 => ?_) (fun c12 => ?_)))))))))
      · replace h := tl_in h c12
        obtain ⟨u14, e13, h⟩ := tl_bi h
        refine tl_aload_n dX10_darkIn_68 rfl (tl_getr (f := 4) (o := 3) tl_ck10 dX10_darkIn_69 fl_X10_16 (Nat.le_of_ble_eq_true rfl) rfl h1 (tl_vS1 (l10_hour (tt_10_4 h1) e13) dX10_darkIn_72 cs_X10_darkIn_72 ⟨rfl, rfl⟩ ⟨Nat.zero_le _, Nat.zero_le _⟩ (Nat.le_of_ble_eq_true rfl) (tl_iincK dX10_darkIn_75 rfl (ii_1 _) (Nat.le_of_ble_eq_true rfl) (fun x15 e => ?_))))
        have h := tl_leteq e h
        clear e
        refine tl_goto (tgt := 40) dX10_darkIn_78 (by decide) (?_)
        exact ih _ _ _ _  h1 h
      · replace h := tl_ip h c12
        exact tl_iload_n dX10_darkIn_66 rfl (tl_iretE dX10_darkIn_67 rfl rfl h)

theorem l10_darkIn {E : tl_E} {a0 : Nat} {x1 : Int32}  {u : tl_S} {r : Int32} {v : tl_S} (h0 : tl_T E.2.1 a0 = some 10) (h : f10_darkIn a0 x1 u = some (r, v)) : tl_MB E mX10_darkIn [.ref a0, .int x1] u (fun q w => q = some (.int r) ∧ w = v) := by
  unfold f10_darkIn at h
  refine tl_start [some (.ref a0), some (.int x1), none] rfl rfl rfl (Nat.le_of_ble_eq_true rfl) ?_
  obtain ⟨x5, u4, e3, h⟩ := tl_b2i h
  refine tl_aload_n dX10_darkIn_0 rfl (tl_aload_n dX10_darkIn_1 rfl (tl_getr (f := 3) (o := 2) tl_ck10 dX10_darkIn_2 fl_X10_13 (Nat.le_of_ble_eq_true rfl) rfl h0 (tl_iload_n dX10_darkIn_5 rfl (tl_iS2 (l10_isGallery (tt_10_3 h0) e3) dX10_darkIn_6 cs_X10_darkIn_6 ⟨rfl, rfl⟩ ⟨Nat.zero_le _, Nat.zero_le _⟩ (Nat.le_of_ble_eq_true rfl) (tl_if_eq (tgt := 16) dX10_darkIn_9 (by decide) (fun c6 => ?_) (fun c6 => ?_))))))
  · replace h := tl_ip h c6
    obtain ⟨x9, u8, e7, h⟩ := tl_b2i h
    refine tl_iconst (v := 1) dX10_darkIn_16 ic_1 (tl_iV1 tl_ck10 rfl h0 (l10_refused h0 e7) dX10_darkIn_17 cs_X10_darkIn_17 ⟨rfl, rfl⟩ ⟨Nat.zero_le _, Nat.zero_le _⟩ (Nat.le_of_ble_eq_true rfl) (tl_if_eq (tgt := 25) dX10_darkIn_20 (by decide) (fun c10 => ?_) (fun c10 => ?_)))
    · replace h := tl_ip h c10
      obtain ⟨u12, e11, h⟩ := tl_bi h
      refine tl_aload_n dX10_darkIn_25 rfl (tl_getr (f := 3) (o := 2) tl_ck10 dX10_darkIn_26 fl_X10_13 (Nat.le_of_ble_eq_true rfl) rfl h0 (tl_iconst (v := 0) dX10_darkIn_29 ic_0 (tl_aload_n dX10_darkIn_30 rfl (tl_getr (f := 4) (o := 3) tl_ck10 dX10_darkIn_31 fl_X10_16 (Nat.le_of_ble_eq_true rfl) rfl h0 (tl_iconst (v := 0) dX10_darkIn_34 ic_0 (tl_vS4 (l10_copyState (fun _ _ => rfl) (tt_10_3 h0) (fun _ _ => rfl) (tt_10_4 h0) e11) dX10_darkIn_35 cs_X10_darkIn_35 ⟨rfl, rfl⟩ ⟨Nat.zero_le _, Nat.zero_le _⟩ (Nat.le_of_ble_eq_true rfl) (tl_iconst (v := 0) dX10_darkIn_38 ic_0 (tl_istore_n dX10_darkIn_39 (Nat.le_of_ble_eq_true rfl) (?_)))))))))
      exact l10_darkIn_p40 tl_F _ _ _ _  h0 h
    · replace h := tl_in h c10
      exact tl_iconst (v := 0) dX10_darkIn_23 ic_0 (tl_iretE dX10_darkIn_24 rfl rfl h)
  · replace h := tl_in h c6
    obtain ⟨x9, u8, e7, h⟩ := tl_b2i h
    refine tl_iconst (v := 0) dX10_darkIn_12 ic_0 (tl_goto (tgt := 17) dX10_darkIn_13 (by decide) (tl_iV1 tl_ck10 rfl h0 (l10_refused h0 e7) dX10_darkIn_17 cs_X10_darkIn_17 ⟨rfl, rfl⟩ ⟨Nat.zero_le _, Nat.zero_le _⟩ (Nat.le_of_ble_eq_true rfl) (tl_if_eq (tgt := 25) dX10_darkIn_20 (by decide) (fun c10 => ?_) (fun c10 => ?_))))
    · replace h := tl_ip h c10
      obtain ⟨u12, e11, h⟩ := tl_bi h
      refine tl_aload_n dX10_darkIn_25 rfl (tl_getr (f := 3) (o := 2) tl_ck10 dX10_darkIn_26 fl_X10_13 (Nat.le_of_ble_eq_true rfl) rfl h0 (tl_iconst (v := 0) dX10_darkIn_29 ic_0 (tl_aload_n dX10_darkIn_30 rfl (tl_getr (f := 4) (o := 3) tl_ck10 dX10_darkIn_31 fl_X10_16 (Nat.le_of_ble_eq_true rfl) rfl h0 (tl_iconst (v := 0) dX10_darkIn_34 ic_0 (tl_vS4 (l10_copyState (fun _ _ => rfl) (tt_10_3 h0) (fun _ _ => rfl) (tt_10_4 h0) e11) dX10_darkIn_35 cs_X10_darkIn_35 ⟨rfl, rfl⟩ ⟨Nat.zero_le _, Nat.zero_le _⟩ (Nat.le_of_ble_eq_true rfl) (tl_iconst (v := 0) dX10_darkIn_38 ic_0 (tl_istore_n dX10_darkIn_39 (Nat.le_of_ble_eq_true rfl) (?_)))))))))
      exact l10_darkIn_p40 tl_F _ _ _ _  h0 h
    · replace h := tl_in h c10
      exact tl_iconst (v := 0) dX10_darkIn_23 ic_0 (tl_iretE dX10_darkIn_24 rfl rfl h)

theorem cs_X10_depthIn_6 : tl_cS mX10_depthIn mX10_isGallery 41 2 := ⟨cd_X10_isGallery, ml_X10_41, sm_X10_isGallery, in_X10, ⟨by decide, by decide, by decide +kernel⟩, Nat.le_of_ble_eq_true rfl, Nat.le_of_ble_eq_true rfl⟩
theorem cs_X10_depthIn_22 : tl_cS mX10_depthIn mX10_in 37 3 := ⟨cd_X10_in, ml_X10_37, sm_X10_in, in_X10, ⟨by decide, by decide, by decide +kernel⟩, Nat.le_of_ble_eq_true rfl, Nat.le_of_ble_eq_true rfl⟩
theorem cs_X10_depthIn_33 : tl_cV mX10_depthIn mX10_refused 152 1 := ⟨cd_X10_refused, ml_X10_152, im_X10_refused, se_X10_refused, in_X10, ⟨by decide, by decide, by decide +kernel⟩, Nat.le_of_ble_eq_true rfl, Nat.le_of_ble_eq_true rfl⟩
theorem cs_X10_depthIn_51 : tl_cS mX10_depthIn mX10_copyState 220 4 := ⟨cd_X10_copyState, ml_X10_220, sm_X10_copyState, in_X10, ⟨by decide, by decide, by decide +kernel⟩, Nat.le_of_ble_eq_true rfl, Nat.le_of_ble_eq_true rfl⟩
theorem cs_X10_depthIn_59 : tl_cS mX10_depthIn mX10_hoursOn 211 2 := ⟨cd_X10_hoursOn, ml_X10_211, sm_X10_hoursOn, in_X10, ⟨by decide, by decide, by decide +kernel⟩, Nat.le_of_ble_eq_true rfl, Nat.le_of_ble_eq_true rfl⟩
theorem cs_X10_depthIn_68 : tl_cS mX10_depthIn mX10_depth 45 2 := ⟨cd_X10_depth, ml_X10_45, sm_X10_depth, in_X10, ⟨by decide, by decide, by decide +kernel⟩, Nat.le_of_ble_eq_true rfl, Nat.le_of_ble_eq_true rfl⟩
def f10_depthIn_p33 (a1 : Nat) (x2 : Int32) (x3 : Int32) (x4 : Int32) (a5 : Nat) (u : tl_S) : Option (Int32 × tl_S) :=
  tl_b2 (f10_refused a5 x4 u) (fun x9 u8 => (if x9 = 0 then tl_b (f10_copyState (a1 + 2) 104 0 (a1 + 3) 104 0 u8) (fun u12 => tl_b2 (f10_hoursOn (a1 + 3) x3 u12) (fun x15 u14 => tl_b2 (f10_depth (a1 + 3) x2 u14) (fun x18 u17 => some (x18, u17)))) else some (0, u8)))

def f10_depthIn (a0 : Nat) (x1 : Int32) (x2 : Int32) (u : tl_S) : Option (Int32 × tl_S) :=
  tl_b2 (f10_isGallery (a0 + 2) x1 u) (fun x6 u5 => (if x6 = 0 then f10_depthIn_p33 a0 x1 x2 1 a0 u5 else tl_b2 (f10_in ((x2 : Int32).toInt64) 1 200 u5) (fun x10 u9 => (if x10 = 0 then f10_depthIn_p33 a0 x1 x2 2 a0 u9 else f10_depthIn_p33 a0 x1 x2 0 a0 u9))))

theorem l10_depthIn_p33 {E : tl_E} {a1 : Nat} {x2 : Int32} {x3 : Int32} {x4 : Int32} {a5 : Nat}   {u : tl_S} {r : Int32} {v : tl_S} (h1 : tl_T E.2.1 a1 = some 10) (h5 : tl_T E.2.1 a5 = some 10) (h : f10_depthIn_p33 a1 x2 x3 x4 a5 u = some (r, v)) : tl_R E mX10_depthIn tl_X0 (tl_ZB E mX10_depthIn (fun q w => q = some (.int r) ∧ w = v)) 0 0 (tl_HB E u) 33 [some (.ref a1), some (.int x2), some (.int x3)] [.int x4, .ref a5] := by
  unfold f10_depthIn_p33 at h
  obtain ⟨x9, u8, e7, h⟩ := tl_b2i h
  refine tl_iV1 tl_ck10 rfl h5 (l10_refused h5 e7) dX10_depthIn_33 cs_X10_depthIn_33 ⟨rfl, rfl⟩ ⟨Nat.zero_le _, Nat.zero_le _⟩ (Nat.le_of_ble_eq_true rfl) (tl_if_eq (tgt := 41) dX10_depthIn_36 (by decide) (fun c10 => ?_) (fun c10 => ?_))
  · replace h := tl_ip h c10
    obtain ⟨u12, e11, h⟩ := tl_bi h
    obtain ⟨x15, u14, e13, h⟩ := tl_b2i h
    obtain ⟨x18, u17, e16, h⟩ := tl_b2i h
    exact tl_aload_n dX10_depthIn_41 rfl (tl_getr (f := 3) (o := 2) tl_ck10 dX10_depthIn_42 fl_X10_13 (Nat.le_of_ble_eq_true rfl) rfl h1 (tl_iconst (v := 0) dX10_depthIn_45 ic_0 (tl_aload_n dX10_depthIn_46 rfl (tl_getr (f := 4) (o := 3) tl_ck10 dX10_depthIn_47 fl_X10_16 (Nat.le_of_ble_eq_true rfl) rfl h1 (tl_iconst (v := 0) dX10_depthIn_50 ic_0 (tl_vS4 (l10_copyState (fun _ _ => rfl) (tt_10_3 h1) (fun _ _ => rfl) (tt_10_4 h1) e11) dX10_depthIn_51 cs_X10_depthIn_51 ⟨rfl, rfl⟩ ⟨Nat.zero_le _, Nat.zero_le _⟩ (Nat.le_of_ble_eq_true rfl) (tl_aload_n dX10_depthIn_54 rfl (tl_getr (f := 4) (o := 3) tl_ck10 dX10_depthIn_55 fl_X10_16 (Nat.le_of_ble_eq_true rfl) rfl h1 (tl_iload_n dX10_depthIn_58 rfl (tl_iS2 (l10_hoursOn (tt_10_4 h1) e13) dX10_depthIn_59 cs_X10_depthIn_59 ⟨rfl, rfl⟩ ⟨Nat.zero_le _, Nat.zero_le _⟩ (Nat.le_of_ble_eq_true rfl) (tl_pop dX10_depthIn_62 rfl (tl_aload_n dX10_depthIn_63 rfl (tl_getr (f := 4) (o := 3) tl_ck10 dX10_depthIn_64 fl_X10_16 (Nat.le_of_ble_eq_true rfl) rfl h1 (tl_iload_n dX10_depthIn_67 rfl (tl_iS2 (l10_depth (tt_10_4 h1) e16) dX10_depthIn_68 cs_X10_depthIn_68 ⟨rfl, rfl⟩ ⟨Nat.zero_le _, Nat.zero_le _⟩ (Nat.le_of_ble_eq_true rfl) (tl_iretE dX10_depthIn_71 rfl rfl h))))))))))))))))
  · replace h := tl_in h c10
    exact tl_iconst (v := 0) dX10_depthIn_39 ic_0 (tl_iretE dX10_depthIn_40 rfl rfl h)

theorem l10_depthIn {E : tl_E} {a0 : Nat} {x1 : Int32} {x2 : Int32}  {u : tl_S} {r : Int32} {v : tl_S} (h0 : tl_T E.2.1 a0 = some 10) (h : f10_depthIn a0 x1 x2 u = some (r, v)) : tl_MB E mX10_depthIn [.ref a0, .int x1, .int x2] u (fun q w => q = some (.int r) ∧ w = v) := by
  unfold f10_depthIn at h
  refine tl_start [some (.ref a0), some (.int x1), some (.int x2)] rfl rfl rfl (Nat.le_of_ble_eq_true rfl) ?_
  obtain ⟨x6, u5, e4, h⟩ := tl_b2i h
  refine tl_aload_n dX10_depthIn_0 rfl (tl_aload_n dX10_depthIn_1 rfl (tl_getr (f := 3) (o := 2) tl_ck10 dX10_depthIn_2 fl_X10_13 (Nat.le_of_ble_eq_true rfl) rfl h0 (tl_iload_n dX10_depthIn_5 rfl (tl_iS2 (l10_isGallery (tt_10_3 h0) e4) dX10_depthIn_6 cs_X10_depthIn_6 ⟨rfl, rfl⟩ ⟨Nat.zero_le _, Nat.zero_le _⟩ (Nat.le_of_ble_eq_true rfl) (tl_if_ne (tgt := 16) dX10_depthIn_9 (by decide) (fun c7 => ?_) (fun c7 => ?_))))))
  · replace h := tl_in h c7
    obtain ⟨x10, u9, e8, h⟩ := tl_b2i h
    refine tl_iload_n dX10_depthIn_16 rfl (tl_i2l dX10_depthIn_17 (tl_lconst (v := 1) dX10_depthIn_18 lc_1 (tl_ldc2 dX10_depthIn_19 kl_X10_254 (tl_iS3 (l10_in  e8) dX10_depthIn_22 cs_X10_depthIn_22 ⟨rfl, rfl⟩ ⟨Nat.zero_le _, Nat.zero_le _⟩ (Nat.le_of_ble_eq_true rfl) (tl_if_eq (tgt := 32) dX10_depthIn_25 (by decide) (fun c11 => ?_) (fun c11 => ?_))))))
    · replace h := tl_ip h c11
      refine tl_iconst (v := 2) dX10_depthIn_32 ic_2 (?_)
      exact l10_depthIn_p33 h0 h0 h
    · replace h := tl_in h c11
      refine tl_iconst (v := 0) dX10_depthIn_28 ic_0 (tl_goto (tgt := 33) dX10_depthIn_29 (by decide) (?_))
      exact l10_depthIn_p33 h0 h0 h
  · replace h := tl_ip h c7
    refine tl_iconst (v := 1) dX10_depthIn_12 ic_1 (tl_goto (tgt := 33) dX10_depthIn_13 (by decide) (?_))
    exact l10_depthIn_p33 h0 h0 h

theorem cs_X10_doneIn_15 : tl_cS mX10_doneIn mX10_copyState 220 4 := ⟨cd_X10_copyState, ml_X10_220, sm_X10_copyState, in_X10, ⟨by decide, by decide, by decide +kernel⟩, Nat.le_of_ble_eq_true rfl, Nat.le_of_ble_eq_true rfl⟩
theorem cs_X10_doneIn_51 : tl_cS mX10_doneIn mX10_hour 136 1 := ⟨cd_X10_hour, ml_X10_136, sm_X10_hour, in_X10, ⟨by decide, by decide, by decide +kernel⟩, Nat.le_of_ble_eq_true rfl, Nat.le_of_ble_eq_true rfl⟩
def f10_doneIn_p28 : Nat → Nat → Int32 → tl_S → Option (Int32 × tl_S)
  | 0, _, _, _ => none
  | fu + 1, a1, x2, u =>
  (if 200 < x2 then some ((-1), u) else (if (u.1 (a1 + 3) 8) = 0 then some (x2, u) else tl_b (f10_hour (a1 + 3) u) (fun u7 => tl_let (x2 + 1) (fun x8 => f10_doneIn_p28 fu a1 x8 u7))))

def f10_doneIn (a0 : Nat) (u : tl_S) : Option (Int32 × tl_S) :=
  tl_let ((tl_u u.1 a0 0 0, u.2) : tl_S) (fun u2 => tl_b (f10_copyState (a0 + 2) 104 0 (a0 + 3) 104 0 u2) (fun u4 => tl_let ((tl_u u4.1 (a0 + 3) 17 0, u4.2) : tl_S) (fun u5 => f10_doneIn_p28 tl_F a0 0 u5)))

theorem l10_doneIn_p28 {E : tl_E}  {r : Int32} {v : tl_S} : ∀ (n : Nat) (a1 : Nat) (x2 : Int32) (u : tl_S) , tl_T E.2.1 a1 = some 10 → f10_doneIn_p28 n a1 x2 u = some (r, v) → tl_R E mX10_doneIn tl_X0 (tl_ZB E mX10_doneIn (fun q w => q = some (.int r) ∧ w = v)) 0 0 (tl_HB E u) 28 [some (.ref a1), some (.int x2)] [] := by
  intro n
  induction n with
  | zero => intro a1 x2 u  h1 h; exact absurd h (by simp [f10_doneIn_p28])
  | succ n ih =>
    intro a1 x2 u  h1 h
    rw [f10_doneIn_p28] at h
    refine tl_iload_n dX10_doneIn_28 rfl (tl_sipush (v := 200) dX10_doneIn_29 sp_200 (tl_icmp_gt (tgt := 60) dX10_doneIn_32 (by decide) (fun c4 => ?_) (fun c4 => ?_)))
    · replace h := tl_ip h c4
      exact tl_iconst (v := (-1)) dX10_doneIn_60 ic_m1 (tl_iretE dX10_doneIn_61 rfl rfl h)
    · replace h := tl_in h c4
      refine tl_aload_n dX10_doneIn_35 rfl (tl_getr (f := 4) (o := 3) tl_ck10 dX10_doneIn_36 fl_X10_16 (Nat.le_of_ble_eq_true rfl) rfl h1 (tl_bipush (v := 8) dX10_doneIn_39 bp_8 (tl_iald (j := 8) (fun _ _ => rfl) dX10_doneIn_41 (tt_10_4 h1) (li_8 104 rfl) lx_8 (tl_if_ne (tgt := 47) dX10_doneIn_42 (by decide) (fun c5 => ?_) (fun c5 => ?_)))))
      · replace h := tl_in h c5
        obtain ⟨u7, e6, h⟩ := tl_bi h
        refine tl_aload_n dX10_doneIn_47 rfl (tl_getr (f := 4) (o := 3) tl_ck10 dX10_doneIn_48 fl_X10_16 (Nat.le_of_ble_eq_true rfl) rfl h1 (tl_vS1 (l10_hour (tt_10_4 h1) e6) dX10_doneIn_51 cs_X10_doneIn_51 ⟨rfl, rfl⟩ ⟨Nat.zero_le _, Nat.zero_le _⟩ (Nat.le_of_ble_eq_true rfl) (tl_iincK dX10_doneIn_54 rfl (ii_1 _) (Nat.le_of_ble_eq_true rfl) (fun x8 e => ?_))))
        have h := tl_leteq e h
        clear e
        refine tl_goto (tgt := 28) dX10_doneIn_57 (by decide) (?_)
        exact ih _ _ _  h1 h
      · replace h := tl_ip h c5
        exact tl_iload_n dX10_doneIn_45 rfl (tl_iretE dX10_doneIn_46 rfl rfl h)

theorem l10_doneIn {E : tl_E} {a0 : Nat}  {u : tl_S} {r : Int32} {v : tl_S} (h0 : tl_T E.2.1 a0 = some 10) (h : f10_doneIn a0 u = some (r, v)) : tl_MB E mX10_doneIn [.ref a0] u (fun q w => q = some (.int r) ∧ w = v) := by
  unfold f10_doneIn at h
  refine tl_start [some (.ref a0), none] rfl rfl rfl (Nat.le_of_ble_eq_true rfl) ?_
  refine tl_aload_n dX10_doneIn_0 rfl (tl_iconst (v := 0) dX10_doneIn_1 ic_0 (tl_puti (f := 0) tl_ck10 dX10_doneIn_2 fl_X10_33 (Nat.le_of_ble_eq_true rfl) rfl rfl rfl h0 (fun u2 e => ?_)))
  have h := tl_leteq e h
  clear e
  obtain ⟨u4, e3, h⟩ := tl_bi h
  refine tl_aload_n dX10_doneIn_5 rfl (tl_getr (f := 3) (o := 2) tl_ck10 dX10_doneIn_6 fl_X10_13 (Nat.le_of_ble_eq_true rfl) rfl h0 (tl_iconst (v := 0) dX10_doneIn_9 ic_0 (tl_aload_n dX10_doneIn_10 rfl (tl_getr (f := 4) (o := 3) tl_ck10 dX10_doneIn_11 fl_X10_16 (Nat.le_of_ble_eq_true rfl) rfl h0 (tl_iconst (v := 0) dX10_doneIn_14 ic_0 (tl_vS4 (l10_copyState (fun _ _ => rfl) (tt_10_3 h0) (fun _ _ => rfl) (tt_10_4 h0) e3) dX10_doneIn_15 cs_X10_doneIn_15 ⟨rfl, rfl⟩ ⟨Nat.zero_le _, Nat.zero_le _⟩ (Nat.le_of_ble_eq_true rfl) (tl_aload_n dX10_doneIn_18 rfl (tl_getr (f := 4) (o := 3) tl_ck10 dX10_doneIn_19 fl_X10_16 (Nat.le_of_ble_eq_true rfl) rfl h0 (tl_bipush (v := 17) dX10_doneIn_22 bp_17 (tl_iconst (v := 0) dX10_doneIn_24 ic_0 (tl_iastK (fun _ _ => rfl) dX10_doneIn_25 (tt_10_4 h0) (17) (li_17 104 rfl) lx_17 (fun u5 e => ?_))))))))))))
  have h := tl_leteq e h
  clear e
  refine tl_iconst (v := 0) dX10_doneIn_26 ic_0 (tl_istore_n dX10_doneIn_27 (Nat.le_of_ble_eq_true rfl) (?_))
  exact l10_doneIn_p28 tl_F _ _ _  h0 h

theorem cs_X10_bestCell_6 : tl_cS mX10_bestCell mX10_isLamp 142 2 := ⟨cd_X10_isLamp, ml_X10_142, sm_X10_isLamp, in_X10, ⟨by decide, by decide, by decide +kernel⟩, Nat.le_of_ble_eq_true rfl, Nat.le_of_ble_eq_true rfl⟩
theorem cs_X10_bestCell_60 : tl_cV mX10_bestCell mX10_refused 152 1 := ⟨cd_X10_refused, ml_X10_152, im_X10_refused, se_X10_refused, in_X10, ⟨by decide, by decide, by decide +kernel⟩, Nat.le_of_ble_eq_true rfl, Nat.le_of_ble_eq_true rfl⟩
theorem cs_X10_bestCell_84 : tl_cS mX10_bestCell mX10_depth 45 2 := ⟨cd_X10_depth, ml_X10_45, sm_X10_depth, in_X10, ⟨by decide, by decide, by decide +kernel⟩, Nat.le_of_ble_eq_true rfl, Nat.le_of_ble_eq_true rfl⟩
theorem cs_X10_bestCell_100 : tl_cS mX10_bestCell mX10_copyState 220 4 := ⟨cd_X10_copyState, ml_X10_220, sm_X10_copyState, in_X10, ⟨by decide, by decide, by decide +kernel⟩, Nat.le_of_ble_eq_true rfl, Nat.le_of_ble_eq_true rfl⟩
theorem cs_X10_bestCell_112 : tl_cS mX10_bestCell mX10_orderOn 120 5 := ⟨cd_X10_orderOn, ml_X10_120, sm_X10_orderOn, in_X10, ⟨by decide, by decide, by decide +kernel⟩, Nat.le_of_ble_eq_true rfl, Nat.le_of_ble_eq_true rfl⟩
theorem cs_X10_bestCell_121 : tl_cS mX10_bestCell mX10_hoursOn 211 2 := ⟨cd_X10_hoursOn, ml_X10_211, sm_X10_hoursOn, in_X10, ⟨by decide, by decide, by decide +kernel⟩, Nat.le_of_ble_eq_true rfl, Nat.le_of_ble_eq_true rfl⟩
theorem cs_X10_bestCell_17 : tl_cS mX10_bestCell mX10_isGallery 41 2 := ⟨cd_X10_isGallery, ml_X10_41, sm_X10_isGallery, in_X10, ⟨by decide, by decide, by decide +kernel⟩, Nat.le_of_ble_eq_true rfl, Nat.le_of_ble_eq_true rfl⟩
theorem cs_X10_bestCell_33 : tl_cS mX10_bestCell mX10_in 37 3 := ⟨cd_X10_in, ml_X10_37, sm_X10_in, in_X10, ⟨by decide, by decide, by decide +kernel⟩, Nat.le_of_ble_eq_true rfl, Nat.le_of_ble_eq_true rfl⟩
def f10_bestCell_p77 : Nat → Nat → Int32 → Int32 → Int32 → Int32 → Int32 → Int32 → tl_S → Option (Int32 × tl_S)
  | 0, _, _, _, _, _, _, _, _ => none
  | fu + 1, a1, x2, x3, x4, x5, x6, x7, u =>
  tl_b2 (f10_depth (a1 + 2) x3 u) (fun x11 u10 => (if x11 ≤ x7 then some (x5, u10) else tl_b (f10_copyState (a1 + 2) 104 0 (a1 + 3) 104 0 u10) (fun u14 => tl_b2 (f10_orderOn (a1 + 3) 0 x2 x3 x7 u14) (fun x17 u16 => tl_b2 (f10_hoursOn (a1 + 3) x4 u16) (fun x20 u19 => (if x5 = (-1) then (if (1 : Int32) = 0 then (if (1 : Int32) = 0 then tl_let (x7 + 1) (fun x24 => f10_bestCell_p77 fu a1 x2 x3 x4 x5 x6 x24 u19) else tl_let (x7 + 1) (fun x24 => f10_bestCell_p77 fu a1 x2 x3 x4 x5 x20 x24 u19)) else (if (1 : Int32) = 0 then tl_let (x7 + 1) (fun x24 => f10_bestCell_p77 fu a1 x2 x3 x4 x7 x6 x24 u19) else tl_let (x7 + 1) (fun x24 => f10_bestCell_p77 fu a1 x2 x3 x4 x7 x20 x24 u19))) else (if x20 < x6 then (if (0 : Int32) = 0 then (if (0 : Int32) = 0 then tl_let (x7 + 1) (fun x25 => f10_bestCell_p77 fu a1 x2 x3 x4 x5 x6 x25 u19) else tl_let (x7 + 1) (fun x25 => f10_bestCell_p77 fu a1 x2 x3 x4 x5 x20 x25 u19)) else (if (0 : Int32) = 0 then tl_let (x7 + 1) (fun x25 => f10_bestCell_p77 fu a1 x2 x3 x4 x7 x6 x25 u19) else tl_let (x7 + 1) (fun x25 => f10_bestCell_p77 fu a1 x2 x3 x4 x7 x20 x25 u19))) else (if (1 : Int32) = 0 then (if (1 : Int32) = 0 then tl_let (x7 + 1) (fun x25 => f10_bestCell_p77 fu a1 x2 x3 x4 x5 x6 x25 u19) else tl_let (x7 + 1) (fun x25 => f10_bestCell_p77 fu a1 x2 x3 x4 x5 x20 x25 u19)) else (if (1 : Int32) = 0 then tl_let (x7 + 1) (fun x25 => f10_bestCell_p77 fu a1 x2 x3 x4 x7 x6 x25 u19) else tl_let (x7 + 1) (fun x25 => f10_bestCell_p77 fu a1 x2 x3 x4 x7 x20 x25 u19))))))))))

def f10_bestCell_p60 (a1 : Nat) (x2 : Int32) (x3 : Int32) (x4 : Int32) (x5 : Int32) (a6 : Nat) (u : tl_S) : Option (Int32 × tl_S) :=
  tl_b2 (f10_refused a6 x5 u) (fun x10 u9 => (if x10 = 0 then f10_bestCell_p77 tl_F a1 x2 x3 x4 ((-1)) 0 0 u9 else some (0, u9)))

def f10_bestCell (a0 : Nat) (x1 : Int32) (x2 : Int32) (x3 : Int32) (u : tl_S) : Option (Int32 × tl_S) :=
  tl_b2 (f10_isLamp (a0 + 2) x1 u) (fun x7 u6 => (if x7 = 0 then f10_bestCell_p60 a0 x1 x2 x3 1 a0 u6 else tl_b2 (f10_isGallery (a0 + 2) x2 u6) (fun x11 u10 => (if x11 = 0 then f10_bestCell_p60 a0 x1 x2 x3 1 a0 u10 else tl_b2 (f10_in ((x3 : Int32).toInt64) 1 100 u10) (fun x15 u14 => (if x15 = 0 then f10_bestCell_p60 a0 x1 x2 x3 2 a0 u14 else (if 6 ≤ (u14.1 (a0 + 2) 8) then f10_bestCell_p60 a0 x1 x2 x3 3 a0 u14 else f10_bestCell_p60 a0 x1 x2 x3 0 a0 u14)))))))

theorem l10_bestCell_p77 {E : tl_E}  {r : Int32} {v : tl_S} : ∀ (n : Nat) (a1 : Nat) (x2 : Int32) (x3 : Int32) (x4 : Int32) (x5 : Int32) (x6 : Int32) (x7 : Int32) (u : tl_S) (d7 : Option Value) (d8 : Option Value), tl_T E.2.1 a1 = some 10 → f10_bestCell_p77 n a1 x2 x3 x4 x5 x6 x7 u = some (r, v) → tl_R E mX10_bestCell tl_X0 (tl_ZB E mX10_bestCell (fun q w => q = some (.int r) ∧ w = v)) 0 0 (tl_HB E u) 77 [some (.ref a1), some (.int x2), some (.int x3), some (.int x4), some (.int x5), some (.int x6), some (.int x7), d7, d8] [] := by
  intro n
  induction n with
  | zero => intro a1 x2 x3 x4 x5 x6 x7 u d7 d8 h1 h; exact absurd h (by simp [f10_bestCell_p77])
  | succ n ih =>
    intro a1 x2 x3 x4 x5 x6 x7 u d7 d8 h1 h
    rw [f10_bestCell_p77] at h
    obtain ⟨x11, u10, e9, h⟩ := tl_b2i h
    refine tl_iload dX10_bestCell_77 rfl (tl_aload_n dX10_bestCell_79 rfl (tl_getr (f := 3) (o := 2) tl_ck10 dX10_bestCell_80 fl_X10_13 (Nat.le_of_ble_eq_true rfl) rfl h1 (tl_iload_n dX10_bestCell_83 rfl (tl_iS2 (l10_depth (tt_10_3 h1) e9) dX10_bestCell_84 cs_X10_bestCell_84 ⟨rfl, rfl⟩ ⟨Nat.zero_le _, Nat.zero_le _⟩ (Nat.le_of_ble_eq_true rfl) (tl_icmp_ge (tgt := 180) dX10_bestCell_87 (by decide) (fun c12 => ?_) (fun c12 => ?_))))))
    · replace h := tl_ip h c12
      exact tl_iload dX10_bestCell_180 rfl (tl_iretE dX10_bestCell_182 rfl rfl h)
    · replace h := tl_in h c12
      obtain ⟨u14, e13, h⟩ := tl_bi h
      obtain ⟨x17, u16, e15, h⟩ := tl_b2i h
      obtain ⟨x20, u19, e18, h⟩ := tl_b2i h
      refine tl_aload_n dX10_bestCell_90 rfl (tl_getr (f := 3) (o := 2) tl_ck10 dX10_bestCell_91 fl_X10_13 (Nat.le_of_ble_eq_true rfl) rfl h1 (tl_iconst (v := 0) dX10_bestCell_94 ic_0 (tl_aload_n dX10_bestCell_95 rfl (tl_getr (f := 4) (o := 3) tl_ck10 dX10_bestCell_96 fl_X10_16 (Nat.le_of_ble_eq_true rfl) rfl h1 (tl_iconst (v := 0) dX10_bestCell_99 ic_0 (tl_vS4 (l10_copyState (fun _ _ => rfl) (tt_10_3 h1) (fun _ _ => rfl) (tt_10_4 h1) e13) dX10_bestCell_100 cs_X10_bestCell_100 ⟨rfl, rfl⟩ ⟨Nat.zero_le _, Nat.zero_le _⟩ (Nat.le_of_ble_eq_true rfl) (tl_aload_n dX10_bestCell_103 rfl (tl_getr (f := 4) (o := 3) tl_ck10 dX10_bestCell_104 fl_X10_16 (Nat.le_of_ble_eq_true rfl) rfl h1 (tl_iconst (v := 0) dX10_bestCell_107 ic_0 (tl_iload_n dX10_bestCell_108 rfl (tl_iload_n dX10_bestCell_109 rfl (tl_iload dX10_bestCell_110 rfl (tl_iS5 (l10_orderOn (tt_10_4 h1) e15) dX10_bestCell_112 cs_X10_bestCell_112 ⟨rfl, rfl⟩ ⟨Nat.zero_le _, Nat.zero_le _⟩ (Nat.le_of_ble_eq_true rfl) (tl_pop dX10_bestCell_115 rfl (tl_aload_n dX10_bestCell_116 rfl (tl_getr (f := 4) (o := 3) tl_ck10 dX10_bestCell_117 fl_X10_16 (Nat.le_of_ble_eq_true rfl) rfl h1 (tl_iload_n dX10_bestCell_120 rfl (tl_iS2 (l10_hoursOn (tt_10_4 h1) e18) dX10_bestCell_121 cs_X10_bestCell_121 ⟨rfl, rfl⟩ ⟨Nat.zero_le _, Nat.zero_le _⟩ (Nat.le_of_ble_eq_true rfl) (tl_istore dX10_bestCell_124 (Nat.le_of_ble_eq_true rfl) (tl_iload dX10_bestCell_126 rfl (tl_iconst (v := (-1)) dX10_bestCell_128 ic_m1 (tl_icmp_eq (tgt := 139) dX10_bestCell_129 (by decide) (fun c21 => ?_) (fun c21 => ?_)))))))))))))))))))))))
      · replace h := tl_ip h c21
        refine tl_iconst (v := 1) dX10_bestCell_139 ic_1 (tl_goto (tgt := 144) dX10_bestCell_140 (by decide) (tl_istore dX10_bestCell_144 (Nat.le_of_ble_eq_true rfl) (tl_iload dX10_bestCell_146 rfl (tl_if_eq (tgt := 156) dX10_bestCell_148 (by decide) (fun c22 => ?_) (fun c22 => ?_)))))
        · replace h := tl_ip h c22
          refine tl_iload dX10_bestCell_156 rfl (tl_istore dX10_bestCell_158 (Nat.le_of_ble_eq_true rfl) (tl_iload dX10_bestCell_160 rfl (tl_if_eq (tgt := 170) dX10_bestCell_162 (by decide) (fun c23 => ?_) (fun c23 => ?_))))
          · replace h := tl_ip h c23
            refine tl_iload dX10_bestCell_170 rfl (tl_istore dX10_bestCell_172 (Nat.le_of_ble_eq_true rfl) (tl_iincK dX10_bestCell_174 rfl (ii_1 _) (Nat.le_of_ble_eq_true rfl) (fun x24 e => ?_)))
            have h := tl_leteq e h
            clear e
            refine tl_goto (tgt := 77) dX10_bestCell_177 (by decide) (?_)
            exact ih _ _ _ _ _ _ _ _ _ _ h1 h
          · replace h := tl_in h c23
            refine tl_iload dX10_bestCell_165 rfl (tl_goto (tgt := 172) dX10_bestCell_167 (by decide) (tl_istore dX10_bestCell_172 (Nat.le_of_ble_eq_true rfl) (tl_iincK dX10_bestCell_174 rfl (ii_1 _) (Nat.le_of_ble_eq_true rfl) (fun x24 e => ?_))))
            have h := tl_leteq e h
            clear e
            refine tl_goto (tgt := 77) dX10_bestCell_177 (by decide) (?_)
            exact ih _ _ _ _ _ _ _ _ _ _ h1 h
        · replace h := tl_in h c22
          refine tl_iload dX10_bestCell_151 rfl (tl_goto (tgt := 158) dX10_bestCell_153 (by decide) (tl_istore dX10_bestCell_158 (Nat.le_of_ble_eq_true rfl) (tl_iload dX10_bestCell_160 rfl (tl_if_eq (tgt := 170) dX10_bestCell_162 (by decide) (fun c23 => ?_) (fun c23 => ?_)))))
          · replace h := tl_ip h c23
            refine tl_iload dX10_bestCell_170 rfl (tl_istore dX10_bestCell_172 (Nat.le_of_ble_eq_true rfl) (tl_iincK dX10_bestCell_174 rfl (ii_1 _) (Nat.le_of_ble_eq_true rfl) (fun x24 e => ?_)))
            have h := tl_leteq e h
            clear e
            refine tl_goto (tgt := 77) dX10_bestCell_177 (by decide) (?_)
            exact ih _ _ _ _ _ _ _ _ _ _ h1 h
          · replace h := tl_in h c23
            refine tl_iload dX10_bestCell_165 rfl (tl_goto (tgt := 172) dX10_bestCell_167 (by decide) (tl_istore dX10_bestCell_172 (Nat.le_of_ble_eq_true rfl) (tl_iincK dX10_bestCell_174 rfl (ii_1 _) (Nat.le_of_ble_eq_true rfl) (fun x24 e => ?_))))
            have h := tl_leteq e h
            clear e
            refine tl_goto (tgt := 77) dX10_bestCell_177 (by decide) (?_)
            exact ih _ _ _ _ _ _ _ _ _ _ h1 h
      · replace h := tl_in h c21
        refine tl_iload dX10_bestCell_132 rfl (tl_iload dX10_bestCell_134 rfl (tl_icmp_lt (tgt := 143) dX10_bestCell_136 (by decide) (fun c22 => ?_) (fun c22 => ?_)))
        · replace h := tl_ip h c22
          refine tl_iconst (v := 0) dX10_bestCell_143 ic_0 (tl_istore dX10_bestCell_144 (Nat.le_of_ble_eq_true rfl) (tl_iload dX10_bestCell_146 rfl (tl_if_eq (tgt := 156) dX10_bestCell_148 (by decide) (fun c23 => ?_) (fun c23 => ?_))))
          · replace h := tl_ip h c23
            refine tl_iload dX10_bestCell_156 rfl (tl_istore dX10_bestCell_158 (Nat.le_of_ble_eq_true rfl) (tl_iload dX10_bestCell_160 rfl (tl_if_eq (tgt := 170) dX10_bestCell_162 (by decide) (fun c24 => ?_) (fun c24 => ?_))))
            · replace h := tl_ip h c24
              refine tl_iload dX10_bestCell_170 rfl (tl_istore dX10_bestCell_172 (Nat.le_of_ble_eq_true rfl) (tl_iincK dX10_bestCell_174 rfl (ii_1 _) (Nat.le_of_ble_eq_true rfl) (fun x25 e => ?_)))
              have h := tl_leteq e h
              clear e
              refine tl_goto (tgt := 77) dX10_bestCell_177 (by decide) (?_)
              exact ih _ _ _ _ _ _ _ _ _ _ h1 h
            · replace h := tl_in h c24
              refine tl_iload dX10_bestCell_165 rfl (tl_goto (tgt := 172) dX10_bestCell_167 (by decide) (tl_istore dX10_bestCell_172 (Nat.le_of_ble_eq_true rfl) (tl_iincK dX10_bestCell_174 rfl (ii_1 _) (Nat.le_of_ble_eq_true rfl) (fun x25 e => ?_))))
              have h := tl_leteq e h
              clear e
              refine tl_goto (tgt := 77) dX10_bestCell_177 (by decide) (?_)
              exact ih _ _ _ _ _ _ _ _ _ _ h1 h
          · replace h := tl_in h c23
            refine tl_iload dX10_bestCell_151 rfl (tl_goto (tgt := 158) dX10_bestCell_153 (by decide) (tl_istore dX10_bestCell_158 (Nat.le_of_ble_eq_true rfl) (tl_iload dX10_bestCell_160 rfl (tl_if_eq (tgt := 170) dX10_bestCell_162 (by decide) (fun c24 => ?_) (fun c24 => ?_)))))
            · replace h := tl_ip h c24
              refine tl_iload dX10_bestCell_170 rfl (tl_istore dX10_bestCell_172 (Nat.le_of_ble_eq_true rfl) (tl_iincK dX10_bestCell_174 rfl (ii_1 _) (Nat.le_of_ble_eq_true rfl) (fun x25 e => ?_)))
              have h := tl_leteq e h
              clear e
              refine tl_goto (tgt := 77) dX10_bestCell_177 (by decide) (?_)
              exact ih _ _ _ _ _ _ _ _ _ _ h1 h
            · replace h := tl_in h c24
              refine tl_iload dX10_bestCell_165 rfl (tl_goto (tgt := 172) dX10_bestCell_167 (by decide) (tl_istore dX10_bestCell_172 (Nat.le_of_ble_eq_true rfl) (tl_iincK dX10_bestCell_174 rfl (ii_1 _) (Nat.le_of_ble_eq_true rfl) (fun x25 e => ?_))))
              have h := tl_leteq e h
              clear e
              refine tl_goto (tgt := 77) dX10_bestCell_177 (by decide) (?_)
              exact ih _ _ _ _ _ _ _ _ _ _ h1 h
        · replace h := tl_in h c22
          refine tl_iconst (v := 1) dX10_bestCell_139 ic_1 (tl_goto (tgt := 144) dX10_bestCell_140 (by decide) (tl_istore dX10_bestCell_144 (Nat.le_of_ble_eq_true rfl) (tl_iload dX10_bestCell_146 rfl (tl_if_eq (tgt := 156) dX10_bestCell_148 (by decide) (fun c23 => ?_) (fun c23 => ?_)))))
          · replace h := tl_ip h c23
            refine tl_iload dX10_bestCell_156 rfl (tl_istore dX10_bestCell_158 (Nat.le_of_ble_eq_true rfl) (tl_iload dX10_bestCell_160 rfl (tl_if_eq (tgt := 170) dX10_bestCell_162 (by decide) (fun c24 => ?_) (fun c24 => ?_))))
            · replace h := tl_ip h c24
              refine tl_iload dX10_bestCell_170 rfl (tl_istore dX10_bestCell_172 (Nat.le_of_ble_eq_true rfl) (tl_iincK dX10_bestCell_174 rfl (ii_1 _) (Nat.le_of_ble_eq_true rfl) (fun x25 e => ?_)))
              have h := tl_leteq e h
              clear e
              refine tl_goto (tgt := 77) dX10_bestCell_177 (by decide) (?_)
              exact ih _ _ _ _ _ _ _ _ _ _ h1 h
            · replace h := tl_in h c24
              refine tl_iload dX10_bestCell_165 rfl (tl_goto (tgt := 172) dX10_bestCell_167 (by decide) (tl_istore dX10_bestCell_172 (Nat.le_of_ble_eq_true rfl) (tl_iincK dX10_bestCell_174 rfl (ii_1 _) (Nat.le_of_ble_eq_true rfl) (fun x25 e => ?_))))
              have h := tl_leteq e h
              clear e
              refine tl_goto (tgt := 77) dX10_bestCell_177 (by decide) (?_)
              exact ih _ _ _ _ _ _ _ _ _ _ h1 h
          · replace h := tl_in h c23
            refine tl_iload dX10_bestCell_151 rfl (tl_goto (tgt := 158) dX10_bestCell_153 (by decide) (tl_istore dX10_bestCell_158 (Nat.le_of_ble_eq_true rfl) (tl_iload dX10_bestCell_160 rfl (tl_if_eq (tgt := 170) dX10_bestCell_162 (by decide) (fun c24 => ?_) (fun c24 => ?_)))))
            · replace h := tl_ip h c24
              refine tl_iload dX10_bestCell_170 rfl (tl_istore dX10_bestCell_172 (Nat.le_of_ble_eq_true rfl) (tl_iincK dX10_bestCell_174 rfl (ii_1 _) (Nat.le_of_ble_eq_true rfl) (fun x25 e => ?_)))
              have h := tl_leteq e h
              clear e
              refine tl_goto (tgt := 77) dX10_bestCell_177 (by decide) (?_)
              exact ih _ _ _ _ _ _ _ _ _ _ h1 h
            · replace h := tl_in h c24
              refine tl_iload dX10_bestCell_165 rfl (tl_goto (tgt := 172) dX10_bestCell_167 (by decide) (tl_istore dX10_bestCell_172 (Nat.le_of_ble_eq_true rfl) (tl_iincK dX10_bestCell_174 rfl (ii_1 _) (Nat.le_of_ble_eq_true rfl) (fun x25 e => ?_))))
              have h := tl_leteq e h
              clear e
              refine tl_goto (tgt := 77) dX10_bestCell_177 (by decide) (?_)
              exact ih _ _ _ _ _ _ _ _ _ _ h1 h

theorem l10_bestCell_p60 {E : tl_E} {a1 : Nat} {x2 : Int32} {x3 : Int32} {x4 : Int32} {x5 : Int32} {a6 : Nat}  {d4 : Option Value} {d5 : Option Value} {d6 : Option Value} {d7 : Option Value} {d8 : Option Value} {u : tl_S} {r : Int32} {v : tl_S} (h1 : tl_T E.2.1 a1 = some 10) (h6 : tl_T E.2.1 a6 = some 10) (h : f10_bestCell_p60 a1 x2 x3 x4 x5 a6 u = some (r, v)) : tl_R E mX10_bestCell tl_X0 (tl_ZB E mX10_bestCell (fun q w => q = some (.int r) ∧ w = v)) 0 0 (tl_HB E u) 60 [some (.ref a1), some (.int x2), some (.int x3), some (.int x4), d4, d5, d6, d7, d8] [.int x5, .ref a6] := by
  unfold f10_bestCell_p60 at h
  obtain ⟨x10, u9, e8, h⟩ := tl_b2i h
  refine tl_iV1 tl_ck10 rfl h6 (l10_refused h6 e8) dX10_bestCell_60 cs_X10_bestCell_60 ⟨rfl, rfl⟩ ⟨Nat.zero_le _, Nat.zero_le _⟩ (Nat.le_of_ble_eq_true rfl) (tl_if_eq (tgt := 68) dX10_bestCell_63 (by decide) (fun c11 => ?_) (fun c11 => ?_))
  · replace h := tl_ip h c11
    refine tl_iconst (v := (-1)) dX10_bestCell_68 ic_m1 (tl_istore dX10_bestCell_69 (Nat.le_of_ble_eq_true rfl) (tl_iconst (v := 0) dX10_bestCell_71 ic_0 (tl_istore dX10_bestCell_72 (Nat.le_of_ble_eq_true rfl) (tl_iconst (v := 0) dX10_bestCell_74 ic_0 (tl_istore dX10_bestCell_75 (Nat.le_of_ble_eq_true rfl) (?_))))))
    exact l10_bestCell_p77 tl_F _ _ _ _ _ _ _ _ _ _ h1 h
  · replace h := tl_in h c11
    exact tl_iconst (v := 0) dX10_bestCell_66 ic_0 (tl_iretE dX10_bestCell_67 rfl rfl h)

theorem l10_bestCell {E : tl_E} {a0 : Nat} {x1 : Int32} {x2 : Int32} {x3 : Int32}  {u : tl_S} {r : Int32} {v : tl_S} (h0 : tl_T E.2.1 a0 = some 10) (h : f10_bestCell a0 x1 x2 x3 u = some (r, v)) : tl_MB E mX10_bestCell [.ref a0, .int x1, .int x2, .int x3] u (fun q w => q = some (.int r) ∧ w = v) := by
  unfold f10_bestCell at h
  refine tl_start [some (.ref a0), some (.int x1), some (.int x2), some (.int x3), none, none, none, none, none] rfl rfl rfl (Nat.le_of_ble_eq_true rfl) ?_
  obtain ⟨x7, u6, e5, h⟩ := tl_b2i h
  refine tl_aload_n dX10_bestCell_0 rfl (tl_aload_n dX10_bestCell_1 rfl (tl_getr (f := 3) (o := 2) tl_ck10 dX10_bestCell_2 fl_X10_13 (Nat.le_of_ble_eq_true rfl) rfl h0 (tl_iload_n dX10_bestCell_5 rfl (tl_iS2 (l10_isLamp (tt_10_3 h0) e5) dX10_bestCell_6 cs_X10_bestCell_6 ⟨rfl, rfl⟩ ⟨Nat.zero_le _, Nat.zero_le _⟩ (Nat.le_of_ble_eq_true rfl) (tl_if_eq (tgt := 23) dX10_bestCell_9 (by decide) (fun c8 => ?_) (fun c8 => ?_))))))
  · replace h := tl_ip h c8
    refine tl_iconst (v := 1) dX10_bestCell_23 ic_1 (tl_goto (tgt := 60) dX10_bestCell_24 (by decide) (?_))
    exact l10_bestCell_p60 h0 h0 h
  · replace h := tl_in h c8
    obtain ⟨x11, u10, e9, h⟩ := tl_b2i h
    refine tl_aload_n dX10_bestCell_12 rfl (tl_getr (f := 3) (o := 2) tl_ck10 dX10_bestCell_13 fl_X10_13 (Nat.le_of_ble_eq_true rfl) rfl h0 (tl_iload_n dX10_bestCell_16 rfl (tl_iS2 (l10_isGallery (tt_10_3 h0) e9) dX10_bestCell_17 cs_X10_bestCell_17 ⟨rfl, rfl⟩ ⟨Nat.zero_le _, Nat.zero_le _⟩ (Nat.le_of_ble_eq_true rfl) (tl_if_ne (tgt := 27) dX10_bestCell_20 (by decide) (fun c12 => ?_) (fun c12 => ?_)))))
    · replace h := tl_in h c12
      obtain ⟨x15, u14, e13, h⟩ := tl_b2i h
      refine tl_iload_n dX10_bestCell_27 rfl (tl_i2l dX10_bestCell_28 (tl_lconst (v := 1) dX10_bestCell_29 lc_1 (tl_ldc2 dX10_bestCell_30 kl_X10_256 (tl_iS3 (l10_in  e13) dX10_bestCell_33 cs_X10_bestCell_33 ⟨rfl, rfl⟩ ⟨Nat.zero_le _, Nat.zero_le _⟩ (Nat.le_of_ble_eq_true rfl) (tl_if_ne (tgt := 43) dX10_bestCell_36 (by decide) (fun c16 => ?_) (fun c16 => ?_))))))
      · replace h := tl_in h c16
        refine tl_aload_n dX10_bestCell_43 rfl (tl_getr (f := 3) (o := 2) tl_ck10 dX10_bestCell_44 fl_X10_13 (Nat.le_of_ble_eq_true rfl) rfl h0 (tl_bipush (v := 8) dX10_bestCell_47 bp_8 (tl_iald (j := 8) (fun _ _ => rfl) dX10_bestCell_49 (tt_10_3 h0) (li_8 104 rfl) lx_8 (tl_bipush (v := 6) dX10_bestCell_50 bp_6 (tl_icmp_ge (tgt := 59) dX10_bestCell_52 (by decide) (fun c17 => ?_) (fun c17 => ?_))))))
        · replace h := tl_ip h c17
          refine tl_iconst (v := 3) dX10_bestCell_59 ic_3 (?_)
          exact l10_bestCell_p60 h0 h0 h
        · replace h := tl_in h c17
          refine tl_iconst (v := 0) dX10_bestCell_55 ic_0 (tl_goto (tgt := 60) dX10_bestCell_56 (by decide) (?_))
          exact l10_bestCell_p60 h0 h0 h
      · replace h := tl_ip h c16
        refine tl_iconst (v := 2) dX10_bestCell_39 ic_2 (tl_goto (tgt := 60) dX10_bestCell_40 (by decide) (?_))
        exact l10_bestCell_p60 h0 h0 h
    · replace h := tl_ip h c12
      refine tl_iconst (v := 1) dX10_bestCell_23 ic_1 (tl_goto (tgt := 60) dX10_bestCell_24 (by decide) (?_))
      exact l10_bestCell_p60 h0 h0 h

theorem cs_X10_steps_7 : tl_cS mX10_steps mX10_isCell 139 3 := ⟨cd_X10_isCell, ml_X10_139, sm_X10_isCell, in_X10, ⟨by decide, by decide, by decide +kernel⟩, Nat.le_of_ble_eq_true rfl, Nat.le_of_ble_eq_true rfl⟩
theorem cs_X10_steps_31 : tl_cV mX10_steps mX10_refused 152 1 := ⟨cd_X10_refused, ml_X10_152, im_X10_refused, se_X10_refused, in_X10, ⟨by decide, by decide, by decide +kernel⟩, Nat.le_of_ble_eq_true rfl, Nat.le_of_ble_eq_true rfl⟩
theorem cs_X10_steps_44 : tl_cS mX10_steps mX10_between 86 4 := ⟨cd_X10_between, ml_X10_86, sm_X10_between, in_X10, ⟨by decide, by decide, by decide +kernel⟩, Nat.le_of_ble_eq_true rfl, Nat.le_of_ble_eq_true rfl⟩
theorem cs_X10_steps_20 : tl_cS mX10_steps mX10_isCell 139 3 := ⟨cd_X10_isCell, ml_X10_139, sm_X10_isCell, in_X10, ⟨by decide, by decide, by decide +kernel⟩, Nat.le_of_ble_eq_true rfl, Nat.le_of_ble_eq_true rfl⟩
def f10_steps (a0 : Nat) (x1 : Int32) (x2 : Int32) (x3 : Int32) (x4 : Int32) (u : tl_S) : Option (Int32 × tl_S) :=
  tl_b2 (f10_isCell (a0 + 2) x1 x2 u) (fun x8 u7 => (if x8 = 0 then tl_b2 (f10_refused a0 1 u7) (fun x12 u11 => (if x12 = 0 then tl_b2 (f10_between x1 x2 x3 x4 u11) (fun x16 u15 => some (x16, u15)) else some (0, u11))) else tl_b2 (f10_isCell (a0 + 2) x3 x4 u7) (fun x12 u11 => (if x12 = 0 then tl_b2 (f10_refused a0 1 u11) (fun x16 u15 => (if x16 = 0 then tl_b2 (f10_between x1 x2 x3 x4 u15) (fun x20 u19 => some (x20, u19)) else some (0, u15))) else tl_b2 (f10_refused a0 0 u11) (fun x16 u15 => (if x16 = 0 then tl_b2 (f10_between x1 x2 x3 x4 u15) (fun x20 u19 => some (x20, u19)) else some (0, u15)))))))

theorem l10_steps {E : tl_E} {a0 : Nat} {x1 : Int32} {x2 : Int32} {x3 : Int32} {x4 : Int32}  {u : tl_S} {r : Int32} {v : tl_S} (h0 : tl_T E.2.1 a0 = some 10) (h : f10_steps a0 x1 x2 x3 x4 u = some (r, v)) : tl_MB E mX10_steps [.ref a0, .int x1, .int x2, .int x3, .int x4] u (fun q w => q = some (.int r) ∧ w = v) := by
  unfold f10_steps at h
  refine tl_start [some (.ref a0), some (.int x1), some (.int x2), some (.int x3), some (.int x4)] rfl rfl rfl (Nat.le_of_ble_eq_true rfl) ?_
  obtain ⟨x8, u7, e6, h⟩ := tl_b2i h
  refine tl_aload_n dX10_steps_0 rfl (tl_aload_n dX10_steps_1 rfl (tl_getr (f := 3) (o := 2) tl_ck10 dX10_steps_2 fl_X10_13 (Nat.le_of_ble_eq_true rfl) rfl h0 (tl_iload_n dX10_steps_5 rfl (tl_iload_n dX10_steps_6 rfl (tl_iS3 (l10_isCell (tt_10_3 h0) e6) dX10_steps_7 cs_X10_steps_7 ⟨rfl, rfl⟩ ⟨Nat.zero_le _, Nat.zero_le _⟩ (Nat.le_of_ble_eq_true rfl) (tl_if_eq (tgt := 30) dX10_steps_10 (by decide) (fun c9 => ?_) (fun c9 => ?_)))))))
  · replace h := tl_ip h c9
    obtain ⟨x12, u11, e10, h⟩ := tl_b2i h
    refine tl_iconst (v := 1) dX10_steps_30 ic_1 (tl_iV1 tl_ck10 rfl h0 (l10_refused h0 e10) dX10_steps_31 cs_X10_steps_31 ⟨rfl, rfl⟩ ⟨Nat.zero_le _, Nat.zero_le _⟩ (Nat.le_of_ble_eq_true rfl) (tl_if_eq (tgt := 39) dX10_steps_34 (by decide) (fun c13 => ?_) (fun c13 => ?_)))
    · replace h := tl_ip h c13
      obtain ⟨x16, u15, e14, h⟩ := tl_b2i h
      exact tl_iload_n dX10_steps_39 rfl (tl_iload_n dX10_steps_40 rfl (tl_iload_n dX10_steps_41 rfl (tl_iload dX10_steps_42 rfl (tl_iS4 (l10_between  e14) dX10_steps_44 cs_X10_steps_44 ⟨rfl, rfl⟩ ⟨Nat.zero_le _, Nat.zero_le _⟩ (Nat.le_of_ble_eq_true rfl) (tl_iretE dX10_steps_47 rfl rfl h)))))
    · replace h := tl_in h c13
      exact tl_iconst (v := 0) dX10_steps_37 ic_0 (tl_iretE dX10_steps_38 rfl rfl h)
  · replace h := tl_in h c9
    obtain ⟨x12, u11, e10, h⟩ := tl_b2i h
    refine tl_aload_n dX10_steps_13 rfl (tl_getr (f := 3) (o := 2) tl_ck10 dX10_steps_14 fl_X10_13 (Nat.le_of_ble_eq_true rfl) rfl h0 (tl_iload_n dX10_steps_17 rfl (tl_iload dX10_steps_18 rfl (tl_iS3 (l10_isCell (tt_10_3 h0) e10) dX10_steps_20 cs_X10_steps_20 ⟨rfl, rfl⟩ ⟨Nat.zero_le _, Nat.zero_le _⟩ (Nat.le_of_ble_eq_true rfl) (tl_if_eq (tgt := 30) dX10_steps_23 (by decide) (fun c13 => ?_) (fun c13 => ?_))))))
    · replace h := tl_ip h c13
      obtain ⟨x16, u15, e14, h⟩ := tl_b2i h
      refine tl_iconst (v := 1) dX10_steps_30 ic_1 (tl_iV1 tl_ck10 rfl h0 (l10_refused h0 e14) dX10_steps_31 cs_X10_steps_31 ⟨rfl, rfl⟩ ⟨Nat.zero_le _, Nat.zero_le _⟩ (Nat.le_of_ble_eq_true rfl) (tl_if_eq (tgt := 39) dX10_steps_34 (by decide) (fun c17 => ?_) (fun c17 => ?_)))
      · replace h := tl_ip h c17
        obtain ⟨x20, u19, e18, h⟩ := tl_b2i h
        exact tl_iload_n dX10_steps_39 rfl (tl_iload_n dX10_steps_40 rfl (tl_iload_n dX10_steps_41 rfl (tl_iload dX10_steps_42 rfl (tl_iS4 (l10_between  e18) dX10_steps_44 cs_X10_steps_44 ⟨rfl, rfl⟩ ⟨Nat.zero_le _, Nat.zero_le _⟩ (Nat.le_of_ble_eq_true rfl) (tl_iretE dX10_steps_47 rfl rfl h)))))
      · replace h := tl_in h c17
        exact tl_iconst (v := 0) dX10_steps_37 ic_0 (tl_iretE dX10_steps_38 rfl rfl h)
    · replace h := tl_in h c13
      obtain ⟨x16, u15, e14, h⟩ := tl_b2i h
      refine tl_iconst (v := 0) dX10_steps_26 ic_0 (tl_goto (tgt := 31) dX10_steps_27 (by decide) (tl_iV1 tl_ck10 rfl h0 (l10_refused h0 e14) dX10_steps_31 cs_X10_steps_31 ⟨rfl, rfl⟩ ⟨Nat.zero_le _, Nat.zero_le _⟩ (Nat.le_of_ble_eq_true rfl) (tl_if_eq (tgt := 39) dX10_steps_34 (by decide) (fun c17 => ?_) (fun c17 => ?_))))
      · replace h := tl_ip h c17
        obtain ⟨x20, u19, e18, h⟩ := tl_b2i h
        exact tl_iload_n dX10_steps_39 rfl (tl_iload_n dX10_steps_40 rfl (tl_iload_n dX10_steps_41 rfl (tl_iload dX10_steps_42 rfl (tl_iS4 (l10_between  e18) dX10_steps_44 cs_X10_steps_44 ⟨rfl, rfl⟩ ⟨Nat.zero_le _, Nat.zero_le _⟩ (Nat.le_of_ble_eq_true rfl) (tl_iretE dX10_steps_47 rfl rfl h)))))
      · replace h := tl_in h c17
        exact tl_iconst (v := 0) dX10_steps_37 ic_0 (tl_iretE dX10_steps_38 rfl rfl h)

theorem cs_X10_sends_5 : tl_cS mX10_sends mX10_isMiner 229 2 := ⟨cd_X10_isMiner, ml_X10_229, sm_X10_isMiner, in_X10, ⟨by decide, by decide, by decide +kernel⟩, Nat.le_of_ble_eq_true rfl, Nat.le_of_ble_eq_true rfl⟩
theorem cs_X10_sends_16 : tl_cS mX10_sends mX10_isGallery 41 2 := ⟨cd_X10_isGallery, ml_X10_41, sm_X10_isGallery, in_X10, ⟨by decide, by decide, by decide +kernel⟩, Nat.le_of_ble_eq_true rfl, Nat.le_of_ble_eq_true rfl⟩
def f10_sends_p26 (a1 : Nat) (x2 : Int32) (x3 : Int32) (u : tl_S) : Option (Int32 × tl_S) :=
  (if (0 : Int32) = 0 then some (0, u) else tl_g (¬ ((24 + (4 * x2)) < 0 ∨ 104 ≤ (24 + (4 * x2)).toNatClampNeg)) (tl_let ((tl_u u.1 (a1 + 3) ((24 + (4 * x2)).toNatClampNeg) x3, u.2) : tl_S) (fun u7 => some (0, u7))))

def f10_sends (a0 : Nat) (x1 : Int32) (x2 : Int32) (u : tl_S) : Option (Int32 × tl_S) :=
  tl_b2 (f10_isMiner (a0 + 3) x1 u) (fun x6 u5 => (if x6 = 0 then f10_sends_p26 a0 x1 x2 u5 else tl_b2 (f10_isGallery (a0 + 3) x2 u5) (fun x10 u9 => (if x10 = 0 then f10_sends_p26 a0 x1 x2 u9 else (if (1 : Int32) = 0 then some (1, u9) else tl_g (¬ ((24 + (4 * x1)) < 0 ∨ 104 ≤ (24 + (4 * x1)).toNatClampNeg)) (tl_let ((tl_u u9.1 (a0 + 3) ((24 + (4 * x1)).toNatClampNeg) x2, u9.2) : tl_S) (fun u14 => some (1, u14))))))))

theorem l10_sends_p26 {E : tl_E} {a1 : Nat} {x2 : Int32} {x3 : Int32}  {d3 : Option Value} {u : tl_S} {r : Int32} {v : tl_S} (h1 : tl_T E.2.1 a1 = some 10) (h : f10_sends_p26 a1 x2 x3 u = some (r, v)) : tl_R E mX10_sends tl_X0 (tl_ZB E mX10_sends (fun q w => q = some (.int r) ∧ w = v)) 0 0 (tl_HB E u) 26 [some (.ref a1), some (.int x2), some (.int x3), d3] [] := by
  unfold f10_sends_p26 at h
  refine tl_iconst (v := 0) dX10_sends_26 ic_0 (tl_istore_n dX10_sends_27 (Nat.le_of_ble_eq_true rfl) (tl_iload_n dX10_sends_28 rfl (tl_if_eq (tgt := 44) dX10_sends_29 (by decide) (fun c5 => ?_) (fun c5 => ?_))))
  · replace h := tl_ip h c5
    exact tl_iload_n dX10_sends_44 rfl (tl_iretE dX10_sends_45 rfl rfl h)
  · replace h := tl_in h c5
    obtain ⟨g6, h⟩ := tl_gi h
    refine tl_aload_n dX10_sends_32 rfl (tl_getr (f := 4) (o := 3) tl_ck10 dX10_sends_33 fl_X10_16 (Nat.le_of_ble_eq_true rfl) rfl h1 (tl_bipush (v := 24) dX10_sends_36 bp_24 (tl_iconst (v := 4) dX10_sends_38 ic_4 (tl_iload_n dX10_sends_39 rfl (tl_imul dX10_sends_40 (tl_iadd dX10_sends_41 (tl_iload_n dX10_sends_42 rfl (tl_iastK (fun _ _ => rfl) dX10_sends_43 (tt_10_4 h1) ((24 + (4 * x2)).toNatClampNeg) g6 rfl (fun u7 e => ?_)))))))))
    have h := tl_leteq e h
    clear e
    exact tl_iload_n dX10_sends_44 rfl (tl_iretE dX10_sends_45 rfl rfl h)

theorem l10_sends {E : tl_E} {a0 : Nat} {x1 : Int32} {x2 : Int32}  {u : tl_S} {r : Int32} {v : tl_S} (h0 : tl_T E.2.1 a0 = some 10) (h : f10_sends a0 x1 x2 u = some (r, v)) : tl_MB E mX10_sends [.ref a0, .int x1, .int x2] u (fun q w => q = some (.int r) ∧ w = v) := by
  unfold f10_sends at h
  refine tl_start [some (.ref a0), some (.int x1), some (.int x2), none] rfl rfl rfl (Nat.le_of_ble_eq_true rfl) ?_
  obtain ⟨x6, u5, e4, h⟩ := tl_b2i h
  refine tl_aload_n dX10_sends_0 rfl (tl_getr (f := 4) (o := 3) tl_ck10 dX10_sends_1 fl_X10_16 (Nat.le_of_ble_eq_true rfl) rfl h0 (tl_iload_n dX10_sends_4 rfl (tl_iS2 (l10_isMiner (tt_10_4 h0) e4) dX10_sends_5 cs_X10_sends_5 ⟨rfl, rfl⟩ ⟨Nat.zero_le _, Nat.zero_le _⟩ (Nat.le_of_ble_eq_true rfl) (tl_if_eq (tgt := 26) dX10_sends_8 (by decide) (fun c7 => ?_) (fun c7 => ?_)))))
  · replace h := tl_ip h c7
    exact l10_sends_p26 h0 h
  · replace h := tl_in h c7
    obtain ⟨x10, u9, e8, h⟩ := tl_b2i h
    refine tl_aload_n dX10_sends_11 rfl (tl_getr (f := 4) (o := 3) tl_ck10 dX10_sends_12 fl_X10_16 (Nat.le_of_ble_eq_true rfl) rfl h0 (tl_iload_n dX10_sends_15 rfl (tl_iS2 (l10_isGallery (tt_10_4 h0) e8) dX10_sends_16 cs_X10_sends_16 ⟨rfl, rfl⟩ ⟨Nat.zero_le _, Nat.zero_le _⟩ (Nat.le_of_ble_eq_true rfl) (tl_if_eq (tgt := 26) dX10_sends_19 (by decide) (fun c11 => ?_) (fun c11 => ?_)))))
    · replace h := tl_ip h c11
      exact l10_sends_p26 h0 h
    · replace h := tl_in h c11
      refine tl_iconst (v := 1) dX10_sends_22 ic_1 (tl_goto (tgt := 27) dX10_sends_23 (by decide) (tl_istore_n dX10_sends_27 (Nat.le_of_ble_eq_true rfl) (tl_iload_n dX10_sends_28 rfl (tl_if_eq (tgt := 44) dX10_sends_29 (by decide) (fun c12 => ?_) (fun c12 => ?_)))))
      · replace h := tl_ip h c12
        exact tl_iload_n dX10_sends_44 rfl (tl_iretE dX10_sends_45 rfl rfl h)
      · replace h := tl_in h c12
        obtain ⟨g13, h⟩ := tl_gi h
        refine tl_aload_n dX10_sends_32 rfl (tl_getr (f := 4) (o := 3) tl_ck10 dX10_sends_33 fl_X10_16 (Nat.le_of_ble_eq_true rfl) rfl h0 (tl_bipush (v := 24) dX10_sends_36 bp_24 (tl_iconst (v := 4) dX10_sends_38 ic_4 (tl_iload_n dX10_sends_39 rfl (tl_imul dX10_sends_40 (tl_iadd dX10_sends_41 (tl_iload_n dX10_sends_42 rfl (tl_iastK (fun _ _ => rfl) dX10_sends_43 (tt_10_4 h0) ((24 + (4 * x1)).toNatClampNeg) g13 rfl (fun u14 e => ?_)))))))))
        have h := tl_leteq e h
        clear e
        exact tl_iload_n dX10_sends_44 rfl (tl_iretE dX10_sends_45 rfl rfl h)

theorem cs_X10_command_102 : tl_cS mX10_command mX10_in 37 3 := ⟨cd_X10_in, ml_X10_37, sm_X10_in, in_X10, ⟨by decide, by decide, by decide +kernel⟩, Nat.le_of_ble_eq_true rfl, Nat.le_of_ble_eq_true rfl⟩
theorem cs_X10_command_113 : tl_cS mX10_command mX10_hoursOn 211 2 := ⟨cd_X10_hoursOn, ml_X10_211, sm_X10_hoursOn, in_X10, ⟨by decide, by decide, by decide +kernel⟩, Nat.le_of_ble_eq_true rfl, Nat.le_of_ble_eq_true rfl⟩
theorem cs_X10_command_139 : tl_cS mX10_command mX10_canHang 187 4 := ⟨cd_X10_canHang, ml_X10_187, sm_X10_canHang, in_X10, ⟨by decide, by decide, by decide +kernel⟩, Nat.le_of_ble_eq_true rfl, Nat.le_of_ble_eq_true rfl⟩
theorem cs_X10_command_155 : tl_cS mX10_command mX10_orderOn 120 5 := ⟨cd_X10_orderOn, ml_X10_120, sm_X10_orderOn, in_X10, ⟨by decide, by decide, by decide +kernel⟩, Nat.le_of_ble_eq_true rfl, Nat.le_of_ble_eq_true rfl⟩
theorem cs_X10_command_184 : tl_cS mX10_command mX10_canFill 208 3 := ⟨cd_X10_canFill, ml_X10_208, sm_X10_canFill, in_X10, ⟨by decide, by decide, by decide +kernel⟩, Nat.le_of_ble_eq_true rfl, Nat.le_of_ble_eq_true rfl⟩
theorem cs_X10_command_199 : tl_cS mX10_command mX10_orderOn 120 5 := ⟨cd_X10_orderOn, ml_X10_120, sm_X10_orderOn, in_X10, ⟨by decide, by decide, by decide +kernel⟩, Nat.le_of_ble_eq_true rfl, Nat.le_of_ble_eq_true rfl⟩
theorem cs_X10_command_224 : tl_cS mX10_command mX10_isSetting 250 2 := ⟨cd_X10_isSetting, ml_X10_250, sm_X10_isSetting, in_X10, ⟨by decide, by decide, by decide +kernel⟩, Nat.le_of_ble_eq_true rfl, Nat.le_of_ble_eq_true rfl⟩
theorem cs_X10_command_240 : tl_cS mX10_command mX10_change 245 3 := ⟨cd_X10_change, ml_X10_245, sm_X10_change, in_X10, ⟨by decide, by decide, by decide +kernel⟩, Nat.le_of_ble_eq_true rfl, Nat.le_of_ble_eq_true rfl⟩
theorem cs_X10_command_264 : tl_cV mX10_command mX10_sends 258 2 := ⟨cd_X10_sends, ml_X10_258, im_X10_sends, se_X10_sends, in_X10, ⟨by decide, by decide, by decide +kernel⟩, Nat.le_of_ble_eq_true rfl, Nat.le_of_ble_eq_true rfl⟩
theorem cs_X10_command_287 : tl_cS mX10_command mX10_isGallery 41 2 := ⟨cd_X10_isGallery, ml_X10_41, sm_X10_isGallery, in_X10, ⟨by decide, by decide, by decide +kernel⟩, Nat.le_of_ble_eq_true rfl, Nat.le_of_ble_eq_true rfl⟩
theorem cs_X10_command_303 : tl_cS mX10_command mX10_depth 45 2 := ⟨cd_X10_depth, ml_X10_45, sm_X10_depth, in_X10, ⟨by decide, by decide, by decide +kernel⟩, Nat.le_of_ble_eq_true rfl, Nat.le_of_ble_eq_true rfl⟩
theorem cs_X10_command_306 : tl_cS mX10_command mX10_isLit 102 3 := ⟨cd_X10_isLit, ml_X10_102, sm_X10_isLit, in_X10, ⟨by decide, by decide, by decide +kernel⟩, Nat.le_of_ble_eq_true rfl, Nat.le_of_ble_eq_true rfl⟩
theorem cs_X10_command_341 : tl_cS mX10_command mX10_isGallery 41 2 := ⟨cd_X10_isGallery, ml_X10_41, sm_X10_isGallery, in_X10, ⟨by decide, by decide, by decide +kernel⟩, Nat.le_of_ble_eq_true rfl, Nat.le_of_ble_eq_true rfl⟩
theorem cs_X10_command_352 : tl_cS mX10_command mX10_depth 45 2 := ⟨cd_X10_depth, ml_X10_45, sm_X10_depth, in_X10, ⟨by decide, by decide, by decide +kernel⟩, Nat.le_of_ble_eq_true rfl, Nat.le_of_ble_eq_true rfl⟩
theorem cs_X10_command_378 : tl_cS mX10_command mX10_isLamp 142 2 := ⟨cd_X10_isLamp, ml_X10_142, sm_X10_isLamp, in_X10, ⟨by decide, by decide, by decide +kernel⟩, Nat.le_of_ble_eq_true rfl, Nat.le_of_ble_eq_true rfl⟩
theorem cs_X10_command_390 : tl_cS mX10_command mX10_ofLamp 51 3 := ⟨cd_X10_ofLamp, ml_X10_51, sm_X10_ofLamp, in_X10, ⟨by decide, by decide, by decide +kernel⟩, Nat.le_of_ble_eq_true rfl, Nat.le_of_ble_eq_true rfl⟩
def f10_command (a0 : Nat) (x1 : Int32) (x2 : Int32) (u : tl_S) : Option (Int32 × tl_S) :=
  tl_let ((x2 / 10000)) (fun x4 => tl_let (((x2 / 1000) - (x2 / 1000) / 10 * 10)) (fun x5 => tl_let (((x2 / 10) - (x2 / 10) / 100 * 100)) (fun x6 => tl_let ((x2 - x2 / 10 * 10)) (fun x7 => tl_let ((x2 - x2 / 100 * 100)) (fun x8 => tl_let ((x2 - x2 / 10000 * 10000)) (fun x9 => (if x1.toInt < 1 ∨ 9 < x1.toInt then some (0, u) else (if x1.toInt = 1 then tl_b2 (f10_in ((x2 : Int32).toInt64) 1 60 u) (fun x14 u13 => (if x14 = 0 then some (0, u13) else tl_b2 (f10_hoursOn (a0 + 3) x2 u13) (fun x18 u17 => (if x18 < 0 then some (0, u17) else some (1, u17))))) else (if x1.toInt = 2 then (if x7 = 0 then tl_b2 (f10_canHang (a0 + 3) x4 x5 x6 u) (fun x15 u14 => (if x15 = 0 then some (0, u14) else tl_b2 (f10_orderOn (a0 + 3) 0 x4 x5 x6 u14) (fun x19 u18 => (if x19 ≤ 0 then some (0, u18) else some (1, u18))))) else some (0, u)) else (if x1.toInt = 3 then (if x7 = 0 then (if x5 = 0 then tl_b2 (f10_canFill (a0 + 3) x4 x6 u) (fun x16 u15 => (if x16 = 0 then some (0, u15) else tl_b2 (f10_orderOn (a0 + 3) 1 x4 x6 (-1) u15) (fun x20 u19 => (if x20 ≤ 0 then some (0, u19) else some (1, u19))))) else some (0, u)) else some (0, u)) else (if x1.toInt = 4 then (if x7 = 0 then (if x5 = 0 then tl_b2 (f10_isSetting x4 x6 u) (fun x16 u15 => (if x16 = 0 then some (0, u15) else tl_b2 (f10_change (a0 + 3) (16 + x4) x6 u15) (fun x20 u19 => (if x20 < 0 then some (0, u19) else some (1, u19))))) else some (0, u)) else some (0, u)) else (if x1.toInt = 5 then (if (x2 - x2 / 1000 * 1000) = 0 then tl_b2 (f10_sends a0 x4 x5 u) (fun x15 u14 => (if x15 = 0 then some (0, u14) else some (1, u14))) else some (0, u)) else (if x1.toInt = 6 then (if 2 ≤ x9 then some (0, u) else tl_b2 (f10_isGallery (a0 + 3) x4 u) (fun x15 u14 => (if x15 = 0 then some (0, u14) else tl_b2 (f10_depth (a0 + 3) x4 u14) (fun x19 u18 => tl_b2 (f10_isLit (a0 + 3) x4 x19 u18) (fun x22 u21 => (if x7 = 1 then (if x22 = 1 then some (1, u21) else some (0, u21)) else (if x22 = 0 then some (1, u21) else some (0, u21)))))))) else (if x1.toInt = 7 then (if 100 ≤ x9 then some (0, u) else tl_b2 (f10_isGallery (a0 + 3) x4 u) (fun x15 u14 => (if x15 = 0 then some (0, u14) else tl_b2 (f10_depth (a0 + 3) x4 u14) (fun x19 u18 => (if x19 < x8 then some (0, u18) else some (1, u18)))))) else (if x1.toInt = 8 then (if 100 ≤ x9 then some (0, u) else tl_b2 (f10_isLamp (a0 + 3) x4 u) (fun x15 u14 => (if x15 = 0 then some (0, u14) else tl_b2 (f10_ofLamp (a0 + 3) x4 1 u14) (fun x19 u18 => (if x19 < x8 then some (0, u18) else some (1, u18)))))) else (if 10 ≤ x2 then some (0, u) else (if x7 < (u.1 (a0 + 3) 8) then some (0, u) else some (1, u))))))))))))))))))

theorem l10_command {E : tl_E} {a0 : Nat} {x1 : Int32} {x2 : Int32}  {u : tl_S} {r : Int32} {v : tl_S} (h0 : tl_T E.2.1 a0 = some 10) (h : f10_command a0 x1 x2 u = some (r, v)) : tl_MB E mX10_command [.ref a0, .int x1, .int x2] u (fun q w => q = some (.int r) ∧ w = v) := by
  unfold f10_command at h
  refine tl_start [some (.ref a0), some (.int x1), some (.int x2), none, none, none, none, none, none] rfl rfl rfl (Nat.le_of_ble_eq_true rfl) ?_
  refine tl_iload_n dX10_command_0 rfl (tl_sipush (v := 10000) dX10_command_1 sp_10000 (tl_idiv dX10_command_4 (by decide) (tl_isto_n dX10_command_5 (Nat.le_of_ble_eq_true rfl) (fun x4 e => ?_))))
  have h := tl_leteq e h
  clear e
  refine tl_iload_n dX10_command_6 rfl (tl_sipush (v := 1000) dX10_command_7 sp_1000 (tl_idiv dX10_command_10 (by decide) (tl_bipush (v := 10) dX10_command_11 bp_10 (tl_irem dX10_command_13 (by decide) (tl_isto dX10_command_14 (Nat.le_of_ble_eq_true rfl) (fun x5 e => ?_))))))
  have h := tl_leteq e h
  clear e
  refine tl_iload_n dX10_command_16 rfl (tl_bipush (v := 10) dX10_command_17 bp_10 (tl_idiv dX10_command_19 (by decide) (tl_bipush (v := 100) dX10_command_20 bp_100 (tl_irem dX10_command_22 (by decide) (tl_isto dX10_command_23 (Nat.le_of_ble_eq_true rfl) (fun x6 e => ?_))))))
  have h := tl_leteq e h
  clear e
  refine tl_iload_n dX10_command_25 rfl (tl_bipush (v := 10) dX10_command_26 bp_10 (tl_irem dX10_command_28 (by decide) (tl_isto dX10_command_29 (Nat.le_of_ble_eq_true rfl) (fun x7 e => ?_))))
  have h := tl_leteq e h
  clear e
  refine tl_iload_n dX10_command_31 rfl (tl_bipush (v := 100) dX10_command_32 bp_100 (tl_irem dX10_command_34 (by decide) (tl_isto dX10_command_35 (Nat.le_of_ble_eq_true rfl) (fun x8 e => ?_))))
  have h := tl_leteq e h
  clear e
  refine tl_iload_n dX10_command_37 rfl (tl_sipush (v := 10000) dX10_command_38 sp_10000 (tl_irem dX10_command_41 (by decide) (tl_isto dX10_command_42 (Nat.le_of_ble_eq_true rfl) (fun x9 e => ?_))))
  have h := tl_leteq e h
  clear e
  refine tl_iload_n dX10_command_44 rfl (?_)
  by_cases c10 : x1.toInt < 1 ∨ 9 < x1.toInt
  · replace h := tl_ip h c10
    refine tl_tableOut (tgt := 428) dX10_command_45 c10 (by decide) ?_
    exact tl_iconst (v := 0) dX10_command_428 ic_0 (tl_iretE dX10_command_429 rfl rfl h)
  replace h := tl_in h c10
  by_cases c11_1 : x1.toInt = 1
  · replace h := tl_ip h c11_1
    refine tl_tableIn (off := 51) (tgt := 96) dX10_command_45 (by omega) (by omega) (by rw [c11_1]; rfl) (by decide) ?_
    obtain ⟨x14, u13, e12, h⟩ := tl_b2i h
    refine tl_iload_n dX10_command_96 rfl (tl_i2l dX10_command_97 (tl_lconst (v := 1) dX10_command_98 lc_1 (tl_ldc2 dX10_command_99 kl_X10_240 (tl_iS3 (l10_in  e12) dX10_command_102 cs_X10_command_102 ⟨rfl, rfl⟩ ⟨Nat.zero_le _, Nat.zero_le _⟩ (Nat.le_of_ble_eq_true rfl) (tl_if_eq (tgt := 123) dX10_command_105 (by decide) (fun c15 => ?_) (fun c15 => ?_))))))
    · replace h := tl_ip h c15
      exact tl_iconst (v := 0) dX10_command_123 ic_0 (tl_iretE dX10_command_124 rfl rfl h)
    · replace h := tl_in h c15
      obtain ⟨x18, u17, e16, h⟩ := tl_b2i h
      refine tl_aload_n dX10_command_108 rfl (tl_getr (f := 4) (o := 3) tl_ck10 dX10_command_109 fl_X10_16 (Nat.le_of_ble_eq_true rfl) rfl h0 (tl_iload_n dX10_command_112 rfl (tl_iS2 (l10_hoursOn (tt_10_4 h0) e16) dX10_command_113 cs_X10_command_113 ⟨rfl, rfl⟩ ⟨Nat.zero_le _, Nat.zero_le _⟩ (Nat.le_of_ble_eq_true rfl) (tl_if_lt (tgt := 123) dX10_command_116 (by decide) (fun c19 => ?_) (fun c19 => ?_)))))
      · replace h := tl_ip h c19
        exact tl_iconst (v := 0) dX10_command_123 ic_0 (tl_iretE dX10_command_124 rfl rfl h)
      · replace h := tl_in h c19
        exact tl_iconst (v := 1) dX10_command_119 ic_1 (tl_goto (tgt := 124) dX10_command_120 (by decide) (tl_iretE dX10_command_124 rfl rfl h))
  replace h := tl_in h c11_1
  by_cases c11_2 : x1.toInt = 2
  · replace h := tl_ip h c11_2
    refine tl_tableIn (off := 80) (tgt := 125) dX10_command_45 (by omega) (by omega) (by rw [c11_2]; rfl) (by decide) ?_
    refine tl_iload dX10_command_125 rfl (tl_if_ne (tgt := 165) dX10_command_127 (by decide) (fun c12 => ?_) (fun c12 => ?_))
    · replace h := tl_in h c12
      exact tl_iconst (v := 0) dX10_command_165 ic_0 (tl_iretE dX10_command_166 rfl rfl h)
    · replace h := tl_ip h c12
      obtain ⟨x15, u14, e13, h⟩ := tl_b2i h
      refine tl_aload_n dX10_command_130 rfl (tl_getr (f := 4) (o := 3) tl_ck10 dX10_command_131 fl_X10_16 (Nat.le_of_ble_eq_true rfl) rfl h0 (tl_iload_n dX10_command_134 rfl (tl_iload dX10_command_135 rfl (tl_iload dX10_command_137 rfl (tl_iS4 (l10_canHang (tt_10_4 h0) e13) dX10_command_139 cs_X10_command_139 ⟨rfl, rfl⟩ ⟨Nat.zero_le _, Nat.zero_le _⟩ (Nat.le_of_ble_eq_true rfl) (tl_if_eq (tgt := 165) dX10_command_142 (by decide) (fun c16 => ?_) (fun c16 => ?_)))))))
      · replace h := tl_ip h c16
        exact tl_iconst (v := 0) dX10_command_165 ic_0 (tl_iretE dX10_command_166 rfl rfl h)
      · replace h := tl_in h c16
        obtain ⟨x19, u18, e17, h⟩ := tl_b2i h
        refine tl_aload_n dX10_command_145 rfl (tl_getr (f := 4) (o := 3) tl_ck10 dX10_command_146 fl_X10_16 (Nat.le_of_ble_eq_true rfl) rfl h0 (tl_iconst (v := 0) dX10_command_149 ic_0 (tl_iload_n dX10_command_150 rfl (tl_iload dX10_command_151 rfl (tl_iload dX10_command_153 rfl (tl_iS5 (l10_orderOn (tt_10_4 h0) e17) dX10_command_155 cs_X10_command_155 ⟨rfl, rfl⟩ ⟨Nat.zero_le _, Nat.zero_le _⟩ (Nat.le_of_ble_eq_true rfl) (tl_if_le (tgt := 165) dX10_command_158 (by decide) (fun c20 => ?_) (fun c20 => ?_))))))))
        · replace h := tl_ip h c20
          exact tl_iconst (v := 0) dX10_command_165 ic_0 (tl_iretE dX10_command_166 rfl rfl h)
        · replace h := tl_in h c20
          exact tl_iconst (v := 1) dX10_command_161 ic_1 (tl_goto (tgt := 166) dX10_command_162 (by decide) (tl_iretE dX10_command_166 rfl rfl h))
  replace h := tl_in h c11_2
  by_cases c11_3 : x1.toInt = 3
  · replace h := tl_ip h c11_3
    refine tl_tableIn (off := 122) (tgt := 167) dX10_command_45 (by omega) (by omega) (by rw [c11_3]; rfl) (by decide) ?_
    refine tl_iload dX10_command_167 rfl (tl_if_ne (tgt := 209) dX10_command_169 (by decide) (fun c12 => ?_) (fun c12 => ?_))
    · replace h := tl_in h c12
      exact tl_iconst (v := 0) dX10_command_209 ic_0 (tl_iretE dX10_command_210 rfl rfl h)
    · replace h := tl_ip h c12
      refine tl_iload dX10_command_172 rfl (tl_if_ne (tgt := 209) dX10_command_174 (by decide) (fun c13 => ?_) (fun c13 => ?_))
      · replace h := tl_in h c13
        exact tl_iconst (v := 0) dX10_command_209 ic_0 (tl_iretE dX10_command_210 rfl rfl h)
      · replace h := tl_ip h c13
        obtain ⟨x16, u15, e14, h⟩ := tl_b2i h
        refine tl_aload_n dX10_command_177 rfl (tl_getr (f := 4) (o := 3) tl_ck10 dX10_command_178 fl_X10_16 (Nat.le_of_ble_eq_true rfl) rfl h0 (tl_iload_n dX10_command_181 rfl (tl_iload dX10_command_182 rfl (tl_iS3 (l10_canFill (tt_10_4 h0) e14) dX10_command_184 cs_X10_command_184 ⟨rfl, rfl⟩ ⟨Nat.zero_le _, Nat.zero_le _⟩ (Nat.le_of_ble_eq_true rfl) (tl_if_eq (tgt := 209) dX10_command_187 (by decide) (fun c17 => ?_) (fun c17 => ?_))))))
        · replace h := tl_ip h c17
          exact tl_iconst (v := 0) dX10_command_209 ic_0 (tl_iretE dX10_command_210 rfl rfl h)
        · replace h := tl_in h c17
          obtain ⟨x20, u19, e18, h⟩ := tl_b2i h
          refine tl_aload_n dX10_command_190 rfl (tl_getr (f := 4) (o := 3) tl_ck10 dX10_command_191 fl_X10_16 (Nat.le_of_ble_eq_true rfl) rfl h0 (tl_iconst (v := 1) dX10_command_194 ic_1 (tl_iload_n dX10_command_195 rfl (tl_iload dX10_command_196 rfl (tl_iconst (v := (-1)) dX10_command_198 ic_m1 (tl_iS5 (l10_orderOn (tt_10_4 h0) e18) dX10_command_199 cs_X10_command_199 ⟨rfl, rfl⟩ ⟨Nat.zero_le _, Nat.zero_le _⟩ (Nat.le_of_ble_eq_true rfl) (tl_if_le (tgt := 209) dX10_command_202 (by decide) (fun c21 => ?_) (fun c21 => ?_))))))))
          · replace h := tl_ip h c21
            exact tl_iconst (v := 0) dX10_command_209 ic_0 (tl_iretE dX10_command_210 rfl rfl h)
          · replace h := tl_in h c21
            exact tl_iconst (v := 1) dX10_command_205 ic_1 (tl_goto (tgt := 210) dX10_command_206 (by decide) (tl_iretE dX10_command_210 rfl rfl h))
  replace h := tl_in h c11_3
  by_cases c11_4 : x1.toInt = 4
  · replace h := tl_ip h c11_4
    refine tl_tableIn (off := 166) (tgt := 211) dX10_command_45 (by omega) (by omega) (by rw [c11_4]; rfl) (by decide) ?_
    refine tl_iload dX10_command_211 rfl (tl_if_ne (tgt := 250) dX10_command_213 (by decide) (fun c12 => ?_) (fun c12 => ?_))
    · replace h := tl_in h c12
      exact tl_iconst (v := 0) dX10_command_250 ic_0 (tl_iretE dX10_command_251 rfl rfl h)
    · replace h := tl_ip h c12
      refine tl_iload dX10_command_216 rfl (tl_if_ne (tgt := 250) dX10_command_218 (by decide) (fun c13 => ?_) (fun c13 => ?_))
      · replace h := tl_in h c13
        exact tl_iconst (v := 0) dX10_command_250 ic_0 (tl_iretE dX10_command_251 rfl rfl h)
      · replace h := tl_ip h c13
        obtain ⟨x16, u15, e14, h⟩ := tl_b2i h
        refine tl_iload_n dX10_command_221 rfl (tl_iload dX10_command_222 rfl (tl_iS2 (l10_isSetting  e14) dX10_command_224 cs_X10_command_224 ⟨rfl, rfl⟩ ⟨Nat.zero_le _, Nat.zero_le _⟩ (Nat.le_of_ble_eq_true rfl) (tl_if_eq (tgt := 250) dX10_command_227 (by decide) (fun c17 => ?_) (fun c17 => ?_))))
        · replace h := tl_ip h c17
          exact tl_iconst (v := 0) dX10_command_250 ic_0 (tl_iretE dX10_command_251 rfl rfl h)
        · replace h := tl_in h c17
          obtain ⟨x20, u19, e18, h⟩ := tl_b2i h
          refine tl_aload_n dX10_command_230 rfl (tl_getr (f := 4) (o := 3) tl_ck10 dX10_command_231 fl_X10_16 (Nat.le_of_ble_eq_true rfl) rfl h0 (tl_bipush (v := 16) dX10_command_234 bp_16 (tl_iload_n dX10_command_236 rfl (tl_iadd dX10_command_237 (tl_iload dX10_command_238 rfl (tl_iS3 (l10_change (tt_10_4 h0) e18) dX10_command_240 cs_X10_command_240 ⟨rfl, rfl⟩ ⟨Nat.zero_le _, Nat.zero_le _⟩ (Nat.le_of_ble_eq_true rfl) (tl_if_lt (tgt := 250) dX10_command_243 (by decide) (fun c21 => ?_) (fun c21 => ?_))))))))
          · replace h := tl_ip h c21
            exact tl_iconst (v := 0) dX10_command_250 ic_0 (tl_iretE dX10_command_251 rfl rfl h)
          · replace h := tl_in h c21
            exact tl_iconst (v := 1) dX10_command_246 ic_1 (tl_goto (tgt := 251) dX10_command_247 (by decide) (tl_iretE dX10_command_251 rfl rfl h))
  replace h := tl_in h c11_4
  by_cases c11_5 : x1.toInt = 5
  · replace h := tl_ip h c11_5
    refine tl_tableIn (off := 207) (tgt := 252) dX10_command_45 (by omega) (by omega) (by rw [c11_5]; rfl) (by decide) ?_
    refine tl_iload_n dX10_command_252 rfl (tl_sipush (v := 1000) dX10_command_253 sp_1000 (tl_irem dX10_command_256 (by decide) (tl_if_ne (tgt := 274) dX10_command_257 (by decide) (fun c12 => ?_) (fun c12 => ?_))))
    · replace h := tl_in h c12
      exact tl_iconst (v := 0) dX10_command_274 ic_0 (tl_iretE dX10_command_275 rfl rfl h)
    · replace h := tl_ip h c12
      obtain ⟨x15, u14, e13, h⟩ := tl_b2i h
      refine tl_aload_n dX10_command_260 rfl (tl_iload_n dX10_command_261 rfl (tl_iload dX10_command_262 rfl (tl_iV2 tl_ck10 rfl h0 (l10_sends h0 e13) dX10_command_264 cs_X10_command_264 ⟨rfl, rfl⟩ ⟨Nat.zero_le _, Nat.zero_le _⟩ (Nat.le_of_ble_eq_true rfl) (tl_if_eq (tgt := 274) dX10_command_267 (by decide) (fun c16 => ?_) (fun c16 => ?_)))))
      · replace h := tl_ip h c16
        exact tl_iconst (v := 0) dX10_command_274 ic_0 (tl_iretE dX10_command_275 rfl rfl h)
      · replace h := tl_in h c16
        exact tl_iconst (v := 1) dX10_command_270 ic_1 (tl_goto (tgt := 275) dX10_command_271 (by decide) (tl_iretE dX10_command_275 rfl rfl h))
  replace h := tl_in h c11_5
  by_cases c11_6 : x1.toInt = 6
  · replace h := tl_ip h c11_6
    refine tl_tableIn (off := 231) (tgt := 276) dX10_command_45 (by omega) (by omega) (by rw [c11_6]; rfl) (by decide) ?_
    refine tl_iload dX10_command_276 rfl (tl_iconst (v := 2) dX10_command_278 ic_2 (tl_icmp_ge (tgt := 327) dX10_command_279 (by decide) (fun c12 => ?_) (fun c12 => ?_)))
    · replace h := tl_ip h c12
      exact tl_iconst (v := 0) dX10_command_327 ic_0 (tl_iretE dX10_command_328 rfl rfl h)
    · replace h := tl_in h c12
      obtain ⟨x15, u14, e13, h⟩ := tl_b2i h
      refine tl_aload_n dX10_command_282 rfl (tl_getr (f := 4) (o := 3) tl_ck10 dX10_command_283 fl_X10_16 (Nat.le_of_ble_eq_true rfl) rfl h0 (tl_iload_n dX10_command_286 rfl (tl_iS2 (l10_isGallery (tt_10_4 h0) e13) dX10_command_287 cs_X10_command_287 ⟨rfl, rfl⟩ ⟨Nat.zero_le _, Nat.zero_le _⟩ (Nat.le_of_ble_eq_true rfl) (tl_if_eq (tgt := 327) dX10_command_290 (by decide) (fun c16 => ?_) (fun c16 => ?_)))))
      · replace h := tl_ip h c16
        exact tl_iconst (v := 0) dX10_command_327 ic_0 (tl_iretE dX10_command_328 rfl rfl h)
      · replace h := tl_in h c16
        obtain ⟨x19, u18, e17, h⟩ := tl_b2i h
        obtain ⟨x22, u21, e20, h⟩ := tl_b2i h
        refine tl_aload_n dX10_command_293 rfl (tl_getr (f := 4) (o := 3) tl_ck10 dX10_command_294 fl_X10_16 (Nat.le_of_ble_eq_true rfl) rfl h0 (tl_iload_n dX10_command_297 rfl (tl_aload_n dX10_command_298 rfl (tl_getr (f := 4) (o := 3) tl_ck10 dX10_command_299 fl_X10_16 (Nat.le_of_ble_eq_true rfl) rfl h0 (tl_iload_n dX10_command_302 rfl (tl_iS2 (l10_depth (tt_10_4 h0) e17) dX10_command_303 cs_X10_command_303 ⟨rfl, rfl⟩ ⟨Nat.zero_le _, Nat.zero_le _⟩ (Nat.le_of_ble_eq_true rfl) (tl_iS3 (l10_isLit (tt_10_4 h0) e20) dX10_command_306 cs_X10_command_306 ⟨rfl, rfl⟩ ⟨Nat.zero_le _, Nat.zero_le _⟩ (Nat.le_of_ble_eq_true rfl) (tl_iload dX10_command_309 rfl (tl_iconst (v := 1) dX10_command_311 ic_1 (tl_icmp_ne (tgt := 319) dX10_command_312 (by decide) (fun c23 => ?_) (fun c23 => ?_)))))))))))
        · replace h := tl_in h c23
          refine tl_iconst (v := 0) dX10_command_319 ic_0 (tl_icmp_ne (tgt := 327) dX10_command_320 (by decide) (fun c24 => ?_) (fun c24 => ?_))
          · replace h := tl_in h c24
            exact tl_iconst (v := 0) dX10_command_327 ic_0 (tl_iretE dX10_command_328 rfl rfl h)
          · replace h := tl_ip h c24
            exact tl_iconst (v := 1) dX10_command_323 ic_1 (tl_goto (tgt := 328) dX10_command_324 (by decide) (tl_iretE dX10_command_328 rfl rfl h))
        · replace h := tl_ip h c23
          refine tl_iconst (v := 1) dX10_command_315 ic_1 (tl_goto (tgt := 320) dX10_command_316 (by decide) (tl_icmp_ne (tgt := 327) dX10_command_320 (by decide) (fun c24 => ?_) (fun c24 => ?_)))
          · replace h := tl_in h c24
            exact tl_iconst (v := 0) dX10_command_327 ic_0 (tl_iretE dX10_command_328 rfl rfl h)
          · replace h := tl_ip h c24
            exact tl_iconst (v := 1) dX10_command_323 ic_1 (tl_goto (tgt := 328) dX10_command_324 (by decide) (tl_iretE dX10_command_328 rfl rfl h))
  replace h := tl_in h c11_6
  by_cases c11_7 : x1.toInt = 7
  · replace h := tl_ip h c11_7
    refine tl_tableIn (off := 284) (tgt := 329) dX10_command_45 (by omega) (by omega) (by rw [c11_7]; rfl) (by decide) ?_
    refine tl_iload dX10_command_329 rfl (tl_bipush (v := 100) dX10_command_331 bp_100 (tl_icmp_ge (tgt := 364) dX10_command_333 (by decide) (fun c12 => ?_) (fun c12 => ?_)))
    · replace h := tl_ip h c12
      exact tl_iconst (v := 0) dX10_command_364 ic_0 (tl_iretE dX10_command_365 rfl rfl h)
    · replace h := tl_in h c12
      obtain ⟨x15, u14, e13, h⟩ := tl_b2i h
      refine tl_aload_n dX10_command_336 rfl (tl_getr (f := 4) (o := 3) tl_ck10 dX10_command_337 fl_X10_16 (Nat.le_of_ble_eq_true rfl) rfl h0 (tl_iload_n dX10_command_340 rfl (tl_iS2 (l10_isGallery (tt_10_4 h0) e13) dX10_command_341 cs_X10_command_341 ⟨rfl, rfl⟩ ⟨Nat.zero_le _, Nat.zero_le _⟩ (Nat.le_of_ble_eq_true rfl) (tl_if_eq (tgt := 364) dX10_command_344 (by decide) (fun c16 => ?_) (fun c16 => ?_)))))
      · replace h := tl_ip h c16
        exact tl_iconst (v := 0) dX10_command_364 ic_0 (tl_iretE dX10_command_365 rfl rfl h)
      · replace h := tl_in h c16
        obtain ⟨x19, u18, e17, h⟩ := tl_b2i h
        refine tl_aload_n dX10_command_347 rfl (tl_getr (f := 4) (o := 3) tl_ck10 dX10_command_348 fl_X10_16 (Nat.le_of_ble_eq_true rfl) rfl h0 (tl_iload_n dX10_command_351 rfl (tl_iS2 (l10_depth (tt_10_4 h0) e17) dX10_command_352 cs_X10_command_352 ⟨rfl, rfl⟩ ⟨Nat.zero_le _, Nat.zero_le _⟩ (Nat.le_of_ble_eq_true rfl) (tl_iload dX10_command_355 rfl (tl_icmp_lt (tgt := 364) dX10_command_357 (by decide) (fun c20 => ?_) (fun c20 => ?_))))))
        · replace h := tl_ip h c20
          exact tl_iconst (v := 0) dX10_command_364 ic_0 (tl_iretE dX10_command_365 rfl rfl h)
        · replace h := tl_in h c20
          exact tl_iconst (v := 1) dX10_command_360 ic_1 (tl_goto (tgt := 365) dX10_command_361 (by decide) (tl_iretE dX10_command_365 rfl rfl h))
  replace h := tl_in h c11_7
  by_cases c11_8 : x1.toInt = 8
  · replace h := tl_ip h c11_8
    refine tl_tableIn (off := 321) (tgt := 366) dX10_command_45 (by omega) (by omega) (by rw [c11_8]; rfl) (by decide) ?_
    refine tl_iload dX10_command_366 rfl (tl_bipush (v := 100) dX10_command_368 bp_100 (tl_icmp_ge (tgt := 402) dX10_command_370 (by decide) (fun c12 => ?_) (fun c12 => ?_)))
    · replace h := tl_ip h c12
      exact tl_iconst (v := 0) dX10_command_402 ic_0 (tl_iretE dX10_command_403 rfl rfl h)
    · replace h := tl_in h c12
      obtain ⟨x15, u14, e13, h⟩ := tl_b2i h
      refine tl_aload_n dX10_command_373 rfl (tl_getr (f := 4) (o := 3) tl_ck10 dX10_command_374 fl_X10_16 (Nat.le_of_ble_eq_true rfl) rfl h0 (tl_iload_n dX10_command_377 rfl (tl_iS2 (l10_isLamp (tt_10_4 h0) e13) dX10_command_378 cs_X10_command_378 ⟨rfl, rfl⟩ ⟨Nat.zero_le _, Nat.zero_le _⟩ (Nat.le_of_ble_eq_true rfl) (tl_if_eq (tgt := 402) dX10_command_381 (by decide) (fun c16 => ?_) (fun c16 => ?_)))))
      · replace h := tl_ip h c16
        exact tl_iconst (v := 0) dX10_command_402 ic_0 (tl_iretE dX10_command_403 rfl rfl h)
      · replace h := tl_in h c16
        obtain ⟨x19, u18, e17, h⟩ := tl_b2i h
        refine tl_aload_n dX10_command_384 rfl (tl_getr (f := 4) (o := 3) tl_ck10 dX10_command_385 fl_X10_16 (Nat.le_of_ble_eq_true rfl) rfl h0 (tl_iload_n dX10_command_388 rfl (tl_iconst (v := 1) dX10_command_389 ic_1 (tl_iS3 (l10_ofLamp (tt_10_4 h0) e17) dX10_command_390 cs_X10_command_390 ⟨rfl, rfl⟩ ⟨Nat.zero_le _, Nat.zero_le _⟩ (Nat.le_of_ble_eq_true rfl) (tl_iload dX10_command_393 rfl (tl_icmp_lt (tgt := 402) dX10_command_395 (by decide) (fun c20 => ?_) (fun c20 => ?_)))))))
        · replace h := tl_ip h c20
          exact tl_iconst (v := 0) dX10_command_402 ic_0 (tl_iretE dX10_command_403 rfl rfl h)
        · replace h := tl_in h c20
          exact tl_iconst (v := 1) dX10_command_398 ic_1 (tl_goto (tgt := 403) dX10_command_399 (by decide) (tl_iretE dX10_command_403 rfl rfl h))
  replace h := tl_in h c11_8
  have c11_9 : x1.toInt = 9 := by omega
  refine tl_tableIn (off := 359) (tgt := 404) dX10_command_45 (by omega) (by omega) (by rw [c11_9]; rfl) (by decide) ?_
  refine tl_iload_n dX10_command_404 rfl (tl_bipush (v := 10) dX10_command_405 bp_10 (tl_icmp_ge (tgt := 426) dX10_command_407 (by decide) (fun c12 => ?_) (fun c12 => ?_)))
  · replace h := tl_ip h c12
    exact tl_iconst (v := 0) dX10_command_426 ic_0 (tl_iretE dX10_command_427 rfl rfl h)
  · replace h := tl_in h c12
    refine tl_aload_n dX10_command_410 rfl (tl_getr (f := 4) (o := 3) tl_ck10 dX10_command_411 fl_X10_16 (Nat.le_of_ble_eq_true rfl) rfl h0 (tl_bipush (v := 8) dX10_command_414 bp_8 (tl_iald (j := 8) (fun _ _ => rfl) dX10_command_416 (tt_10_4 h0) (li_8 104 rfl) lx_8 (tl_iload dX10_command_417 rfl (tl_icmp_gt (tgt := 426) dX10_command_419 (by decide) (fun c13 => ?_) (fun c13 => ?_))))))
    · replace h := tl_ip h c13
      exact tl_iconst (v := 0) dX10_command_426 ic_0 (tl_iretE dX10_command_427 rfl rfl h)
    · replace h := tl_in h c13
      exact tl_iconst (v := 1) dX10_command_422 ic_1 (tl_goto (tgt := 427) dX10_command_423 (by decide) (tl_iretE dX10_command_427 rfl rfl h))

theorem cs_X10_runScript_39 : tl_cS mX10_runScript mX10_in 37 3 := ⟨cd_X10_in, ml_X10_37, sm_X10_in, in_X10, ⟨by decide, by decide, by decide +kernel⟩, Nat.le_of_ble_eq_true rfl, Nat.le_of_ble_eq_true rfl⟩
theorem cs_X10_runScript_62 : tl_cV mX10_runScript mX10_refused 152 1 := ⟨cd_X10_refused, ml_X10_152, im_X10_refused, se_X10_refused, in_X10, ⟨by decide, by decide, by decide +kernel⟩, Nat.le_of_ble_eq_true rfl, Nat.le_of_ble_eq_true rfl⟩
theorem cs_X10_runScript_80 : tl_cS mX10_runScript mX10_copyState 220 4 := ⟨cd_X10_copyState, ml_X10_220, sm_X10_copyState, in_X10, ⟨by decide, by decide, by decide +kernel⟩, Nat.le_of_ble_eq_true rfl, Nat.le_of_ble_eq_true rfl⟩
theorem cs_X10_runScript_124 : tl_cV mX10_runScript mX10_command 264 2 := ⟨cd_X10_command, ml_X10_264, im_X10_command, se_X10_command, in_X10, ⟨by decide, by decide, by decide +kernel⟩, Nat.le_of_ble_eq_true rfl, Nat.le_of_ble_eq_true rfl⟩
theorem cs_X10_runScript_51 : tl_cS mX10_runScript mX10_in 37 3 := ⟨cd_X10_in, ml_X10_37, sm_X10_in, in_X10, ⟨by decide, by decide, by decide +kernel⟩, Nat.le_of_ble_eq_true rfl, Nat.le_of_ble_eq_true rfl⟩
def f10_runScript_p86 : Nat → Nat → Int32 → Int64 → Int64 → Int32 → tl_S → Option (Int32 × tl_S)
  | 0, _, _, _, _, _, _ => none
  | fu + 1, a1, x2, x3, x4, x5, u =>
  (if x2 ≤ x5 then some ((-1), u) else tl_let ((x4 / 1000000)) (fun x8 => tl_g (¬ x8 = 0) (tl_let ((((x3 / x8) - (x3 / x8) / 1000000 * 1000000) : Int64).toInt32) (fun x10 => tl_b2 (f10_command a1 (x10 / 100000) (x10 - x10 / 100000 * 100000) u) (fun x13 u12 => (if x13 = 0 then some (x5, u12) else tl_let (x5 + 1) (fun x15 => f10_runScript_p86 fu a1 x2 x3 x8 x15 u12)))))))

def f10_runScript_p32 (a1 : Nat) (x2 : Int32) (x3 : Int64) (x4 : Int64) (u : tl_S) : Option (Int32 × tl_S) :=
  tl_b2 (f10_in ((x2 : Int32).toInt64) 1 3 u) (fun x8 u7 => (if x8 = 0 then tl_b2 (f10_refused a1 1 u7) (fun x12 u11 => (if x12 = 0 then tl_b (f10_copyState (a1 + 2) 104 0 (a1 + 3) 104 0 u11) (fun u15 => f10_runScript_p86 tl_F a1 x2 x3 x4 0 u15) else some (0, u11))) else tl_b2 (f10_in x3 0 (x4 - 1) u7) (fun x12 u11 => (if x12 = 0 then tl_b2 (f10_refused a1 1 u11) (fun x16 u15 => (if x16 = 0 then tl_b (f10_copyState (a1 + 2) 104 0 (a1 + 3) 104 0 u15) (fun u19 => f10_runScript_p86 tl_F a1 x2 x3 x4 0 u19) else some (0, u15))) else tl_b2 (f10_refused a1 0 u11) (fun x16 u15 => (if x16 = 0 then tl_b (f10_copyState (a1 + 2) 104 0 (a1 + 3) 104 0 u15) (fun u19 => f10_runScript_p86 tl_F a1 x2 x3 x4 0 u19) else some (0, u15)))))))

def f10_runScript_p6 : Nat → Nat → Int32 → Int64 → Int64 → Int32 → tl_S → Option (Int32 × tl_S)
  | 0, _, _, _, _, _, _ => none
  | fu + 1, a1, x2, x3, x4, x5, u =>
  (if x2 ≤ x5 then f10_runScript_p32 a1 x2 x3 x4 u else (if 3 ≤ x5 then f10_runScript_p32 a1 x2 x3 x4 u else tl_let ((x4 * 1000000)) (fun x9 => tl_let (x5 + 1) (fun x10 => f10_runScript_p6 fu a1 x2 x3 x9 x10 u))))

def f10_runScript (a0 : Nat) (x1 : Int32) (x2 : Int64) (u : tl_S) : Option (Int32 × tl_S) :=
  f10_runScript_p6 tl_F a0 x1 x2 1 0 u

theorem l10_runScript_p86 {E : tl_E}  {r : Int32} {v : tl_S} : ∀ (n : Nat) (a1 : Nat) (x2 : Int32) (x3 : Int64) (x4 : Int64) (x5 : Int32) (u : tl_S) (d3 : Option Value) (d5 : Option Value) (d7 : Option Value), tl_T E.2.1 a1 = some 10 → f10_runScript_p86 n a1 x2 x3 x4 x5 u = some (r, v) → tl_R E mX10_runScript tl_X0 (tl_ZB E mX10_runScript (fun q w => q = some (.int r) ∧ w = v)) 0 0 (tl_HB E u) 86 [some (.ref a1), some (.int x2), some (.long x3), d3, some (.long x4), d5, some (.int x5), d7] [] := by
  intro n
  induction n with
  | zero => intro a1 x2 x3 x4 x5 u d3 d5 d7 h1 h; exact absurd h (by simp [f10_runScript_p86])
  | succ n ih =>
    intro a1 x2 x3 x4 x5 u d3 d5 d7 h1 h
    rw [f10_runScript_p86] at h
    refine tl_iload dX10_runScript_86 rfl (tl_iload_n dX10_runScript_88 rfl (tl_icmp_ge (tgt := 139) dX10_runScript_89 (by decide) (fun c7 => ?_) (fun c7 => ?_)))
    · replace h := tl_ip h c7
      exact tl_iconst (v := (-1)) dX10_runScript_139 ic_m1 (tl_iretE dX10_runScript_140 rfl rfl h)
    · replace h := tl_in h c7
      refine tl_lload dX10_runScript_92 rfl (tl_ldc2 dX10_runScript_94 kl_X10_261 (tl_ldiv dX10_runScript_97 (by decide) (tl_lsto dX10_runScript_98 (Nat.le_of_ble_eq_true rfl) (fun x8 e => ?_))))
      have h := tl_leteq e h
      clear e
      obtain ⟨g9, h⟩ := tl_gi h
      refine tl_lload_n dX10_runScript_100 rfl (tl_lload dX10_runScript_101 rfl (tl_ldiv dX10_runScript_103 g9 (tl_ldc2 dX10_runScript_104 kl_X10_261 (tl_lrem dX10_runScript_107 (by decide) (tl_l2i dX10_runScript_108 (tl_isto dX10_runScript_109 (Nat.le_of_ble_eq_true rfl) (fun x10 e => ?_)))))))
      have h := tl_leteq e h
      clear e
      obtain ⟨x13, u12, e11, h⟩ := tl_b2i h
      refine tl_aload_n dX10_runScript_111 rfl (tl_iload dX10_runScript_112 rfl (tl_ldcw dX10_runScript_114 kc_X10_263 (tl_idiv dX10_runScript_117 (by decide) (tl_iload dX10_runScript_118 rfl (tl_ldcw dX10_runScript_120 kc_X10_263 (tl_irem dX10_runScript_123 (by decide) (tl_iV2 tl_ck10 rfl h1 (l10_command h1 e11) dX10_runScript_124 cs_X10_runScript_124 ⟨rfl, rfl⟩ ⟨Nat.zero_le _, Nat.zero_le _⟩ (Nat.le_of_ble_eq_true rfl) (tl_if_ne (tgt := 133) dX10_runScript_127 (by decide) (fun c14 => ?_) (fun c14 => ?_)))))))))
      · replace h := tl_in h c14
        refine tl_iincK dX10_runScript_133 rfl (ii_1 _) (Nat.le_of_ble_eq_true rfl) (fun x15 e => ?_)
        have h := tl_leteq e h
        clear e
        refine tl_goto (tgt := 86) dX10_runScript_136 (by decide) (?_)
        exact ih _ _ _ _ _ _ _ _ _ h1 h
      · replace h := tl_ip h c14
        exact tl_iload dX10_runScript_130 rfl (tl_iretE dX10_runScript_132 rfl rfl h)

theorem l10_runScript_p32 {E : tl_E} {a1 : Nat} {x2 : Int32} {x3 : Int64} {x4 : Int64}  {d3 : Option Value} {d5 : Option Value} {d6 : Option Value} {d7 : Option Value} {u : tl_S} {r : Int32} {v : tl_S} (h1 : tl_T E.2.1 a1 = some 10) (h : f10_runScript_p32 a1 x2 x3 x4 u = some (r, v)) : tl_R E mX10_runScript tl_X0 (tl_ZB E mX10_runScript (fun q w => q = some (.int r) ∧ w = v)) 0 0 (tl_HB E u) 32 [some (.ref a1), some (.int x2), some (.long x3), d3, some (.long x4), d5, d6, d7] [] := by
  unfold f10_runScript_p32 at h
  obtain ⟨x8, u7, e6, h⟩ := tl_b2i h
  refine tl_aload_n dX10_runScript_32 rfl (tl_iload_n dX10_runScript_33 rfl (tl_i2l dX10_runScript_34 (tl_lconst (v := 1) dX10_runScript_35 lc_1 (tl_ldc2 dX10_runScript_36 kl_X10_232 (tl_iS3 (l10_in  e6) dX10_runScript_39 cs_X10_runScript_39 ⟨rfl, rfl⟩ ⟨Nat.zero_le _, Nat.zero_le _⟩ (Nat.le_of_ble_eq_true rfl) (tl_if_eq (tgt := 61) dX10_runScript_42 (by decide) (fun c9 => ?_) (fun c9 => ?_)))))))
  · replace h := tl_ip h c9
    obtain ⟨x12, u11, e10, h⟩ := tl_b2i h
    refine tl_iconst (v := 1) dX10_runScript_61 ic_1 (tl_iV1 tl_ck10 rfl h1 (l10_refused h1 e10) dX10_runScript_62 cs_X10_runScript_62 ⟨rfl, rfl⟩ ⟨Nat.zero_le _, Nat.zero_le _⟩ (Nat.le_of_ble_eq_true rfl) (tl_if_eq (tgt := 70) dX10_runScript_65 (by decide) (fun c13 => ?_) (fun c13 => ?_)))
    · replace h := tl_ip h c13
      obtain ⟨u15, e14, h⟩ := tl_bi h
      refine tl_aload_n dX10_runScript_70 rfl (tl_getr (f := 3) (o := 2) tl_ck10 dX10_runScript_71 fl_X10_13 (Nat.le_of_ble_eq_true rfl) rfl h1 (tl_iconst (v := 0) dX10_runScript_74 ic_0 (tl_aload_n dX10_runScript_75 rfl (tl_getr (f := 4) (o := 3) tl_ck10 dX10_runScript_76 fl_X10_16 (Nat.le_of_ble_eq_true rfl) rfl h1 (tl_iconst (v := 0) dX10_runScript_79 ic_0 (tl_vS4 (l10_copyState (fun _ _ => rfl) (tt_10_3 h1) (fun _ _ => rfl) (tt_10_4 h1) e14) dX10_runScript_80 cs_X10_runScript_80 ⟨rfl, rfl⟩ ⟨Nat.zero_le _, Nat.zero_le _⟩ (Nat.le_of_ble_eq_true rfl) (tl_iconst (v := 0) dX10_runScript_83 ic_0 (tl_istore dX10_runScript_84 (Nat.le_of_ble_eq_true rfl) (?_)))))))))
      exact l10_runScript_p86 tl_F _ _ _ _ _ _ _ _ _ h1 h
    · replace h := tl_in h c13
      exact tl_iconst (v := 0) dX10_runScript_68 ic_0 (tl_iretE dX10_runScript_69 rfl rfl h)
  · replace h := tl_in h c9
    obtain ⟨x12, u11, e10, h⟩ := tl_b2i h
    refine tl_lload_n dX10_runScript_45 rfl (tl_lconst (v := 0) dX10_runScript_46 lc_0 (tl_lload dX10_runScript_47 rfl (tl_lconst (v := 1) dX10_runScript_49 lc_1 (tl_lsub dX10_runScript_50 (tl_iS3 (l10_in  e10) dX10_runScript_51 cs_X10_runScript_51 ⟨rfl, rfl⟩ ⟨Nat.zero_le _, Nat.zero_le _⟩ (Nat.le_of_ble_eq_true rfl) (tl_if_eq (tgt := 61) dX10_runScript_54 (by decide) (fun c13 => ?_) (fun c13 => ?_)))))))
    · replace h := tl_ip h c13
      obtain ⟨x16, u15, e14, h⟩ := tl_b2i h
      refine tl_iconst (v := 1) dX10_runScript_61 ic_1 (tl_iV1 tl_ck10 rfl h1 (l10_refused h1 e14) dX10_runScript_62 cs_X10_runScript_62 ⟨rfl, rfl⟩ ⟨Nat.zero_le _, Nat.zero_le _⟩ (Nat.le_of_ble_eq_true rfl) (tl_if_eq (tgt := 70) dX10_runScript_65 (by decide) (fun c17 => ?_) (fun c17 => ?_)))
      · replace h := tl_ip h c17
        obtain ⟨u19, e18, h⟩ := tl_bi h
        refine tl_aload_n dX10_runScript_70 rfl (tl_getr (f := 3) (o := 2) tl_ck10 dX10_runScript_71 fl_X10_13 (Nat.le_of_ble_eq_true rfl) rfl h1 (tl_iconst (v := 0) dX10_runScript_74 ic_0 (tl_aload_n dX10_runScript_75 rfl (tl_getr (f := 4) (o := 3) tl_ck10 dX10_runScript_76 fl_X10_16 (Nat.le_of_ble_eq_true rfl) rfl h1 (tl_iconst (v := 0) dX10_runScript_79 ic_0 (tl_vS4 (l10_copyState (fun _ _ => rfl) (tt_10_3 h1) (fun _ _ => rfl) (tt_10_4 h1) e18) dX10_runScript_80 cs_X10_runScript_80 ⟨rfl, rfl⟩ ⟨Nat.zero_le _, Nat.zero_le _⟩ (Nat.le_of_ble_eq_true rfl) (tl_iconst (v := 0) dX10_runScript_83 ic_0 (tl_istore dX10_runScript_84 (Nat.le_of_ble_eq_true rfl) (?_)))))))))
        exact l10_runScript_p86 tl_F _ _ _ _ _ _ _ _ _ h1 h
      · replace h := tl_in h c17
        exact tl_iconst (v := 0) dX10_runScript_68 ic_0 (tl_iretE dX10_runScript_69 rfl rfl h)
    · replace h := tl_in h c13
      obtain ⟨x16, u15, e14, h⟩ := tl_b2i h
      refine tl_iconst (v := 0) dX10_runScript_57 ic_0 (tl_goto (tgt := 62) dX10_runScript_58 (by decide) (tl_iV1 tl_ck10 rfl h1 (l10_refused h1 e14) dX10_runScript_62 cs_X10_runScript_62 ⟨rfl, rfl⟩ ⟨Nat.zero_le _, Nat.zero_le _⟩ (Nat.le_of_ble_eq_true rfl) (tl_if_eq (tgt := 70) dX10_runScript_65 (by decide) (fun c17 => ?_) (fun c17 => ?_))))
      · replace h := tl_ip h c17
        obtain ⟨u19, e18, h⟩ := tl_bi h
        refine tl_aload_n dX10_runScript_70 rfl (tl_getr (f := 3) (o := 2) tl_ck10 dX10_runScript_71 fl_X10_13 (Nat.le_of_ble_eq_true rfl) rfl h1 (tl_iconst (v := 0) dX10_runScript_74 ic_0 (tl_aload_n dX10_runScript_75 rfl (tl_getr (f := 4) (o := 3) tl_ck10 dX10_runScript_76 fl_X10_16 (Nat.le_of_ble_eq_true rfl) rfl h1 (tl_iconst (v := 0) dX10_runScript_79 ic_0 (tl_vS4 (l10_copyState (fun _ _ => rfl) (tt_10_3 h1) (fun _ _ => rfl) (tt_10_4 h1) e18) dX10_runScript_80 cs_X10_runScript_80 ⟨rfl, rfl⟩ ⟨Nat.zero_le _, Nat.zero_le _⟩ (Nat.le_of_ble_eq_true rfl) (tl_iconst (v := 0) dX10_runScript_83 ic_0 (tl_istore dX10_runScript_84 (Nat.le_of_ble_eq_true rfl) (?_)))))))))
        exact l10_runScript_p86 tl_F _ _ _ _ _ _ _ _ _ h1 h
      · replace h := tl_in h c17
        exact tl_iconst (v := 0) dX10_runScript_68 ic_0 (tl_iretE dX10_runScript_69 rfl rfl h)

theorem l10_runScript_p6 {E : tl_E}  {r : Int32} {v : tl_S} : ∀ (n : Nat) (a1 : Nat) (x2 : Int32) (x3 : Int64) (x4 : Int64) (x5 : Int32) (u : tl_S) (d3 : Option Value) (d5 : Option Value) (d7 : Option Value), tl_T E.2.1 a1 = some 10 → f10_runScript_p6 n a1 x2 x3 x4 x5 u = some (r, v) → tl_R E mX10_runScript tl_X0 (tl_ZB E mX10_runScript (fun q w => q = some (.int r) ∧ w = v)) 0 0 (tl_HB E u) 6 [some (.ref a1), some (.int x2), some (.long x3), d3, some (.long x4), d5, some (.int x5), d7] [] := by
  intro n
  induction n with
  | zero => intro a1 x2 x3 x4 x5 u d3 d5 d7 h1 h; exact absurd h (by simp [f10_runScript_p6])
  | succ n ih =>
    intro a1 x2 x3 x4 x5 u d3 d5 d7 h1 h
    rw [f10_runScript_p6] at h
    refine tl_iload dX10_runScript_6 rfl (tl_iload_n dX10_runScript_8 rfl (tl_icmp_ge (tgt := 32) dX10_runScript_9 (by decide) (fun c7 => ?_) (fun c7 => ?_)))
    · replace h := tl_ip h c7
      exact l10_runScript_p32 h1 h
    · replace h := tl_in h c7
      refine tl_iload dX10_runScript_12 rfl (tl_iconst (v := 3) dX10_runScript_14 ic_3 (tl_icmp_ge (tgt := 32) dX10_runScript_15 (by decide) (fun c8 => ?_) (fun c8 => ?_)))
      · replace h := tl_ip h c8
        exact l10_runScript_p32 h1 h
      · replace h := tl_in h c8
        refine tl_lload dX10_runScript_18 rfl (tl_ldc2 dX10_runScript_20 kl_X10_261 (tl_lmul dX10_runScript_23 (tl_lsto dX10_runScript_24 (Nat.le_of_ble_eq_true rfl) (fun x9 e => ?_))))
        have h := tl_leteq e h
        clear e
        refine tl_iincK dX10_runScript_26 rfl (ii_1 _) (Nat.le_of_ble_eq_true rfl) (fun x10 e => ?_)
        have h := tl_leteq e h
        clear e
        refine tl_goto (tgt := 6) dX10_runScript_29 (by decide) (?_)
        exact ih _ _ _ _ _ _ _ _ _ h1 h

theorem l10_runScript {E : tl_E} {a0 : Nat} {x1 : Int32} {x2 : Int64}  {u : tl_S} {r : Int32} {v : tl_S} (h0 : tl_T E.2.1 a0 = some 10) (h : f10_runScript a0 x1 x2 u = some (r, v)) : tl_MB E mX10_runScript [.ref a0, .int x1, .long x2] u (fun q w => q = some (.int r) ∧ w = v) := by
  unfold f10_runScript at h
  refine tl_start [some (.ref a0), some (.int x1), some (.long x2), none, none, none, none, none] rfl rfl rfl (Nat.le_of_ble_eq_true rfl) ?_
  refine tl_lconst (v := 1) dX10_runScript_0 lc_1 (tl_lstore dX10_runScript_1 (Nat.le_of_ble_eq_true rfl) (tl_iconst (v := 0) dX10_runScript_3 ic_0 (tl_istore dX10_runScript_4 (Nat.le_of_ble_eq_true rfl) (?_))))
  exact l10_runScript_p6 tl_F _ _ _ _ _ _ _ _ _ h0 h

theorem cs_X10_turnThing_155 : tl_cS mX10_turnThing mX10_storeOn 202 2 := ⟨cd_X10_storeOn, ml_X10_202, sm_X10_storeOn, in_X10, ⟨by decide, by decide, by decide +kernel⟩, Nat.le_of_ble_eq_true rfl, Nat.le_of_ble_eq_true rfl⟩
theorem cs_X10_turnThing_86 : tl_cS mX10_turnThing mX10_canLamp 174 3 := ⟨cd_X10_canLamp, ml_X10_174, sm_X10_canLamp, in_X10, ⟨by decide, by decide, by decide +kernel⟩, Nat.le_of_ble_eq_true rfl, Nat.le_of_ble_eq_true rfl⟩
theorem cs_X10_turnThing_121 : tl_cS mX10_turnThing mX10_lampOn 177 5 := ⟨cd_X10_lampOn, ml_X10_177, sm_X10_lampOn, in_X10, ⟨by decide, by decide, by decide +kernel⟩, Nat.le_of_ble_eq_true rfl, Nat.le_of_ble_eq_true rfl⟩
theorem cs_X10_turnThing_45 : tl_cS mX10_turnThing mX10_canMiner 193 2 := ⟨cd_X10_canMiner, ml_X10_193, sm_X10_canMiner, in_X10, ⟨by decide, by decide, by decide +kernel⟩, Nat.le_of_ble_eq_true rfl, Nat.le_of_ble_eq_true rfl⟩
theorem cs_X10_turnThing_63 : tl_cS mX10_turnThing mX10_minerOn 196 3 := ⟨cd_X10_minerOn, ml_X10_196, sm_X10_minerOn, in_X10, ⟨by decide, by decide, by decide +kernel⟩, Nat.le_of_ble_eq_true rfl, Nat.le_of_ble_eq_true rfl⟩
theorem cs_X10_turnThing_28 : tl_cS mX10_turnThing mX10_galleryOn 190 2 := ⟨cd_X10_galleryOn, ml_X10_190, sm_X10_galleryOn, in_X10, ⟨by decide, by decide, by decide +kernel⟩, Nat.le_of_ble_eq_true rfl, Nat.le_of_ble_eq_true rfl⟩
def f10_turnThing (a0 : Nat) (x1 : Int32) (x2 : Int32) (u : tl_S) : Option (tl_S) :=
  tl_let ((x2 - x2 / 3 * 3)) (fun x4 => (if x1 = 0 then (if 3 ≤ (u.1 (a0 + 3) 0) then some u else tl_b2 (f10_galleryOn (a0 + 3) (1 + (x2 - x2 / 30 * 30)) u) (fun x9 u8 => some u8)) else (if 3 ≤ x1 then (if x1 = 3 then tl_b2 (f10_canLamp (a0 + 3) x4 ((x2 / 4) - (x2 / 4) / 30 * 30) u) (fun x10 u9 => (if x10 = 0 then some u9 else tl_b2 (f10_lampOn (a0 + 3) x4 ((x2 / 4) - (x2 / 4) / 30 * 30) (1 + ((x2 / 128) - (x2 / 128) / 9 * 9)) ((x2 / 2048) - (x2 / 2048) / 100 * 100) u9) (fun x14 u13 => some u13))) else (if 9999 < ((u.1 (a0 + 3) 4) + (x2 - x2 / 200 * 200)) then some u else tl_b2 (f10_storeOn (a0 + 3) (x2 - x2 / 200 * 200) u) (fun x11 u10 => some u10))) else tl_b2 (f10_canMiner (a0 + 3) x4 u) (fun x9 u8 => (if x9 = 0 then some u8 else tl_b2 (f10_minerOn (a0 + 3) x4 (1 + ((x2 / 4) - (x2 / 4) / 5 * 5)) u8) (fun x13 u12 => some u12))))))

theorem l10_turnThing {E : tl_E} {a0 : Nat} {x1 : Int32} {x2 : Int32}  {u : tl_S} {v : tl_S} (h0 : tl_T E.2.1 a0 = some 10) (h : f10_turnThing a0 x1 x2 u = some v) : tl_MB E mX10_turnThing [.ref a0, .int x1, .int x2] u (fun q w => q = none ∧ w = v) := by
  unfold f10_turnThing at h
  refine tl_start [some (.ref a0), some (.int x1), some (.int x2), none] rfl rfl rfl (Nat.le_of_ble_eq_true rfl) ?_
  refine tl_iload_n dX10_turnThing_0 rfl (tl_iconst (v := 3) dX10_turnThing_1 ic_3 (tl_irem dX10_turnThing_2 (by decide) (tl_isto_n dX10_turnThing_3 (Nat.le_of_ble_eq_true rfl) (fun x4 e => ?_))))
  have h := tl_leteq e h
  clear e
  refine tl_iload_n dX10_turnThing_4 rfl (tl_if_ne (tgt := 35) dX10_turnThing_5 (by decide) (fun c5 => ?_) (fun c5 => ?_))
  · replace h := tl_in h c5
    refine tl_iload_n dX10_turnThing_35 rfl (tl_iconst (v := 3) dX10_turnThing_36 ic_3 (tl_icmp_ge (tgt := 70) dX10_turnThing_37 (by decide) (fun c6 => ?_) (fun c6 => ?_)))
    · replace h := tl_ip h c6
      refine tl_iload_n dX10_turnThing_70 rfl (tl_iconst (v := 3) dX10_turnThing_71 ic_3 (tl_icmp_ne (tgt := 128) dX10_turnThing_72 (by decide) (fun c7 => ?_) (fun c7 => ?_)))
      · replace h := tl_in h c7
        refine tl_aload_n dX10_turnThing_128 rfl (tl_getr (f := 4) (o := 3) tl_ck10 dX10_turnThing_129 fl_X10_16 (Nat.le_of_ble_eq_true rfl) rfl h0 (tl_iconst (v := 4) dX10_turnThing_132 ic_4 (tl_iald (j := 4) (fun _ _ => rfl) dX10_turnThing_133 (tt_10_4 h0) (li_4 104 rfl) lx_4 (tl_iload_n dX10_turnThing_134 rfl (tl_sipush (v := 200) dX10_turnThing_135 sp_200 (tl_irem dX10_turnThing_138 (by decide) (tl_iadd dX10_turnThing_139 (tl_sipush (v := 9999) dX10_turnThing_140 sp_9999 (tl_icmp_gt (tgt := 159) dX10_turnThing_143 (by decide) (fun c8 => ?_) (fun c8 => ?_))))))))))
        · replace h := tl_ip h c8
          exact tl_vretE dX10_turnThing_159 rfl h
        · replace h := tl_in h c8
          obtain ⟨x11, u10, e9, h⟩ := tl_b2i h
          exact tl_aload_n dX10_turnThing_146 rfl (tl_getr (f := 4) (o := 3) tl_ck10 dX10_turnThing_147 fl_X10_16 (Nat.le_of_ble_eq_true rfl) rfl h0 (tl_iload_n dX10_turnThing_150 rfl (tl_sipush (v := 200) dX10_turnThing_151 sp_200 (tl_irem dX10_turnThing_154 (by decide) (tl_iS2 (l10_storeOn (tt_10_4 h0) e9) dX10_turnThing_155 cs_X10_turnThing_155 ⟨rfl, rfl⟩ ⟨Nat.zero_le _, Nat.zero_le _⟩ (Nat.le_of_ble_eq_true rfl) (tl_pop dX10_turnThing_158 rfl (tl_vretE dX10_turnThing_159 rfl h)))))))
      · replace h := tl_ip h c7
        obtain ⟨x10, u9, e8, h⟩ := tl_b2i h
        refine tl_aload_n dX10_turnThing_75 rfl (tl_getr (f := 4) (o := 3) tl_ck10 dX10_turnThing_76 fl_X10_16 (Nat.le_of_ble_eq_true rfl) rfl h0 (tl_iload_n dX10_turnThing_79 rfl (tl_iload_n dX10_turnThing_80 rfl (tl_iconst (v := 4) dX10_turnThing_81 ic_4 (tl_idiv dX10_turnThing_82 (by decide) (tl_bipush (v := 30) dX10_turnThing_83 bp_30 (tl_irem dX10_turnThing_85 (by decide) (tl_iS3 (l10_canLamp (tt_10_4 h0) e8) dX10_turnThing_86 cs_X10_turnThing_86 ⟨rfl, rfl⟩ ⟨Nat.zero_le _, Nat.zero_le _⟩ (Nat.le_of_ble_eq_true rfl) (tl_if_eq (tgt := 159) dX10_turnThing_89 (by decide) (fun c11 => ?_) (fun c11 => ?_))))))))))
        · replace h := tl_ip h c11
          exact tl_vretE dX10_turnThing_159 rfl h
        · replace h := tl_in h c11
          obtain ⟨x14, u13, e12, h⟩ := tl_b2i h
          exact tl_aload_n dX10_turnThing_92 rfl (tl_getr (f := 4) (o := 3) tl_ck10 dX10_turnThing_93 fl_X10_16 (Nat.le_of_ble_eq_true rfl) rfl h0 (tl_iload_n dX10_turnThing_96 rfl (tl_iload_n dX10_turnThing_97 rfl (tl_iconst (v := 4) dX10_turnThing_98 ic_4 (tl_idiv dX10_turnThing_99 (by decide) (tl_bipush (v := 30) dX10_turnThing_100 bp_30 (tl_irem dX10_turnThing_102 (by decide) (tl_iconst (v := 1) dX10_turnThing_103 ic_1 (tl_iload_n dX10_turnThing_104 rfl (tl_sipush (v := 128) dX10_turnThing_105 sp_128 (tl_idiv dX10_turnThing_108 (by decide) (tl_bipush (v := 9) dX10_turnThing_109 bp_9 (tl_irem dX10_turnThing_111 (by decide) (tl_iadd dX10_turnThing_112 (tl_iload_n dX10_turnThing_113 rfl (tl_sipush (v := 2048) dX10_turnThing_114 sp_2048 (tl_idiv dX10_turnThing_117 (by decide) (tl_bipush (v := 100) dX10_turnThing_118 bp_100 (tl_irem dX10_turnThing_120 (by decide) (tl_iS5 (l10_lampOn (tt_10_4 h0) e12) dX10_turnThing_121 cs_X10_turnThing_121 ⟨rfl, rfl⟩ ⟨Nat.zero_le _, Nat.zero_le _⟩ (Nat.le_of_ble_eq_true rfl) (tl_pop dX10_turnThing_124 rfl (tl_goto (tgt := 159) dX10_turnThing_125 (by decide) (tl_vretE dX10_turnThing_159 rfl h)))))))))))))))))))))))
    · replace h := tl_in h c6
      obtain ⟨x9, u8, e7, h⟩ := tl_b2i h
      refine tl_aload_n dX10_turnThing_40 rfl (tl_getr (f := 4) (o := 3) tl_ck10 dX10_turnThing_41 fl_X10_16 (Nat.le_of_ble_eq_true rfl) rfl h0 (tl_iload_n dX10_turnThing_44 rfl (tl_iS2 (l10_canMiner (tt_10_4 h0) e7) dX10_turnThing_45 cs_X10_turnThing_45 ⟨rfl, rfl⟩ ⟨Nat.zero_le _, Nat.zero_le _⟩ (Nat.le_of_ble_eq_true rfl) (tl_if_eq (tgt := 159) dX10_turnThing_48 (by decide) (fun c10 => ?_) (fun c10 => ?_)))))
      · replace h := tl_ip h c10
        exact tl_vretE dX10_turnThing_159 rfl h
      · replace h := tl_in h c10
        obtain ⟨x13, u12, e11, h⟩ := tl_b2i h
        exact tl_aload_n dX10_turnThing_51 rfl (tl_getr (f := 4) (o := 3) tl_ck10 dX10_turnThing_52 fl_X10_16 (Nat.le_of_ble_eq_true rfl) rfl h0 (tl_iload_n dX10_turnThing_55 rfl (tl_iconst (v := 1) dX10_turnThing_56 ic_1 (tl_iload_n dX10_turnThing_57 rfl (tl_iconst (v := 4) dX10_turnThing_58 ic_4 (tl_idiv dX10_turnThing_59 (by decide) (tl_iconst (v := 5) dX10_turnThing_60 ic_5 (tl_irem dX10_turnThing_61 (by decide) (tl_iadd dX10_turnThing_62 (tl_iS3 (l10_minerOn (tt_10_4 h0) e11) dX10_turnThing_63 cs_X10_turnThing_63 ⟨rfl, rfl⟩ ⟨Nat.zero_le _, Nat.zero_le _⟩ (Nat.le_of_ble_eq_true rfl) (tl_pop dX10_turnThing_66 rfl (tl_goto (tgt := 159) dX10_turnThing_67 (by decide) (tl_vretE dX10_turnThing_159 rfl h)))))))))))))
  · replace h := tl_ip h c5
    refine tl_aload_n dX10_turnThing_8 rfl (tl_getr (f := 4) (o := 3) tl_ck10 dX10_turnThing_9 fl_X10_16 (Nat.le_of_ble_eq_true rfl) rfl h0 (tl_iconst (v := 0) dX10_turnThing_12 ic_0 (tl_iald (j := 0) (fun _ _ => rfl) dX10_turnThing_13 (tt_10_4 h0) (li_0 104 rfl) lx_0 (tl_iconst (v := 3) dX10_turnThing_14 ic_3 (tl_icmp_ge (tgt := 159) dX10_turnThing_15 (by decide) (fun c6 => ?_) (fun c6 => ?_))))))
    · replace h := tl_ip h c6
      exact tl_vretE dX10_turnThing_159 rfl h
    · replace h := tl_in h c6
      obtain ⟨x9, u8, e7, h⟩ := tl_b2i h
      exact tl_aload_n dX10_turnThing_18 rfl (tl_getr (f := 4) (o := 3) tl_ck10 dX10_turnThing_19 fl_X10_16 (Nat.le_of_ble_eq_true rfl) rfl h0 (tl_iconst (v := 1) dX10_turnThing_22 ic_1 (tl_iload_n dX10_turnThing_23 rfl (tl_bipush (v := 30) dX10_turnThing_24 bp_30 (tl_irem dX10_turnThing_26 (by decide) (tl_iadd dX10_turnThing_27 (tl_iS2 (l10_galleryOn (tt_10_4 h0) e7) dX10_turnThing_28 cs_X10_turnThing_28 ⟨rfl, rfl⟩ ⟨Nat.zero_le _, Nat.zero_le _⟩ (Nat.le_of_ble_eq_true rfl) (tl_pop dX10_turnThing_31 rfl (tl_goto (tgt := 159) dX10_turnThing_32 (by decide) (tl_vretE dX10_turnThing_159 rfl h))))))))))

theorem cs_X10_turnOrder_196 : tl_cV mX10_turnOrder mX10_sends 258 2 := ⟨cd_X10_sends, ml_X10_258, im_X10_sends, se_X10_sends, in_X10, ⟨by decide, by decide, by decide +kernel⟩, Nat.le_of_ble_eq_true rfl, Nat.le_of_ble_eq_true rfl⟩
theorem cs_X10_turnOrder_85 : tl_cS mX10_turnOrder mX10_canFill 208 3 := ⟨cd_X10_canFill, ml_X10_208, sm_X10_canFill, in_X10, ⟨by decide, by decide, by decide +kernel⟩, Nat.le_of_ble_eq_true rfl, Nat.le_of_ble_eq_true rfl⟩
theorem cs_X10_turnOrder_110 : tl_cS mX10_turnOrder mX10_orderOn 120 5 := ⟨cd_X10_orderOn, ml_X10_120, sm_X10_orderOn, in_X10, ⟨by decide, by decide, by decide +kernel⟩, Nat.le_of_ble_eq_true rfl, Nat.le_of_ble_eq_true rfl⟩
theorem cs_X10_turnOrder_27 : tl_cS mX10_turnOrder mX10_canHang 187 4 := ⟨cd_X10_canHang, ml_X10_187, sm_X10_canHang, in_X10, ⟨by decide, by decide, by decide +kernel⟩, Nat.le_of_ble_eq_true rfl, Nat.le_of_ble_eq_true rfl⟩
theorem cs_X10_turnOrder_55 : tl_cS mX10_turnOrder mX10_orderOn 120 5 := ⟨cd_X10_orderOn, ml_X10_120, sm_X10_orderOn, in_X10, ⟨by decide, by decide, by decide +kernel⟩, Nat.le_of_ble_eq_true rfl, Nat.le_of_ble_eq_true rfl⟩
def f10_turnOrder_p152 (a1 : Nat) (x2 : Int32) (x3 : Int32) (x4 : Int32) (a5 : Nat) (u : tl_S) : Option (tl_S) :=
  tl_g (¬ (x4 < 0 ∨ 104 ≤ x4.toNatClampNeg)) (tl_let ((tl_u u.1 a5 x4.toNatClampNeg x3, u.2) : tl_S) (fun u8 => (if ((x2 / 16) - (x2 / 16) / 2 * 2) = 0 then tl_let ((tl_u u8.1 (a1 + 3) 17 (u8.1 (a1 + 3) 17), u8.2) : tl_S) (fun u10 => some u10) else tl_let ((tl_u u8.1 (a1 + 3) 17 (x2 - x2 / 2 * 2), u8.2) : tl_S) (fun u10 => some u10))))

def f10_turnOrder (a0 : Nat) (x1 : Int32) (x2 : Int32) (u : tl_S) : Option (tl_S) :=
  (if 7 ≤ x1 then (if x1 = 7 then tl_b2 (f10_canFill (a0 + 3) (x2 - x2 / 8 * 8) (1 + ((x2 / 8) - (x2 / 8) / 99 * 99)) u) (fun x8 u7 => (if x8 = 0 then some u7 else tl_b2 (f10_orderOn (a0 + 3) 1 (x2 - x2 / 8 * 8) (1 + ((x2 / 8) - (x2 / 8) / 99 * 99)) (-1) u7) (fun x12 u11 => some u11))) else (if x1 = 8 then (if ((x2 / 16) - (x2 / 16) / 2 * 2) = 0 then f10_turnOrder_p152 a0 x2 ((x2 - x2 / 13 * 13)) 16 ((a0 + 3)) u else f10_turnOrder_p152 a0 x2 ((u.1 (a0 + 3) 16)) 16 ((a0 + 3)) u) else tl_b2 (f10_sends a0 (x2 - x2 / 6 * 6) ((x2 / 8) - (x2 / 8) / 3 * 3) u) (fun x9 u8 => some u8))) else tl_b2 (f10_canHang (a0 + 3) (x2 - x2 / 8 * 8) ((x2 / 8) - (x2 / 8) / 3 * 3) ((x2 / 32) - (x2 / 32) / 40 * 40) u) (fun x7 u6 => (if x7 = 0 then some u6 else tl_b2 (f10_orderOn (a0 + 3) 0 (x2 - x2 / 8 * 8) ((x2 / 8) - (x2 / 8) / 3 * 3) ((x2 / 32) - (x2 / 32) / 40 * 40) u6) (fun x11 u10 => some u10))))

theorem l10_turnOrder_p152 {E : tl_E} {a1 : Nat} {x2 : Int32} {x3 : Int32} {x4 : Int32} {a5 : Nat}  {d1 : Option Value} {u : tl_S} {v : tl_S} (h1 : tl_T E.2.1 a1 = some 10) (h5 : tl_T E.2.1 a5 = some 13) (h : f10_turnOrder_p152 a1 x2 x3 x4 a5 u = some v) : tl_R E mX10_turnOrder tl_X0 (tl_ZB E mX10_turnOrder (fun q w => q = none ∧ w = v)) 0 0 (tl_HB E u) 152 [some (.ref a1), d1, some (.int x2)] [.int x3, .int x4, .ref a5] := by
  unfold f10_turnOrder_p152 at h
  obtain ⟨g7, h⟩ := tl_gi h
  refine tl_iastK (fun _ _ => rfl) dX10_turnOrder_152 h5 (x4.toNatClampNeg) g7 rfl (fun u8 e => ?_)
  have h := tl_leteq e h
  clear e
  refine tl_aload_n dX10_turnOrder_153 rfl (tl_getr (f := 4) (o := 3) tl_ck10 dX10_turnOrder_154 fl_X10_16 (Nat.le_of_ble_eq_true rfl) rfl h1 (tl_bipush (v := 17) dX10_turnOrder_157 bp_17 (tl_iload_n dX10_turnOrder_159 rfl (tl_bipush (v := 16) dX10_turnOrder_160 bp_16 (tl_idiv dX10_turnOrder_162 (by decide) (tl_iconst (v := 2) dX10_turnOrder_163 ic_2 (tl_irem dX10_turnOrder_164 (by decide) (tl_if_ne (tgt := 178) dX10_turnOrder_165 (by decide) (fun c9 => ?_) (fun c9 => ?_)))))))))
  · replace h := tl_in h c9
    refine tl_iload_n dX10_turnOrder_178 rfl (tl_iconst (v := 2) dX10_turnOrder_179 ic_2 (tl_irem dX10_turnOrder_180 (by decide) (tl_iastK (fun _ _ => rfl) dX10_turnOrder_181 (tt_10_4 h1) (17) (li_17 104 rfl) lx_17 (fun u10 e => ?_))))
    have h := tl_leteq e h
    clear e
    exact tl_goto (tgt := 200) dX10_turnOrder_182 (by decide) (tl_vretE dX10_turnOrder_200 rfl h)
  · replace h := tl_ip h c9
    refine tl_aload_n dX10_turnOrder_168 rfl (tl_getr (f := 4) (o := 3) tl_ck10 dX10_turnOrder_169 fl_X10_16 (Nat.le_of_ble_eq_true rfl) rfl h1 (tl_bipush (v := 17) dX10_turnOrder_172 bp_17 (tl_iald (j := 17) (fun _ _ => rfl) dX10_turnOrder_174 (tt_10_4 h1) (li_17 104 rfl) lx_17 (tl_goto (tgt := 181) dX10_turnOrder_175 (by decide) (tl_iastK (fun _ _ => rfl) dX10_turnOrder_181 (tt_10_4 h1) (17) (li_17 104 rfl) lx_17 (fun u10 e => ?_))))))
    have h := tl_leteq e h
    clear e
    exact tl_goto (tgt := 200) dX10_turnOrder_182 (by decide) (tl_vretE dX10_turnOrder_200 rfl h)

theorem l10_turnOrder {E : tl_E} {a0 : Nat} {x1 : Int32} {x2 : Int32}  {u : tl_S} {v : tl_S} (h0 : tl_T E.2.1 a0 = some 10) (h : f10_turnOrder a0 x1 x2 u = some v) : tl_MB E mX10_turnOrder [.ref a0, .int x1, .int x2] u (fun q w => q = none ∧ w = v) := by
  unfold f10_turnOrder at h
  refine tl_start [some (.ref a0), some (.int x1), some (.int x2)] rfl rfl rfl (Nat.le_of_ble_eq_true rfl) ?_
  refine tl_iload_n dX10_turnOrder_0 rfl (tl_bipush (v := 7) dX10_turnOrder_1 bp_7 (tl_icmp_ge (tgt := 62) dX10_turnOrder_3 (by decide) (fun c4 => ?_) (fun c4 => ?_)))
  · replace h := tl_ip h c4
    refine tl_iload_n dX10_turnOrder_62 rfl (tl_bipush (v := 7) dX10_turnOrder_63 bp_7 (tl_icmp_ne (tgt := 117) dX10_turnOrder_65 (by decide) (fun c5 => ?_) (fun c5 => ?_)))
    · replace h := tl_in h c5
      refine tl_iload_n dX10_turnOrder_117 rfl (tl_bipush (v := 8) dX10_turnOrder_118 bp_8 (tl_icmp_ne (tgt := 185) dX10_turnOrder_120 (by decide) (fun c6 => ?_) (fun c6 => ?_)))
      · replace h := tl_in h c6
        obtain ⟨x9, u8, e7, h⟩ := tl_b2i h
        exact tl_aload_n dX10_turnOrder_185 rfl (tl_iload_n dX10_turnOrder_186 rfl (tl_bipush (v := 6) dX10_turnOrder_187 bp_6 (tl_irem dX10_turnOrder_189 (by decide) (tl_iload_n dX10_turnOrder_190 rfl (tl_bipush (v := 8) dX10_turnOrder_191 bp_8 (tl_idiv dX10_turnOrder_193 (by decide) (tl_iconst (v := 3) dX10_turnOrder_194 ic_3 (tl_irem dX10_turnOrder_195 (by decide) (tl_iV2 tl_ck10 rfl h0 (l10_sends h0 e7) dX10_turnOrder_196 cs_X10_turnOrder_196 ⟨rfl, rfl⟩ ⟨Nat.zero_le _, Nat.zero_le _⟩ (Nat.le_of_ble_eq_true rfl) (tl_pop dX10_turnOrder_199 rfl (tl_vretE dX10_turnOrder_200 rfl h)))))))))))
      · replace h := tl_ip h c6
        refine tl_aload_n dX10_turnOrder_123 rfl (tl_getr (f := 4) (o := 3) tl_ck10 dX10_turnOrder_124 fl_X10_16 (Nat.le_of_ble_eq_true rfl) rfl h0 (tl_bipush (v := 16) dX10_turnOrder_127 bp_16 (tl_iload_n dX10_turnOrder_129 rfl (tl_bipush (v := 16) dX10_turnOrder_130 bp_16 (tl_idiv dX10_turnOrder_132 (by decide) (tl_iconst (v := 2) dX10_turnOrder_133 ic_2 (tl_irem dX10_turnOrder_134 (by decide) (tl_if_ne (tgt := 145) dX10_turnOrder_135 (by decide) (fun c7 => ?_) (fun c7 => ?_)))))))))
        · replace h := tl_in h c7
          refine tl_aload_n dX10_turnOrder_145 rfl (tl_getr (f := 4) (o := 3) tl_ck10 dX10_turnOrder_146 fl_X10_16 (Nat.le_of_ble_eq_true rfl) rfl h0 (tl_bipush (v := 16) dX10_turnOrder_149 bp_16 (tl_iald (j := 16) (fun _ _ => rfl) dX10_turnOrder_151 (tt_10_4 h0) (li_16 104 rfl) lx_16 (?_))))
          exact l10_turnOrder_p152 h0 (tt_10_4 h0) h
        · replace h := tl_ip h c7
          refine tl_iload_n dX10_turnOrder_138 rfl (tl_bipush (v := 13) dX10_turnOrder_139 bp_13 (tl_irem dX10_turnOrder_141 (by decide) (tl_goto (tgt := 152) dX10_turnOrder_142 (by decide) (?_))))
          exact l10_turnOrder_p152 h0 (tt_10_4 h0) h
    · replace h := tl_ip h c5
      obtain ⟨x8, u7, e6, h⟩ := tl_b2i h
      refine tl_aload_n dX10_turnOrder_68 rfl (tl_getr (f := 4) (o := 3) tl_ck10 dX10_turnOrder_69 fl_X10_16 (Nat.le_of_ble_eq_true rfl) rfl h0 (tl_iload_n dX10_turnOrder_72 rfl (tl_bipush (v := 8) dX10_turnOrder_73 bp_8 (tl_irem dX10_turnOrder_75 (by decide) (tl_iconst (v := 1) dX10_turnOrder_76 ic_1 (tl_iload_n dX10_turnOrder_77 rfl (tl_bipush (v := 8) dX10_turnOrder_78 bp_8 (tl_idiv dX10_turnOrder_80 (by decide) (tl_bipush (v := 99) dX10_turnOrder_81 bp_99 (tl_irem dX10_turnOrder_83 (by decide) (tl_iadd dX10_turnOrder_84 (tl_iS3 (l10_canFill (tt_10_4 h0) e6) dX10_turnOrder_85 cs_X10_turnOrder_85 ⟨rfl, rfl⟩ ⟨Nat.zero_le _, Nat.zero_le _⟩ (Nat.le_of_ble_eq_true rfl) (tl_if_eq (tgt := 200) dX10_turnOrder_88 (by decide) (fun c9 => ?_) (fun c9 => ?_))))))))))))))
      · replace h := tl_ip h c9
        exact tl_vretE dX10_turnOrder_200 rfl h
      · replace h := tl_in h c9
        obtain ⟨x12, u11, e10, h⟩ := tl_b2i h
        exact tl_aload_n dX10_turnOrder_91 rfl (tl_getr (f := 4) (o := 3) tl_ck10 dX10_turnOrder_92 fl_X10_16 (Nat.le_of_ble_eq_true rfl) rfl h0 (tl_iconst (v := 1) dX10_turnOrder_95 ic_1 (tl_iload_n dX10_turnOrder_96 rfl (tl_bipush (v := 8) dX10_turnOrder_97 bp_8 (tl_irem dX10_turnOrder_99 (by decide) (tl_iconst (v := 1) dX10_turnOrder_100 ic_1 (tl_iload_n dX10_turnOrder_101 rfl (tl_bipush (v := 8) dX10_turnOrder_102 bp_8 (tl_idiv dX10_turnOrder_104 (by decide) (tl_bipush (v := 99) dX10_turnOrder_105 bp_99 (tl_irem dX10_turnOrder_107 (by decide) (tl_iadd dX10_turnOrder_108 (tl_iconst (v := (-1)) dX10_turnOrder_109 ic_m1 (tl_iS5 (l10_orderOn (tt_10_4 h0) e10) dX10_turnOrder_110 cs_X10_turnOrder_110 ⟨rfl, rfl⟩ ⟨Nat.zero_le _, Nat.zero_le _⟩ (Nat.le_of_ble_eq_true rfl) (tl_pop dX10_turnOrder_113 rfl (tl_goto (tgt := 200) dX10_turnOrder_114 (by decide) (tl_vretE dX10_turnOrder_200 rfl h)))))))))))))))))
  · replace h := tl_in h c4
    obtain ⟨x7, u6, e5, h⟩ := tl_b2i h
    refine tl_aload_n dX10_turnOrder_6 rfl (tl_getr (f := 4) (o := 3) tl_ck10 dX10_turnOrder_7 fl_X10_16 (Nat.le_of_ble_eq_true rfl) rfl h0 (tl_iload_n dX10_turnOrder_10 rfl (tl_bipush (v := 8) dX10_turnOrder_11 bp_8 (tl_irem dX10_turnOrder_13 (by decide) (tl_iload_n dX10_turnOrder_14 rfl (tl_bipush (v := 8) dX10_turnOrder_15 bp_8 (tl_idiv dX10_turnOrder_17 (by decide) (tl_iconst (v := 3) dX10_turnOrder_18 ic_3 (tl_irem dX10_turnOrder_19 (by decide) (tl_iload_n dX10_turnOrder_20 rfl (tl_bipush (v := 32) dX10_turnOrder_21 bp_32 (tl_idiv dX10_turnOrder_23 (by decide) (tl_bipush (v := 40) dX10_turnOrder_24 bp_40 (tl_irem dX10_turnOrder_26 (by decide) (tl_iS4 (l10_canHang (tt_10_4 h0) e5) dX10_turnOrder_27 cs_X10_turnOrder_27 ⟨rfl, rfl⟩ ⟨Nat.zero_le _, Nat.zero_le _⟩ (Nat.le_of_ble_eq_true rfl) (tl_if_eq (tgt := 200) dX10_turnOrder_30 (by decide) (fun c8 => ?_) (fun c8 => ?_)))))))))))))))))
    · replace h := tl_ip h c8
      exact tl_vretE dX10_turnOrder_200 rfl h
    · replace h := tl_in h c8
      obtain ⟨x11, u10, e9, h⟩ := tl_b2i h
      exact tl_aload_n dX10_turnOrder_33 rfl (tl_getr (f := 4) (o := 3) tl_ck10 dX10_turnOrder_34 fl_X10_16 (Nat.le_of_ble_eq_true rfl) rfl h0 (tl_iconst (v := 0) dX10_turnOrder_37 ic_0 (tl_iload_n dX10_turnOrder_38 rfl (tl_bipush (v := 8) dX10_turnOrder_39 bp_8 (tl_irem dX10_turnOrder_41 (by decide) (tl_iload_n dX10_turnOrder_42 rfl (tl_bipush (v := 8) dX10_turnOrder_43 bp_8 (tl_idiv dX10_turnOrder_45 (by decide) (tl_iconst (v := 3) dX10_turnOrder_46 ic_3 (tl_irem dX10_turnOrder_47 (by decide) (tl_iload_n dX10_turnOrder_48 rfl (tl_bipush (v := 32) dX10_turnOrder_49 bp_32 (tl_idiv dX10_turnOrder_51 (by decide) (tl_bipush (v := 40) dX10_turnOrder_52 bp_40 (tl_irem dX10_turnOrder_54 (by decide) (tl_iS5 (l10_orderOn (tt_10_4 h0) e9) dX10_turnOrder_55 cs_X10_turnOrder_55 ⟨rfl, rfl⟩ ⟨Nat.zero_le _, Nat.zero_le _⟩ (Nat.le_of_ble_eq_true rfl) (tl_pop dX10_turnOrder_58 rfl (tl_goto (tgt := 200) dX10_turnOrder_59 (by decide) (tl_vretE dX10_turnOrder_200 rfl h)))))))))))))))))))

theorem cs_X10_simulate_7 : tl_cS mX10_simulate mX10_in 37 3 := ⟨cd_X10_in, ml_X10_37, sm_X10_in, in_X10, ⟨by decide, by decide, by decide +kernel⟩, Nat.le_of_ble_eq_true rfl, Nat.le_of_ble_eq_true rfl⟩
theorem cs_X10_simulate_18 : tl_cV mX10_simulate mX10_refused 152 1 := ⟨cd_X10_refused, ml_X10_152, im_X10_refused, se_X10_refused, in_X10, ⟨by decide, by decide, by decide +kernel⟩, Nat.le_of_ble_eq_true rfl, Nat.le_of_ble_eq_true rfl⟩
theorem cs_X10_simulate_36 : tl_cS mX10_simulate mX10_copyState 220 4 := ⟨cd_X10_copyState, ml_X10_220, sm_X10_copyState, in_X10, ⟨by decide, by decide, by decide +kernel⟩, Nat.le_of_ble_eq_true rfl, Nat.le_of_ble_eq_true rfl⟩
theorem cs_X10_simulate_131 : tl_cS mX10_simulate mX10_hoursOn 211 2 := ⟨cd_X10_hoursOn, ml_X10_211, sm_X10_hoursOn, in_X10, ⟨by decide, by decide, by decide +kernel⟩, Nat.le_of_ble_eq_true rfl, Nat.le_of_ble_eq_true rfl⟩
theorem cs_X10_simulate_114 : tl_cV mX10_simulate mX10_turnOrder 275 2 := ⟨cd_X10_turnOrder, ml_X10_275, im_X10_turnOrder, se_X10_turnOrder, in_X10, ⟨by decide, by decide, by decide +kernel⟩, Nat.le_of_ble_eq_true rfl, Nat.le_of_ble_eq_true rfl⟩
theorem cs_X10_simulate_96 : tl_cV mX10_simulate mX10_turnThing 271 2 := ⟨cd_X10_turnThing, ml_X10_271, im_X10_turnThing, se_X10_turnThing, in_X10, ⟨by decide, by decide, by decide +kernel⟩, Nat.le_of_ble_eq_true rfl, Nat.le_of_ble_eq_true rfl⟩
def f10_simulate_p45 : Nat → Nat → Int32 → Int64 → Int32 → tl_S → Option (Int32 × tl_S)
  | 0, _, _, _, _, _ => none
  | fu + 1, a1, x2, x3, x4, u =>
  (if x2 ≤ x4 then tl_let (((u.1 (a1 + 3) 9) - (u.1 (a1 + 2) 9))) (fun x7 => (if x7 ≤ 999 then some (((1000 * ((u.1 (a1 + 3) 10) - (u.1 (a1 + 2) 10))) + x7), u) else some (((1000 * ((u.1 (a1 + 3) 10) - (u.1 (a1 + 2) 10))) + 999), u))) else tl_let (((x3 * 6364136223846793005) + 1442695040888963407)) (fun x7 => tl_let (((x7.toUInt64 >>> ((33 : Int32).toInt64.toUInt64 &&& Int64.toUInt64 63)).toInt64 : Int64).toInt32) (fun x8 => tl_let ((x8 / 16)) (fun x9 => tl_let ((x8 - x8 / 16 * 16)) (fun x10 => (if 5 ≤ x10 then (if 10 ≤ x10 then tl_b2 (f10_hoursOn (a1 + 3) (1 + (x9 - x9 / 12 * 12)) u) (fun x15 u14 => tl_let (x4 + 1) (fun x16 => f10_simulate_p45 fu a1 x2 x7 x16 u14)) else tl_b (f10_turnOrder a1 x10 x9 u) (fun u14 => tl_let (x4 + 1) (fun x15 => f10_simulate_p45 fu a1 x2 x7 x15 u14))) else tl_b (f10_turnThing a1 x10 x9 u) (fun u13 => tl_let (x4 + 1) (fun x14 => f10_simulate_p45 fu a1 x2 x7 x14 u13))))))))

def f10_simulate_p18 (a1 : Nat) (x2 : Int64) (x3 : Int32) (x4 : Int32) (a5 : Nat) (u : tl_S) : Option (Int32 × tl_S) :=
  tl_b2 (f10_refused a5 x4 u) (fun x9 u8 => (if x9 = 0 then tl_b (f10_copyState (a1 + 2) 104 0 (a1 + 3) 104 0 u8) (fun u12 => f10_simulate_p45 tl_F a1 x3 x2 0 u12) else some (0, u8)))

def f10_simulate (a0 : Nat) (x1 : Int64) (x2 : Int32) (u : tl_S) : Option (Int32 × tl_S) :=
  tl_b2 (f10_in ((x2 : Int32).toInt64) 1 60 u) (fun x6 u5 => (if x6 = 0 then f10_simulate_p18 a0 x1 x2 1 a0 u5 else f10_simulate_p18 a0 x1 x2 0 a0 u5))

theorem l10_simulate_p45 {E : tl_E}  {r : Int32} {v : tl_S} : ∀ (n : Nat) (a1 : Nat) (x2 : Int32) (x3 : Int64) (x4 : Int32) (u : tl_S) (d1 : Option Value) (d2 : Option Value) (d5 : Option Value) (d7 : Option Value) (d8 : Option Value) (d9 : Option Value), tl_T E.2.1 a1 = some 10 → f10_simulate_p45 n a1 x2 x3 x4 u = some (r, v) → tl_R E mX10_simulate tl_X0 (tl_ZB E mX10_simulate (fun q w => q = some (.int r) ∧ w = v)) 0 0 (tl_HB E u) 45 [some (.ref a1), d1, d2, some (.int x2), some (.long x3), d5, some (.int x4), d7, d8, d9] [] := by
  intro n
  induction n with
  | zero => intro a1 x2 x3 x4 u d1 d2 d5 d7 d8 d9 h1 h; exact absurd h (by simp [f10_simulate_p45])
  | succ n ih =>
    intro a1 x2 x3 x4 u d1 d2 d5 d7 d8 d9 h1 h
    rw [f10_simulate_p45] at h
    refine tl_iload dX10_simulate_45 rfl (tl_iload_n dX10_simulate_47 rfl (tl_icmp_ge (tgt := 141) dX10_simulate_48 (by decide) (fun c6 => ?_) (fun c6 => ?_)))
    · replace h := tl_ip h c6
      refine tl_aload_n dX10_simulate_141 rfl (tl_getr (f := 4) (o := 3) tl_ck10 dX10_simulate_142 fl_X10_16 (Nat.le_of_ble_eq_true rfl) rfl h1 (tl_bipush (v := 9) dX10_simulate_145 bp_9 (tl_iald (j := 9) (fun _ _ => rfl) dX10_simulate_147 (tt_10_4 h1) (li_9 104 rfl) lx_9 (tl_aload_n dX10_simulate_148 rfl (tl_getr (f := 3) (o := 2) tl_ck10 dX10_simulate_149 fl_X10_13 (Nat.le_of_ble_eq_true rfl) rfl h1 (tl_bipush (v := 9) dX10_simulate_152 bp_9 (tl_iald (j := 9) (fun _ _ => rfl) dX10_simulate_154 (tt_10_3 h1) (li_9 104 rfl) lx_9 (tl_isub dX10_simulate_155 (tl_isto dX10_simulate_156 (Nat.le_of_ble_eq_true rfl) (fun x7 e => ?_))))))))))
      have h := tl_leteq e h
      clear e
      refine tl_sipush (v := 1000) dX10_simulate_158 sp_1000 (tl_aload_n dX10_simulate_161 rfl (tl_getr (f := 4) (o := 3) tl_ck10 dX10_simulate_162 fl_X10_16 (Nat.le_of_ble_eq_true rfl) rfl h1 (tl_bipush (v := 10) dX10_simulate_165 bp_10 (tl_iald (j := 10) (fun _ _ => rfl) dX10_simulate_167 (tt_10_4 h1) (li_10 104 rfl) lx_10 (tl_aload_n dX10_simulate_168 rfl (tl_getr (f := 3) (o := 2) tl_ck10 dX10_simulate_169 fl_X10_13 (Nat.le_of_ble_eq_true rfl) rfl h1 (tl_bipush (v := 10) dX10_simulate_172 bp_10 (tl_iald (j := 10) (fun _ _ => rfl) dX10_simulate_174 (tt_10_3 h1) (li_10 104 rfl) lx_10 (tl_isub dX10_simulate_175 (tl_imul dX10_simulate_176 (tl_iload dX10_simulate_177 rfl (tl_sipush (v := 999) dX10_simulate_179 sp_999 (tl_icmp_le (tgt := 191) dX10_simulate_182 (by decide) (fun c8 => ?_) (fun c8 => ?_))))))))))))))
      · replace h := tl_ip h c8
        exact tl_iload dX10_simulate_191 rfl (tl_iadd dX10_simulate_193 (tl_iretE dX10_simulate_194 rfl rfl h))
      · replace h := tl_in h c8
        exact tl_sipush (v := 999) dX10_simulate_185 sp_999 (tl_goto (tgt := 193) dX10_simulate_188 (by decide) (tl_iadd dX10_simulate_193 (tl_iretE dX10_simulate_194 rfl rfl h)))
    · replace h := tl_in h c6
      refine tl_lload dX10_simulate_51 rfl (tl_ldc2 dX10_simulate_53 kl_X10_267 (tl_lmul dX10_simulate_56 (tl_ldc2 dX10_simulate_57 kl_X10_269 (tl_ladd dX10_simulate_60 (tl_lsto dX10_simulate_61 (Nat.le_of_ble_eq_true rfl) (fun x7 e => ?_))))))
      have h := tl_leteq e h
      clear e
      refine tl_lload dX10_simulate_63 rfl (tl_bipush (v := 33) dX10_simulate_65 bp_33 (tl_lushr dX10_simulate_67 (tl_l2i dX10_simulate_68 (tl_isto dX10_simulate_69 (Nat.le_of_ble_eq_true rfl) (fun x8 e => ?_)))))
      have h := tl_leteq e h
      clear e
      refine tl_iload dX10_simulate_71 rfl (tl_bipush (v := 16) dX10_simulate_73 bp_16 (tl_idiv dX10_simulate_75 (by decide) (tl_isto dX10_simulate_76 (Nat.le_of_ble_eq_true rfl) (fun x9 e => ?_))))
      have h := tl_leteq e h
      clear e
      refine tl_iload dX10_simulate_78 rfl (tl_bipush (v := 16) dX10_simulate_80 bp_16 (tl_irem dX10_simulate_82 (by decide) (tl_isto dX10_simulate_83 (Nat.le_of_ble_eq_true rfl) (fun x10 e => ?_))))
      have h := tl_leteq e h
      clear e
      refine tl_iload dX10_simulate_85 rfl (tl_iconst (v := 5) dX10_simulate_87 ic_5 (tl_icmp_ge (tgt := 102) dX10_simulate_88 (by decide) (fun c11 => ?_) (fun c11 => ?_)))
      · replace h := tl_ip h c11
        refine tl_iload dX10_simulate_102 rfl (tl_bipush (v := 10) dX10_simulate_104 bp_10 (tl_icmp_ge (tgt := 120) dX10_simulate_106 (by decide) (fun c12 => ?_) (fun c12 => ?_)))
        · replace h := tl_ip h c12
          obtain ⟨x15, u14, e13, h⟩ := tl_b2i h
          refine tl_aload_n dX10_simulate_120 rfl (tl_getr (f := 4) (o := 3) tl_ck10 dX10_simulate_121 fl_X10_16 (Nat.le_of_ble_eq_true rfl) rfl h1 (tl_iconst (v := 1) dX10_simulate_124 ic_1 (tl_iload dX10_simulate_125 rfl (tl_bipush (v := 12) dX10_simulate_127 bp_12 (tl_irem dX10_simulate_129 (by decide) (tl_iadd dX10_simulate_130 (tl_iS2 (l10_hoursOn (tt_10_4 h1) e13) dX10_simulate_131 cs_X10_simulate_131 ⟨rfl, rfl⟩ ⟨Nat.zero_le _, Nat.zero_le _⟩ (Nat.le_of_ble_eq_true rfl) (tl_pop dX10_simulate_134 rfl (tl_iincK dX10_simulate_135 rfl (ii_1 _) (Nat.le_of_ble_eq_true rfl) (fun x16 e => ?_))))))))))
          have h := tl_leteq e h
          clear e
          refine tl_goto (tgt := 45) dX10_simulate_138 (by decide) (?_)
          exact ih _ _ _ _ _ _ _ _ _ _ _ h1 h
        · replace h := tl_in h c12
          obtain ⟨u14, e13, h⟩ := tl_bi h
          refine tl_aload_n dX10_simulate_109 rfl (tl_iload dX10_simulate_110 rfl (tl_iload dX10_simulate_112 rfl (tl_vV2 tl_ck10 rfl h1 (l10_turnOrder h1 e13) dX10_simulate_114 cs_X10_simulate_114 ⟨rfl, rfl⟩ ⟨Nat.zero_le _, Nat.zero_le _⟩ (Nat.le_of_ble_eq_true rfl) (tl_goto (tgt := 135) dX10_simulate_117 (by decide) (tl_iincK dX10_simulate_135 rfl (ii_1 _) (Nat.le_of_ble_eq_true rfl) (fun x15 e => ?_))))))
          have h := tl_leteq e h
          clear e
          refine tl_goto (tgt := 45) dX10_simulate_138 (by decide) (?_)
          exact ih _ _ _ _ _ _ _ _ _ _ _ h1 h
      · replace h := tl_in h c11
        obtain ⟨u13, e12, h⟩ := tl_bi h
        refine tl_aload_n dX10_simulate_91 rfl (tl_iload dX10_simulate_92 rfl (tl_iload dX10_simulate_94 rfl (tl_vV2 tl_ck10 rfl h1 (l10_turnThing h1 e12) dX10_simulate_96 cs_X10_simulate_96 ⟨rfl, rfl⟩ ⟨Nat.zero_le _, Nat.zero_le _⟩ (Nat.le_of_ble_eq_true rfl) (tl_goto (tgt := 135) dX10_simulate_99 (by decide) (tl_iincK dX10_simulate_135 rfl (ii_1 _) (Nat.le_of_ble_eq_true rfl) (fun x14 e => ?_))))))
        have h := tl_leteq e h
        clear e
        refine tl_goto (tgt := 45) dX10_simulate_138 (by decide) (?_)
        exact ih _ _ _ _ _ _ _ _ _ _ _ h1 h

theorem l10_simulate_p18 {E : tl_E} {a1 : Nat} {x2 : Int64} {x3 : Int32} {x4 : Int32} {a5 : Nat}  {d2 : Option Value} {d4 : Option Value} {d5 : Option Value} {d6 : Option Value} {d7 : Option Value} {d8 : Option Value} {d9 : Option Value} {u : tl_S} {r : Int32} {v : tl_S} (h1 : tl_T E.2.1 a1 = some 10) (h5 : tl_T E.2.1 a5 = some 10) (h : f10_simulate_p18 a1 x2 x3 x4 a5 u = some (r, v)) : tl_R E mX10_simulate tl_X0 (tl_ZB E mX10_simulate (fun q w => q = some (.int r) ∧ w = v)) 0 0 (tl_HB E u) 18 [some (.ref a1), some (.long x2), d2, some (.int x3), d4, d5, d6, d7, d8, d9] [.int x4, .ref a5] := by
  unfold f10_simulate_p18 at h
  obtain ⟨x9, u8, e7, h⟩ := tl_b2i h
  refine tl_iV1 tl_ck10 rfl h5 (l10_refused h5 e7) dX10_simulate_18 cs_X10_simulate_18 ⟨rfl, rfl⟩ ⟨Nat.zero_le _, Nat.zero_le _⟩ (Nat.le_of_ble_eq_true rfl) (tl_if_eq (tgt := 26) dX10_simulate_21 (by decide) (fun c10 => ?_) (fun c10 => ?_))
  · replace h := tl_ip h c10
    obtain ⟨u12, e11, h⟩ := tl_bi h
    refine tl_aload_n dX10_simulate_26 rfl (tl_getr (f := 3) (o := 2) tl_ck10 dX10_simulate_27 fl_X10_13 (Nat.le_of_ble_eq_true rfl) rfl h1 (tl_iconst (v := 0) dX10_simulate_30 ic_0 (tl_aload_n dX10_simulate_31 rfl (tl_getr (f := 4) (o := 3) tl_ck10 dX10_simulate_32 fl_X10_16 (Nat.le_of_ble_eq_true rfl) rfl h1 (tl_iconst (v := 0) dX10_simulate_35 ic_0 (tl_vS4 (l10_copyState (fun _ _ => rfl) (tt_10_3 h1) (fun _ _ => rfl) (tt_10_4 h1) e11) dX10_simulate_36 cs_X10_simulate_36 ⟨rfl, rfl⟩ ⟨Nat.zero_le _, Nat.zero_le _⟩ (Nat.le_of_ble_eq_true rfl) (tl_lload_n dX10_simulate_39 rfl (tl_lstore dX10_simulate_40 (Nat.le_of_ble_eq_true rfl) (tl_iconst (v := 0) dX10_simulate_42 ic_0 (tl_istore dX10_simulate_43 (Nat.le_of_ble_eq_true rfl) (?_)))))))))))
    exact l10_simulate_p45 tl_F _ _ _ _ _ _ _ _ _ _ _ h1 h
  · replace h := tl_in h c10
    exact tl_iconst (v := 0) dX10_simulate_24 ic_0 (tl_iretE dX10_simulate_25 rfl rfl h)

theorem l10_simulate {E : tl_E} {a0 : Nat} {x1 : Int64} {x2 : Int32}  {u : tl_S} {r : Int32} {v : tl_S} (h0 : tl_T E.2.1 a0 = some 10) (h : f10_simulate a0 x1 x2 u = some (r, v)) : tl_MB E mX10_simulate [.ref a0, .long x1, .int x2] u (fun q w => q = some (.int r) ∧ w = v) := by
  unfold f10_simulate at h
  refine tl_start [some (.ref a0), some (.long x1), none, some (.int x2), none, none, none, none, none, none] rfl rfl rfl (Nat.le_of_ble_eq_true rfl) ?_
  obtain ⟨x6, u5, e4, h⟩ := tl_b2i h
  refine tl_aload_n dX10_simulate_0 rfl (tl_iload_n dX10_simulate_1 rfl (tl_i2l dX10_simulate_2 (tl_lconst (v := 1) dX10_simulate_3 lc_1 (tl_ldc2 dX10_simulate_4 kl_X10_240 (tl_iS3 (l10_in  e4) dX10_simulate_7 cs_X10_simulate_7 ⟨rfl, rfl⟩ ⟨Nat.zero_le _, Nat.zero_le _⟩ (Nat.le_of_ble_eq_true rfl) (tl_if_eq (tgt := 17) dX10_simulate_10 (by decide) (fun c7 => ?_) (fun c7 => ?_)))))))
  · replace h := tl_ip h c7
    refine tl_iconst (v := 1) dX10_simulate_17 ic_1 (?_)
    exact l10_simulate_p18 h0 h0 h
  · replace h := tl_in h c7
    refine tl_iconst (v := 0) dX10_simulate_13 ic_0 (tl_goto (tgt := 18) dX10_simulate_14 (by decide) (?_))
    exact l10_simulate_p18 h0 h0 h

theorem cs_X10_save_5 : tl_cS mX10_save mX10_in 37 3 := ⟨cd_X10_in, ml_X10_37, sm_X10_in, in_X10, ⟨by decide, by decide, by decide +kernel⟩, Nat.le_of_ble_eq_true rfl, Nat.le_of_ble_eq_true rfl⟩
theorem cs_X10_save_16 : tl_cV mX10_save mX10_refused 152 1 := ⟨cd_X10_refused, ml_X10_152, im_X10_refused, se_X10_refused, in_X10, ⟨by decide, by decide, by decide +kernel⟩, Nat.le_of_ble_eq_true rfl, Nat.le_of_ble_eq_true rfl⟩
theorem cs_X10_save_37 : tl_cS mX10_save mX10_copyState 220 4 := ⟨cd_X10_copyState, ml_X10_220, sm_X10_copyState, in_X10, ⟨by decide, by decide, by decide +kernel⟩, Nat.le_of_ble_eq_true rfl, Nat.le_of_ble_eq_true rfl⟩
def f10_save_p16 (a1 : Nat) (x2 : Int32) (x3 : Int32) (a4 : Nat) (u : tl_S) : Option (Int32 × tl_S) :=
  tl_b2 (f10_refused a4 x3 u) (fun x8 u7 => (if x8 = 0 then tl_b (f10_copyState (a1 + 2) 104 0 (a1 + 5) 208 (104 * x2) u7) (fun u11 => tl_g (¬ (x2 < 0 ∨ 2 ≤ x2.toNatClampNeg)) (tl_let ((tl_u u11.1 (a1 + 6) x2.toNatClampNeg 1, u11.2) : tl_S) (fun u13 => some ((u13.1 (a1 + 2) 3), u13)))) else some (0, u7)))

def f10_save (a0 : Nat) (x1 : Int32) (u : tl_S) : Option (Int32 × tl_S) :=
  tl_b2 (f10_in ((x1 : Int32).toInt64) 0 1 u) (fun x5 u4 => (if x5 = 0 then f10_save_p16 a0 x1 1 a0 u4 else f10_save_p16 a0 x1 0 a0 u4))

theorem l10_save_p16 {E : tl_E} {a1 : Nat} {x2 : Int32} {x3 : Int32} {a4 : Nat}   {u : tl_S} {r : Int32} {v : tl_S} (h1 : tl_T E.2.1 a1 = some 10) (h4 : tl_T E.2.1 a4 = some 10) (h : f10_save_p16 a1 x2 x3 a4 u = some (r, v)) : tl_R E mX10_save tl_X0 (tl_ZB E mX10_save (fun q w => q = some (.int r) ∧ w = v)) 0 0 (tl_HB E u) 16 [some (.ref a1), some (.int x2)] [.int x3, .ref a4] := by
  unfold f10_save_p16 at h
  obtain ⟨x8, u7, e6, h⟩ := tl_b2i h
  refine tl_iV1 tl_ck10 rfl h4 (l10_refused h4 e6) dX10_save_16 cs_X10_save_16 ⟨rfl, rfl⟩ ⟨Nat.zero_le _, Nat.zero_le _⟩ (Nat.le_of_ble_eq_true rfl) (tl_if_eq (tgt := 24) dX10_save_19 (by decide) (fun c9 => ?_) (fun c9 => ?_))
  · replace h := tl_ip h c9
    obtain ⟨u11, e10, h⟩ := tl_bi h
    obtain ⟨g12, h⟩ := tl_gi h
    refine tl_aload_n dX10_save_24 rfl (tl_getr (f := 3) (o := 2) tl_ck10 dX10_save_25 fl_X10_13 (Nat.le_of_ble_eq_true rfl) rfl h1 (tl_iconst (v := 0) dX10_save_28 ic_0 (tl_aload_n dX10_save_29 rfl (tl_getr (f := 7) (o := 5) tl_ck10 dX10_save_30 fl_X10_22 (Nat.le_of_ble_eq_true rfl) rfl h1 (tl_bipush (v := 104) dX10_save_33 bp_104 (tl_iload_n dX10_save_35 rfl (tl_imul dX10_save_36 (tl_vS4 (l10_copyState (fun _ _ => rfl) (tt_10_3 h1) (fun _ _ => rfl) (tt_10_7 h1) e10) dX10_save_37 cs_X10_save_37 ⟨rfl, rfl⟩ ⟨Nat.zero_le _, Nat.zero_le _⟩ (Nat.le_of_ble_eq_true rfl) (tl_aload_n dX10_save_40 rfl (tl_getr (f := 8) (o := 6) tl_ck10 dX10_save_41 fl_X10_25 (Nat.le_of_ble_eq_true rfl) rfl h1 (tl_iload_n dX10_save_44 rfl (tl_iconst (v := 1) dX10_save_45 ic_1 (tl_zastK dX10_save_46 (tt_10_8 h1) (x2.toNatClampNeg) g12 rfl (Or.inr rfl) (fun u13 e => ?_))))))))))))))
    have h := tl_leteq e h
    clear e
    exact tl_aload_n dX10_save_47 rfl (tl_getr (f := 3) (o := 2) tl_ck10 dX10_save_48 fl_X10_13 (Nat.le_of_ble_eq_true rfl) rfl h1 (tl_iconst (v := 3) dX10_save_51 ic_3 (tl_iald (j := 3) (fun _ _ => rfl) dX10_save_52 (tt_10_3 h1) (li_3 104 rfl) lx_3 (tl_iretE dX10_save_53 rfl rfl h))))
  · replace h := tl_in h c9
    exact tl_iconst (v := 0) dX10_save_22 ic_0 (tl_iretE dX10_save_23 rfl rfl h)

theorem l10_save {E : tl_E} {a0 : Nat} {x1 : Int32}  {u : tl_S} {r : Int32} {v : tl_S} (h0 : tl_T E.2.1 a0 = some 10) (h : f10_save a0 x1 u = some (r, v)) : tl_MB E mX10_save [.ref a0, .int x1] u (fun q w => q = some (.int r) ∧ w = v) := by
  unfold f10_save at h
  refine tl_start [some (.ref a0), some (.int x1)] rfl rfl rfl (Nat.le_of_ble_eq_true rfl) ?_
  obtain ⟨x5, u4, e3, h⟩ := tl_b2i h
  refine tl_aload_n dX10_save_0 rfl (tl_iload_n dX10_save_1 rfl (tl_i2l dX10_save_2 (tl_lconst (v := 0) dX10_save_3 lc_0 (tl_lconst (v := 1) dX10_save_4 lc_1 (tl_iS3 (l10_in  e3) dX10_save_5 cs_X10_save_5 ⟨rfl, rfl⟩ ⟨Nat.zero_le _, Nat.zero_le _⟩ (Nat.le_of_ble_eq_true rfl) (tl_if_eq (tgt := 15) dX10_save_8 (by decide) (fun c6 => ?_) (fun c6 => ?_)))))))
  · replace h := tl_ip h c6
    refine tl_iconst (v := 1) dX10_save_15 ic_1 (?_)
    exact l10_save_p16 h0 h0 h
  · replace h := tl_in h c6
    refine tl_iconst (v := 0) dX10_save_11 ic_0 (tl_goto (tgt := 16) dX10_save_12 (by decide) (?_))
    exact l10_save_p16 h0 h0 h

theorem cs_X10_restore_5 : tl_cS mX10_restore mX10_in 37 3 := ⟨cd_X10_in, ml_X10_37, sm_X10_in, in_X10, ⟨by decide, by decide, by decide +kernel⟩, Nat.le_of_ble_eq_true rfl, Nat.le_of_ble_eq_true rfl⟩
theorem cs_X10_restore_29 : tl_cV mX10_restore mX10_refused 152 1 := ⟨cd_X10_refused, ml_X10_152, im_X10_refused, se_X10_refused, in_X10, ⟨by decide, by decide, by decide +kernel⟩, Nat.le_of_ble_eq_true rfl, Nat.le_of_ble_eq_true rfl⟩
theorem cs_X10_restore_50 : tl_cS mX10_restore mX10_copyState 220 4 := ⟨cd_X10_copyState, ml_X10_220, sm_X10_copyState, in_X10, ⟨by decide, by decide, by decide +kernel⟩, Nat.le_of_ble_eq_true rfl, Nat.le_of_ble_eq_true rfl⟩
def f10_restore_p29 (a1 : Nat) (x2 : Int32) (x3 : Int32) (a4 : Nat) (u : tl_S) : Option (Int32 × tl_S) :=
  tl_b2 (f10_refused a4 x3 u) (fun x8 u7 => (if x8 = 0 then tl_b (f10_copyState (a1 + 5) 208 (104 * x2) (a1 + 2) 104 0 u7) (fun u11 => tl_let ((tl_u u11.1 a1 6 0, u11.2) : tl_S) (fun u12 => some ((u12.1 (a1 + 2) 3), u12))) else some (0, u7)))

def f10_restore (a0 : Nat) (x1 : Int32) (u : tl_S) : Option (Int32 × tl_S) :=
  tl_b2 (f10_in ((x1 : Int32).toInt64) 0 1 u) (fun x5 u4 => (if x5 = 0 then f10_restore_p29 a0 x1 1 a0 u4 else tl_g (¬ (x1 < 0 ∨ 2 ≤ x1.toNatClampNeg)) ((if (u4.1 (a0 + 6) x1.toNatClampNeg) = 0 then f10_restore_p29 a0 x1 2 a0 u4 else f10_restore_p29 a0 x1 0 a0 u4))))

theorem l10_restore_p29 {E : tl_E} {a1 : Nat} {x2 : Int32} {x3 : Int32} {a4 : Nat}   {u : tl_S} {r : Int32} {v : tl_S} (h1 : tl_T E.2.1 a1 = some 10) (h4 : tl_T E.2.1 a4 = some 10) (h : f10_restore_p29 a1 x2 x3 a4 u = some (r, v)) : tl_R E mX10_restore tl_X0 (tl_ZB E mX10_restore (fun q w => q = some (.int r) ∧ w = v)) 0 0 (tl_HB E u) 29 [some (.ref a1), some (.int x2)] [.int x3, .ref a4] := by
  unfold f10_restore_p29 at h
  obtain ⟨x8, u7, e6, h⟩ := tl_b2i h
  refine tl_iV1 tl_ck10 rfl h4 (l10_refused h4 e6) dX10_restore_29 cs_X10_restore_29 ⟨rfl, rfl⟩ ⟨Nat.zero_le _, Nat.zero_le _⟩ (Nat.le_of_ble_eq_true rfl) (tl_if_eq (tgt := 37) dX10_restore_32 (by decide) (fun c9 => ?_) (fun c9 => ?_))
  · replace h := tl_ip h c9
    obtain ⟨u11, e10, h⟩ := tl_bi h
    refine tl_aload_n dX10_restore_37 rfl (tl_getr (f := 7) (o := 5) tl_ck10 dX10_restore_38 fl_X10_22 (Nat.le_of_ble_eq_true rfl) rfl h1 (tl_bipush (v := 104) dX10_restore_41 bp_104 (tl_iload_n dX10_restore_43 rfl (tl_imul dX10_restore_44 (tl_aload_n dX10_restore_45 rfl (tl_getr (f := 3) (o := 2) tl_ck10 dX10_restore_46 fl_X10_13 (Nat.le_of_ble_eq_true rfl) rfl h1 (tl_iconst (v := 0) dX10_restore_49 ic_0 (tl_vS4 (l10_copyState (fun _ _ => rfl) (tt_10_7 h1) (fun _ _ => rfl) (tt_10_3 h1) e10) dX10_restore_50 cs_X10_restore_50 ⟨rfl, rfl⟩ ⟨Nat.zero_le _, Nat.zero_le _⟩ (Nat.le_of_ble_eq_true rfl) (tl_aload_n dX10_restore_53 rfl (tl_iconst (v := 0) dX10_restore_54 ic_0 (tl_puti (f := 6) tl_ck10 dX10_restore_55 fl_X10_224 (Nat.le_of_ble_eq_true rfl) rfl rfl rfl h1 (fun u12 e => ?_))))))))))))
    have h := tl_leteq e h
    clear e
    exact tl_aload_n dX10_restore_58 rfl (tl_getr (f := 3) (o := 2) tl_ck10 dX10_restore_59 fl_X10_13 (Nat.le_of_ble_eq_true rfl) rfl h1 (tl_iconst (v := 3) dX10_restore_62 ic_3 (tl_iald (j := 3) (fun _ _ => rfl) dX10_restore_63 (tt_10_3 h1) (li_3 104 rfl) lx_3 (tl_iretE dX10_restore_64 rfl rfl h))))
  · replace h := tl_in h c9
    exact tl_iconst (v := 0) dX10_restore_35 ic_0 (tl_iretE dX10_restore_36 rfl rfl h)

theorem l10_restore {E : tl_E} {a0 : Nat} {x1 : Int32}  {u : tl_S} {r : Int32} {v : tl_S} (h0 : tl_T E.2.1 a0 = some 10) (h : f10_restore a0 x1 u = some (r, v)) : tl_MB E mX10_restore [.ref a0, .int x1] u (fun q w => q = some (.int r) ∧ w = v) := by
  unfold f10_restore at h
  refine tl_start [some (.ref a0), some (.int x1)] rfl rfl rfl (Nat.le_of_ble_eq_true rfl) ?_
  obtain ⟨x5, u4, e3, h⟩ := tl_b2i h
  refine tl_aload_n dX10_restore_0 rfl (tl_iload_n dX10_restore_1 rfl (tl_i2l dX10_restore_2 (tl_lconst (v := 0) dX10_restore_3 lc_0 (tl_lconst (v := 1) dX10_restore_4 lc_1 (tl_iS3 (l10_in  e3) dX10_restore_5 cs_X10_restore_5 ⟨rfl, rfl⟩ ⟨Nat.zero_le _, Nat.zero_le _⟩ (Nat.le_of_ble_eq_true rfl) (tl_if_ne (tgt := 15) dX10_restore_8 (by decide) (fun c6 => ?_) (fun c6 => ?_)))))))
  · replace h := tl_in h c6
    obtain ⟨g7, h⟩ := tl_gi h
    refine tl_aload_n dX10_restore_15 rfl (tl_getr (f := 8) (o := 6) tl_ck10 dX10_restore_16 fl_X10_25 (Nat.le_of_ble_eq_true rfl) rfl h0 (tl_iload_n dX10_restore_19 rfl (tl_zald (j := x1.toNatClampNeg) (fun _ _ => rfl) dX10_restore_20 (tt_10_8 h0) g7 rfl (tl_if_ne (tgt := 28) dX10_restore_21 (by decide) (fun c8 => ?_) (fun c8 => ?_)))))
    · replace h := tl_in h c8
      refine tl_iconst (v := 0) dX10_restore_28 ic_0 (?_)
      exact l10_restore_p29 h0 h0 h
    · replace h := tl_ip h c8
      refine tl_iconst (v := 2) dX10_restore_24 ic_2 (tl_goto (tgt := 29) dX10_restore_25 (by decide) (?_))
      exact l10_restore_p29 h0 h0 h
  · replace h := tl_ip h c6
    refine tl_iconst (v := 1) dX10_restore_11 ic_1 (tl_goto (tgt := 29) dX10_restore_12 (by decide) (?_))
    exact l10_restore_p29 h0 h0 h

