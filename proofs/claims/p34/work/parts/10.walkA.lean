/-! Printed by wip/whole/gen: what the bytes compute, and the walks. -/

def f0_become (a0 : Nat) (x1 : Int32) (x2 : Int32) (x3 : Int32) (x4 : Int32) (x5 : Int32) (u : tl_S) : Option (tl_S) :=
  tl_let ((tl_u u.1 a0 0 x1, u.2) : tl_S) (fun u7 => tl_let ((tl_u u7.1 a0 1 x2, u7.2) : tl_S) (fun u8 => tl_let ((tl_u u8.1 a0 2 x3, u8.2) : tl_S) (fun u9 => tl_let ((tl_u u9.1 a0 3 x4, u9.2) : tl_S) (fun u10 => tl_let ((tl_u u10.1 a0 4 x5, u10.2) : tl_S) (fun u11 => some u11)))))

theorem l0_become {E : tl_E} {a0 : Nat} {x1 : Int32} {x2 : Int32} {x3 : Int32} {x4 : Int32} {x5 : Int32}  {u : tl_S} {v : tl_S} (h0 : tl_T E.2.1 a0 = some 0) (h : f0_become a0 x1 x2 x3 x4 x5 u = some v) : tl_MB E mX0_become [.ref a0, .int x1, .int x2, .int x3, .int x4, .int x5] u (fun q w => q = none ∧ w = v) := by
  unfold f0_become at h
  refine tl_start [some (.ref a0), some (.int x1), some (.int x2), some (.int x3), some (.int x4), some (.int x5)] rfl rfl rfl (Nat.le_of_ble_eq_true rfl) ?_
  refine tl_aload_n dX0_become_0 rfl (tl_iload_n dX0_become_1 rfl (tl_puti (f := 0) tl_ck0 dX0_become_2 fl_X0_7 (Nat.le_of_ble_eq_true rfl) rfl rfl rfl h0 (fun u7 e => ?_)))
  have h := tl_leteq e h
  clear e
  refine tl_aload_n dX0_become_5 rfl (tl_iload_n dX0_become_6 rfl (tl_puti (f := 1) tl_ck0 dX0_become_7 fl_X0_13 (Nat.le_of_ble_eq_true rfl) rfl rfl rfl h0 (fun u8 e => ?_)))
  have h := tl_leteq e h
  clear e
  refine tl_aload_n dX0_become_10 rfl (tl_iload_n dX0_become_11 rfl (tl_puti (f := 2) tl_ck0 dX0_become_12 fl_X0_16 (Nat.le_of_ble_eq_true rfl) rfl rfl rfl h0 (fun u9 e => ?_)))
  have h := tl_leteq e h
  clear e
  refine tl_aload_n dX0_become_15 rfl (tl_iload dX0_become_16 rfl (tl_puti (f := 3) tl_ck0 dX0_become_18 fl_X0_19 (Nat.le_of_ble_eq_true rfl) rfl rfl rfl h0 (fun u10 e => ?_)))
  have h := tl_leteq e h
  clear e
  refine tl_aload_n dX0_become_21 rfl (tl_iload dX0_become_22 rfl (tl_puti (f := 4) tl_ck0 dX0_become_24 fl_X0_22 (Nat.le_of_ble_eq_true rfl) rfl rfl rfl h0 (fun u11 e => ?_)))
  have h := tl_leteq e h
  clear e
  exact tl_vretE dX0_become_27 rfl h


def f0_putNumber (a0 : Nat) (x1 : Int32) (x2 : Int32) (u : tl_S) : Option (tl_S) :=
  (if x1.toInt < 0 ∨ 2 < x1.toInt then tl_let ((tl_u u.1 a0 4 x2, u.2) : tl_S) (fun u6 => some u6) else (if x1.toInt = 0 then tl_let ((tl_u u.1 a0 1 x2, u.2) : tl_S) (fun u6 => some u6) else (if x1.toInt = 1 then tl_let ((tl_u u.1 a0 2 x2, u.2) : tl_S) (fun u6 => some u6) else tl_let ((tl_u u.1 a0 3 x2, u.2) : tl_S) (fun u6 => some u6))))

theorem l0_putNumber {E : tl_E} {a0 : Nat} {x1 : Int32} {x2 : Int32}  {u : tl_S} {v : tl_S} (h0 : tl_T E.2.1 a0 = some 0) (h : f0_putNumber a0 x1 x2 u = some v) : tl_MB E mX0_putNumber [.ref a0, .int x1, .int x2] u (fun q w => q = none ∧ w = v) := by
  unfold f0_putNumber at h
  refine tl_start [some (.ref a0), some (.int x1), some (.int x2)] rfl rfl rfl (Nat.le_of_ble_eq_true rfl) ?_
  refine tl_iload_n dX0_putNumber_0 rfl (?_)
  by_cases c4 : x1.toInt < 0 ∨ 2 < x1.toInt
  · replace h := tl_ip h c4
    refine tl_tableOut (tgt := 52) dX0_putNumber_1 c4 (by decide) ?_
    refine tl_aload_n dX0_putNumber_52 rfl (tl_iload_n dX0_putNumber_53 rfl (tl_puti (f := 4) tl_ck0 dX0_putNumber_54 fl_X0_22 (Nat.le_of_ble_eq_true rfl) rfl rfl rfl h0 (fun u6 e => ?_)))
    have h := tl_leteq e h
    clear e
    exact tl_vretE dX0_putNumber_57 rfl h
  replace h := tl_in h c4
  by_cases c5_0 : x1.toInt = 0
  · replace h := tl_ip h c5_0
    refine tl_tableIn (off := 27) (tgt := 28) dX0_putNumber_1 (by omega) (by omega) (by rw [c5_0]; rfl) (by decide) ?_
    refine tl_aload_n dX0_putNumber_28 rfl (tl_iload_n dX0_putNumber_29 rfl (tl_puti (f := 1) tl_ck0 dX0_putNumber_30 fl_X0_13 (Nat.le_of_ble_eq_true rfl) rfl rfl rfl h0 (fun u6 e => ?_)))
    have h := tl_leteq e h
    clear e
    exact tl_goto (tgt := 57) dX0_putNumber_33 (by decide) (tl_vretE dX0_putNumber_57 rfl h)
  replace h := tl_in h c5_0
  by_cases c5_1 : x1.toInt = 1
  · replace h := tl_ip h c5_1
    refine tl_tableIn (off := 35) (tgt := 36) dX0_putNumber_1 (by omega) (by omega) (by rw [c5_1]; rfl) (by decide) ?_
    refine tl_aload_n dX0_putNumber_36 rfl (tl_iload_n dX0_putNumber_37 rfl (tl_puti (f := 2) tl_ck0 dX0_putNumber_38 fl_X0_16 (Nat.le_of_ble_eq_true rfl) rfl rfl rfl h0 (fun u6 e => ?_)))
    have h := tl_leteq e h
    clear e
    exact tl_goto (tgt := 57) dX0_putNumber_41 (by decide) (tl_vretE dX0_putNumber_57 rfl h)
  replace h := tl_in h c5_1
  have c5_2 : x1.toInt = 2 := by omega
  refine tl_tableIn (off := 43) (tgt := 44) dX0_putNumber_1 (by omega) (by omega) (by rw [c5_2]; rfl) (by decide) ?_
  refine tl_aload_n dX0_putNumber_44 rfl (tl_iload_n dX0_putNumber_45 rfl (tl_puti (f := 3) tl_ck0 dX0_putNumber_46 fl_X0_19 (Nat.le_of_ble_eq_true rfl) rfl rfl rfl h0 (fun u6 e => ?_)))
  have h := tl_leteq e h
  clear e
  exact tl_goto (tgt := 57) dX0_putNumber_49 (by decide) (tl_vretE dX0_putNumber_57 rfl h)


def f0_isTest (a0 : Nat) (u : tl_S) : Option (Int32 × tl_S) :=
  (if (u.1 a0 0) < 11 then some (0, u) else some (1, u))

theorem l0_isTest {E : tl_E} {a0 : Nat}  {u : tl_S} {r : Int32} {v : tl_S} (h0 : tl_T E.2.1 a0 = some 0) (h : f0_isTest a0 u = some (r, v)) : tl_MB E mX0_isTest [.ref a0] u (fun q w => q = some (.int r) ∧ w = v) := by
  unfold f0_isTest at h
  refine tl_start [some (.ref a0)] rfl rfl rfl (Nat.le_of_ble_eq_true rfl) ?_
  refine tl_aload_n dX0_isTest_0 rfl (tl_geti (f := 0) tl_ck0 dX0_isTest_1 fl_X0_7 (Nat.le_of_ble_eq_true rfl) rfl h0 (tl_bipush (v := 11) dX0_isTest_4 bp_11 (tl_icmp_lt (tgt := 13) dX0_isTest_6 (by decide) (fun c2 => ?_) (fun c2 => ?_))))
  · replace h := tl_ip h c2
    exact tl_iconst (v := 0) dX0_isTest_13 ic_0 (tl_iretE dX0_isTest_14 rfl rfl h)
  · replace h := tl_in h c2
    exact tl_iconst (v := 1) dX0_isTest_9 ic_1 (tl_goto (tgt := 14) dX0_isTest_10 (by decide) (tl_iretE dX0_isTest_14 rfl rfl h))

theorem cs_X0_readGroup_136 : tl_cV mX0_readGroup mX0_become 26 5 := ⟨cd_X0_become, ml_X0_26, im_X0_become, se_X0_become, in_X0, ⟨by decide, by decide, by decide +kernel⟩, Nat.le_of_ble_eq_true rfl, Nat.le_of_ble_eq_true rfl⟩
theorem cs_X0_readGroup_162 : tl_cV mX0_readGroup mX0_become 26 5 := ⟨cd_X0_become, ml_X0_26, im_X0_become, se_X0_become, in_X0, ⟨by decide, by decide, by decide +kernel⟩, Nat.le_of_ble_eq_true rfl, Nat.le_of_ble_eq_true rfl⟩
theorem cs_X0_readGroup_184 : tl_cV mX0_readGroup mX0_become 26 5 := ⟨cd_X0_become, ml_X0_26, im_X0_become, se_X0_become, in_X0, ⟨by decide, by decide, by decide +kernel⟩, Nat.le_of_ble_eq_true rfl, Nat.le_of_ble_eq_true rfl⟩
theorem cs_X0_readGroup_198 : tl_cV mX0_readGroup mX0_become 26 5 := ⟨cd_X0_become, ml_X0_26, im_X0_become, se_X0_become, in_X0, ⟨by decide, by decide, by decide +kernel⟩, Nat.le_of_ble_eq_true rfl, Nat.le_of_ble_eq_true rfl⟩
theorem cs_X0_readGroup_210 : tl_cV mX0_readGroup mX0_become 26 5 := ⟨cd_X0_become, ml_X0_26, im_X0_become, se_X0_become, in_X0, ⟨by decide, by decide, by decide +kernel⟩, Nat.le_of_ble_eq_true rfl, Nat.le_of_ble_eq_true rfl⟩
theorem cs_X0_readGroup_235 : tl_cV mX0_readGroup mX0_become 26 5 := ⟨cd_X0_become, ml_X0_26, im_X0_become, se_X0_become, in_X0, ⟨by decide, by decide, by decide +kernel⟩, Nat.le_of_ble_eq_true rfl, Nat.le_of_ble_eq_true rfl⟩
theorem cs_X0_readGroup_267 : tl_cV mX0_readGroup mX0_become 26 5 := ⟨cd_X0_become, ml_X0_26, im_X0_become, se_X0_become, in_X0, ⟨by decide, by decide, by decide +kernel⟩, Nat.le_of_ble_eq_true rfl, Nat.le_of_ble_eq_true rfl⟩
theorem cs_X0_readGroup_281 : tl_cV mX0_readGroup mX0_become 26 5 := ⟨cd_X0_become, ml_X0_26, im_X0_become, se_X0_become, in_X0, ⟨by decide, by decide, by decide +kernel⟩, Nat.le_of_ble_eq_true rfl, Nat.le_of_ble_eq_true rfl⟩
theorem cs_X0_readGroup_295 : tl_cV mX0_readGroup mX0_become 26 5 := ⟨cd_X0_become, ml_X0_26, im_X0_become, se_X0_become, in_X0, ⟨by decide, by decide, by decide +kernel⟩, Nat.le_of_ble_eq_true rfl, Nat.le_of_ble_eq_true rfl⟩
def f0_readGroup_p70 (a1 : Nat) (x2 : Int32) (x3 : Int32) (x4 : Int32) (x5 : Int32) (x6 : Int32) (x7 : Int32) (x8 : Int32) (x9 : Int32) (u : tl_S) : Option (Int32 × tl_S) :=
  (if ((x2 / 100000)).toInt < 1 ∨ 9 < ((x2 / 100000)).toInt then some (0, u) else (if ((x2 / 100000)).toInt = 1 then tl_b (f0_become a1 10 x6 0 0 0 u) (fun u14 => (if x3 = 0 then (if x9 = 0 then some (0, u14) else some (1, u14)) else some (0, u14))) else (if ((x2 / 100000)).toInt = 2 then tl_b (f0_become a1 6 x3 x4 x5 0 u) (fun u14 => (if x7 = 0 then some (1, u14) else some (0, u14))) else (if ((x2 / 100000)).toInt = 3 then tl_b (f0_become a1 7 x3 x5 0 0 u) (fun u14 => tl_g (x8 = 0 ∨ x8 = 1) (some (x8, u14))) else (if ((x2 / 100000)).toInt = 4 then tl_b (f0_become a1 9 x3 x5 0 0 u) (fun u14 => tl_g (x8 = 0 ∨ x8 = 1) (some (x8, u14))) else (if ((x2 / 100000)).toInt = 5 then tl_b (f0_become a1 3 x3 x4 0 0 u) (fun u14 => (if (x2 - x2 / 1000 * 1000) = 0 then some (1, u14) else some (0, u14))) else (if ((x2 / 100000)).toInt = 6 then tl_b (f0_become a1 11 x3 x7 0 0 u) (fun u14 => (if x4 = 0 then (if x5 = 0 then (if 1 < x7 then some (0, u14) else some (1, u14)) else some (0, u14)) else some (0, u14))) else (if ((x2 / 100000)).toInt = 7 then tl_b (f0_become a1 12 x3 x6 0 0 u) (fun u14 => tl_g (x9 = 0 ∨ x9 = 1) (some (x9, u14))) else (if ((x2 / 100000)).toInt = 8 then tl_b (f0_become a1 13 x3 x6 0 0 u) (fun u14 => tl_g (x9 = 0 ∨ x9 = 1) (some (x9, u14))) else tl_b (f0_become a1 14 x7 0 0 0 u) (fun u14 => (if x3 = 0 then (if x4 = 0 then (if x5 = 0 then some (1, u14) else some (0, u14)) else some (0, u14)) else some (0, u14))))))))))))

def f0_readGroup_p53 (a1 : Nat) (x2 : Int32) (x3 : Int32) (x4 : Int32) (x5 : Int32) (x6 : Int32) (x7 : Int32) (x8 : Int32) (u : tl_S) : Option (Int32 × tl_S) :=
  (if ((x2 / 100) - (x2 / 100) / 100 * 100) = 0 then f0_readGroup_p70 a1 x2 x3 x4 x5 x6 x7 x8 1 u else f0_readGroup_p70 a1 x2 x3 x4 x5 x6 x7 x8 0 u)

def f0_readGroup_p52 (a1 : Nat) (x2 : Int32) (x3 : Int32) (x4 : Int32) (x5 : Int32) (x6 : Int32) (x7 : Int32) (u : tl_S) : Option (Int32 × tl_S) :=
  f0_readGroup_p53 a1 x2 x3 x4 x5 x6 x7 0 u

def f0_readGroup (a0 : Nat) (x1 : Int32) (u : tl_S) : Option (Int32 × tl_S) :=
  tl_let (((x1 / 10000) - (x1 / 10000) / 10 * 10)) (fun x3 => tl_let (((x1 / 1000) - (x1 / 1000) / 10 * 10)) (fun x4 => tl_let (((x1 / 10) - (x1 / 10) / 100 * 100)) (fun x5 => tl_let ((x1 - x1 / 100 * 100)) (fun x6 => tl_let ((x1 - x1 / 10 * 10)) (fun x7 => (if x4 = 0 then (if x7 = 0 then f0_readGroup_p53 a0 x1 x3 x4 x5 x6 x7 1 u else f0_readGroup_p52 a0 x1 x3 x4 x5 x6 x7 u) else f0_readGroup_p52 a0 x1 x3 x4 x5 x6 x7 u))))))

theorem l0_readGroup_p70 {E : tl_E} {a1 : Nat} {x2 : Int32} {x3 : Int32} {x4 : Int32} {x5 : Int32} {x6 : Int32} {x7 : Int32} {x8 : Int32} {x9 : Int32}  {d8 : Option Value} {u : tl_S} {r : Int32} {v : tl_S} (h1 : tl_T E.2.1 a1 = some 0) (h : f0_readGroup_p70 a1 x2 x3 x4 x5 x6 x7 x8 x9 u = some (r, v)) : tl_R E mX0_readGroup tl_X0 (tl_ZB E mX0_readGroup (fun q w => q = some (.int r) ∧ w = v)) 0 0 (tl_HB E u) 70 [some (.ref a1), some (.int x2), some (.int x3), some (.int x4), some (.int x5), some (.int x6), some (.int x7), some (.int x8), d8] [.int x9] := by
  unfold f0_readGroup_p70 at h
  refine tl_istore dX0_readGroup_70 (Nat.le_of_ble_eq_true rfl) (tl_iload_n dX0_readGroup_72 rfl (tl_ldc dX0_readGroup_73 kc_X0_25 (tl_idiv dX0_readGroup_75 (by decide) (?_))))
  by_cases c11 : ((x2 / 100000)).toInt < 1 ∨ 9 < ((x2 / 100000)).toInt
  · replace h := tl_ip h c11
    refine tl_tableOut (tgt := 317) dX0_readGroup_76 c11 (by decide) ?_
    exact tl_iconst (v := 0) dX0_readGroup_317 ic_0 (tl_iretE dX0_readGroup_318 rfl rfl h)
  replace h := tl_in h c11
  by_cases c12_1 : ((x2 / 100000)).toInt = 1
  · replace h := tl_ip h c12_1
    refine tl_tableIn (off := 52) (tgt := 128) dX0_readGroup_76 (by omega) (by omega) (by rw [c12_1]; rfl) (by decide) ?_
    obtain ⟨u14, e13, h⟩ := tl_bi h
    refine tl_aload_n dX0_readGroup_128 rfl (tl_bipush (v := 10) dX0_readGroup_129 bp_10 (tl_iload dX0_readGroup_131 rfl (tl_iconst (v := 0) dX0_readGroup_133 ic_0 (tl_iconst (v := 0) dX0_readGroup_134 ic_0 (tl_iconst (v := 0) dX0_readGroup_135 ic_0 (tl_vV5 tl_ck0 rfl h1 (l0_become h1 e13) dX0_readGroup_136 cs_X0_readGroup_136 ⟨rfl, rfl⟩ ⟨Nat.zero_le _, Nat.zero_le _⟩ (Nat.le_of_ble_eq_true rfl) (tl_iload_n dX0_readGroup_139 rfl (tl_if_ne (tgt := 152) dX0_readGroup_140 (by decide) (fun c15 => ?_) (fun c15 => ?_)))))))))
    · replace h := tl_in h c15
      exact tl_iconst (v := 0) dX0_readGroup_152 ic_0 (tl_iretE dX0_readGroup_153 rfl rfl h)
    · replace h := tl_ip h c15
      refine tl_iload dX0_readGroup_143 rfl (tl_if_eq (tgt := 152) dX0_readGroup_145 (by decide) (fun c16 => ?_) (fun c16 => ?_))
      · replace h := tl_ip h c16
        exact tl_iconst (v := 0) dX0_readGroup_152 ic_0 (tl_iretE dX0_readGroup_153 rfl rfl h)
      · replace h := tl_in h c16
        exact tl_iconst (v := 1) dX0_readGroup_148 ic_1 (tl_goto (tgt := 153) dX0_readGroup_149 (by decide) (tl_iretE dX0_readGroup_153 rfl rfl h))
  replace h := tl_in h c12_1
  by_cases c12_2 : ((x2 / 100000)).toInt = 2
  · replace h := tl_ip h c12_2
    refine tl_tableIn (off := 78) (tgt := 154) dX0_readGroup_76 (by omega) (by omega) (by rw [c12_2]; rfl) (by decide) ?_
    obtain ⟨u14, e13, h⟩ := tl_bi h
    refine tl_aload_n dX0_readGroup_154 rfl (tl_bipush (v := 6) dX0_readGroup_155 bp_6 (tl_iload_n dX0_readGroup_157 rfl (tl_iload_n dX0_readGroup_158 rfl (tl_iload dX0_readGroup_159 rfl (tl_iconst (v := 0) dX0_readGroup_161 ic_0 (tl_vV5 tl_ck0 rfl h1 (l0_become h1 e13) dX0_readGroup_162 cs_X0_readGroup_162 ⟨rfl, rfl⟩ ⟨Nat.zero_le _, Nat.zero_le _⟩ (Nat.le_of_ble_eq_true rfl) (tl_iload dX0_readGroup_165 rfl (tl_if_ne (tgt := 174) dX0_readGroup_167 (by decide) (fun c15 => ?_) (fun c15 => ?_)))))))))
    · replace h := tl_in h c15
      exact tl_iconst (v := 0) dX0_readGroup_174 ic_0 (tl_iretE dX0_readGroup_175 rfl rfl h)
    · replace h := tl_ip h c15
      exact tl_iconst (v := 1) dX0_readGroup_170 ic_1 (tl_goto (tgt := 175) dX0_readGroup_171 (by decide) (tl_iretE dX0_readGroup_175 rfl rfl h))
  replace h := tl_in h c12_2
  by_cases c12_3 : ((x2 / 100000)).toInt = 3
  · replace h := tl_ip h c12_3
    refine tl_tableIn (off := 100) (tgt := 176) dX0_readGroup_76 (by omega) (by omega) (by rw [c12_3]; rfl) (by decide) ?_
    obtain ⟨u14, e13, h⟩ := tl_bi h
    obtain ⟨g15, h⟩ := tl_gi h
    exact tl_aload_n dX0_readGroup_176 rfl (tl_bipush (v := 7) dX0_readGroup_177 bp_7 (tl_iload_n dX0_readGroup_179 rfl (tl_iload dX0_readGroup_180 rfl (tl_iconst (v := 0) dX0_readGroup_182 ic_0 (tl_iconst (v := 0) dX0_readGroup_183 ic_0 (tl_vV5 tl_ck0 rfl h1 (l0_become h1 e13) dX0_readGroup_184 cs_X0_readGroup_184 ⟨rfl, rfl⟩ ⟨Nat.zero_le _, Nat.zero_le _⟩ (Nat.le_of_ble_eq_true rfl) (tl_iload dX0_readGroup_187 rfl (tl_iretE dX0_readGroup_189 rfl (tl_nB g15).1 h))))))))
  replace h := tl_in h c12_3
  by_cases c12_4 : ((x2 / 100000)).toInt = 4
  · replace h := tl_ip h c12_4
    refine tl_tableIn (off := 114) (tgt := 190) dX0_readGroup_76 (by omega) (by omega) (by rw [c12_4]; rfl) (by decide) ?_
    obtain ⟨u14, e13, h⟩ := tl_bi h
    obtain ⟨g15, h⟩ := tl_gi h
    exact tl_aload_n dX0_readGroup_190 rfl (tl_bipush (v := 9) dX0_readGroup_191 bp_9 (tl_iload_n dX0_readGroup_193 rfl (tl_iload dX0_readGroup_194 rfl (tl_iconst (v := 0) dX0_readGroup_196 ic_0 (tl_iconst (v := 0) dX0_readGroup_197 ic_0 (tl_vV5 tl_ck0 rfl h1 (l0_become h1 e13) dX0_readGroup_198 cs_X0_readGroup_198 ⟨rfl, rfl⟩ ⟨Nat.zero_le _, Nat.zero_le _⟩ (Nat.le_of_ble_eq_true rfl) (tl_iload dX0_readGroup_201 rfl (tl_iretE dX0_readGroup_203 rfl (tl_nB g15).1 h))))))))
  replace h := tl_in h c12_4
  by_cases c12_5 : ((x2 / 100000)).toInt = 5
  · replace h := tl_ip h c12_5
    refine tl_tableIn (off := 128) (tgt := 204) dX0_readGroup_76 (by omega) (by omega) (by rw [c12_5]; rfl) (by decide) ?_
    obtain ⟨u14, e13, h⟩ := tl_bi h
    refine tl_aload_n dX0_readGroup_204 rfl (tl_iconst (v := 3) dX0_readGroup_205 ic_3 (tl_iload_n dX0_readGroup_206 rfl (tl_iload_n dX0_readGroup_207 rfl (tl_iconst (v := 0) dX0_readGroup_208 ic_0 (tl_iconst (v := 0) dX0_readGroup_209 ic_0 (tl_vV5 tl_ck0 rfl h1 (l0_become h1 e13) dX0_readGroup_210 cs_X0_readGroup_210 ⟨rfl, rfl⟩ ⟨Nat.zero_le _, Nat.zero_le _⟩ (Nat.le_of_ble_eq_true rfl) (tl_iload_n dX0_readGroup_213 rfl (tl_sipush (v := 1000) dX0_readGroup_214 sp_1000 (tl_irem dX0_readGroup_217 (by decide) (tl_if_ne (tgt := 225) dX0_readGroup_218 (by decide) (fun c15 => ?_) (fun c15 => ?_)))))))))))
    · replace h := tl_in h c15
      exact tl_iconst (v := 0) dX0_readGroup_225 ic_0 (tl_iretE dX0_readGroup_226 rfl rfl h)
    · replace h := tl_ip h c15
      exact tl_iconst (v := 1) dX0_readGroup_221 ic_1 (tl_goto (tgt := 226) dX0_readGroup_222 (by decide) (tl_iretE dX0_readGroup_226 rfl rfl h))
  replace h := tl_in h c12_5
  by_cases c12_6 : ((x2 / 100000)).toInt = 6
  · replace h := tl_ip h c12_6
    refine tl_tableIn (off := 151) (tgt := 227) dX0_readGroup_76 (by omega) (by omega) (by rw [c12_6]; rfl) (by decide) ?_
    obtain ⟨u14, e13, h⟩ := tl_bi h
    refine tl_aload_n dX0_readGroup_227 rfl (tl_bipush (v := 11) dX0_readGroup_228 bp_11 (tl_iload_n dX0_readGroup_230 rfl (tl_iload dX0_readGroup_231 rfl (tl_iconst (v := 0) dX0_readGroup_233 ic_0 (tl_iconst (v := 0) dX0_readGroup_234 ic_0 (tl_vV5 tl_ck0 rfl h1 (l0_become h1 e13) dX0_readGroup_235 cs_X0_readGroup_235 ⟨rfl, rfl⟩ ⟨Nat.zero_le _, Nat.zero_le _⟩ (Nat.le_of_ble_eq_true rfl) (tl_iload_n dX0_readGroup_238 rfl (tl_if_ne (tgt := 257) dX0_readGroup_239 (by decide) (fun c15 => ?_) (fun c15 => ?_)))))))))
    · replace h := tl_in h c15
      exact tl_iconst (v := 0) dX0_readGroup_257 ic_0 (tl_iretE dX0_readGroup_258 rfl rfl h)
    · replace h := tl_ip h c15
      refine tl_iload dX0_readGroup_242 rfl (tl_if_ne (tgt := 257) dX0_readGroup_244 (by decide) (fun c16 => ?_) (fun c16 => ?_))
      · replace h := tl_in h c16
        exact tl_iconst (v := 0) dX0_readGroup_257 ic_0 (tl_iretE dX0_readGroup_258 rfl rfl h)
      · replace h := tl_ip h c16
        refine tl_iload dX0_readGroup_247 rfl (tl_iconst (v := 1) dX0_readGroup_249 ic_1 (tl_icmp_gt (tgt := 257) dX0_readGroup_250 (by decide) (fun c17 => ?_) (fun c17 => ?_)))
        · replace h := tl_ip h c17
          exact tl_iconst (v := 0) dX0_readGroup_257 ic_0 (tl_iretE dX0_readGroup_258 rfl rfl h)
        · replace h := tl_in h c17
          exact tl_iconst (v := 1) dX0_readGroup_253 ic_1 (tl_goto (tgt := 258) dX0_readGroup_254 (by decide) (tl_iretE dX0_readGroup_258 rfl rfl h))
  replace h := tl_in h c12_6
  by_cases c12_7 : ((x2 / 100000)).toInt = 7
  · replace h := tl_ip h c12_7
    refine tl_tableIn (off := 183) (tgt := 259) dX0_readGroup_76 (by omega) (by omega) (by rw [c12_7]; rfl) (by decide) ?_
    obtain ⟨u14, e13, h⟩ := tl_bi h
    obtain ⟨g15, h⟩ := tl_gi h
    exact tl_aload_n dX0_readGroup_259 rfl (tl_bipush (v := 12) dX0_readGroup_260 bp_12 (tl_iload_n dX0_readGroup_262 rfl (tl_iload dX0_readGroup_263 rfl (tl_iconst (v := 0) dX0_readGroup_265 ic_0 (tl_iconst (v := 0) dX0_readGroup_266 ic_0 (tl_vV5 tl_ck0 rfl h1 (l0_become h1 e13) dX0_readGroup_267 cs_X0_readGroup_267 ⟨rfl, rfl⟩ ⟨Nat.zero_le _, Nat.zero_le _⟩ (Nat.le_of_ble_eq_true rfl) (tl_iload dX0_readGroup_270 rfl (tl_iretE dX0_readGroup_272 rfl (tl_nB g15).1 h))))))))
  replace h := tl_in h c12_7
  by_cases c12_8 : ((x2 / 100000)).toInt = 8
  · replace h := tl_ip h c12_8
    refine tl_tableIn (off := 197) (tgt := 273) dX0_readGroup_76 (by omega) (by omega) (by rw [c12_8]; rfl) (by decide) ?_
    obtain ⟨u14, e13, h⟩ := tl_bi h
    obtain ⟨g15, h⟩ := tl_gi h
    exact tl_aload_n dX0_readGroup_273 rfl (tl_bipush (v := 13) dX0_readGroup_274 bp_13 (tl_iload_n dX0_readGroup_276 rfl (tl_iload dX0_readGroup_277 rfl (tl_iconst (v := 0) dX0_readGroup_279 ic_0 (tl_iconst (v := 0) dX0_readGroup_280 ic_0 (tl_vV5 tl_ck0 rfl h1 (l0_become h1 e13) dX0_readGroup_281 cs_X0_readGroup_281 ⟨rfl, rfl⟩ ⟨Nat.zero_le _, Nat.zero_le _⟩ (Nat.le_of_ble_eq_true rfl) (tl_iload dX0_readGroup_284 rfl (tl_iretE dX0_readGroup_286 rfl (tl_nB g15).1 h))))))))
  replace h := tl_in h c12_8
  have c12_9 : ((x2 / 100000)).toInt = 9 := by omega
  refine tl_tableIn (off := 211) (tgt := 287) dX0_readGroup_76 (by omega) (by omega) (by rw [c12_9]; rfl) (by decide) ?_
  obtain ⟨u14, e13, h⟩ := tl_bi h
  refine tl_aload_n dX0_readGroup_287 rfl (tl_bipush (v := 14) dX0_readGroup_288 bp_14 (tl_iload dX0_readGroup_290 rfl (tl_iconst (v := 0) dX0_readGroup_292 ic_0 (tl_iconst (v := 0) dX0_readGroup_293 ic_0 (tl_iconst (v := 0) dX0_readGroup_294 ic_0 (tl_vV5 tl_ck0 rfl h1 (l0_become h1 e13) dX0_readGroup_295 cs_X0_readGroup_295 ⟨rfl, rfl⟩ ⟨Nat.zero_le _, Nat.zero_le _⟩ (Nat.le_of_ble_eq_true rfl) (tl_iload_n dX0_readGroup_298 rfl (tl_if_ne (tgt := 315) dX0_readGroup_299 (by decide) (fun c15 => ?_) (fun c15 => ?_)))))))))
  · replace h := tl_in h c15
    exact tl_iconst (v := 0) dX0_readGroup_315 ic_0 (tl_iretE dX0_readGroup_316 rfl rfl h)
  · replace h := tl_ip h c15
    refine tl_iload_n dX0_readGroup_302 rfl (tl_if_ne (tgt := 315) dX0_readGroup_303 (by decide) (fun c16 => ?_) (fun c16 => ?_))
    · replace h := tl_in h c16
      exact tl_iconst (v := 0) dX0_readGroup_315 ic_0 (tl_iretE dX0_readGroup_316 rfl rfl h)
    · replace h := tl_ip h c16
      refine tl_iload dX0_readGroup_306 rfl (tl_if_ne (tgt := 315) dX0_readGroup_308 (by decide) (fun c17 => ?_) (fun c17 => ?_))
      · replace h := tl_in h c17
        exact tl_iconst (v := 0) dX0_readGroup_315 ic_0 (tl_iretE dX0_readGroup_316 rfl rfl h)
      · replace h := tl_ip h c17
        exact tl_iconst (v := 1) dX0_readGroup_311 ic_1 (tl_goto (tgt := 316) dX0_readGroup_312 (by decide) (tl_iretE dX0_readGroup_316 rfl rfl h))

theorem l0_readGroup_p53 {E : tl_E} {a1 : Nat} {x2 : Int32} {x3 : Int32} {x4 : Int32} {x5 : Int32} {x6 : Int32} {x7 : Int32} {x8 : Int32}  {d7 : Option Value} {d8 : Option Value} {u : tl_S} {r : Int32} {v : tl_S} (h1 : tl_T E.2.1 a1 = some 0) (h : f0_readGroup_p53 a1 x2 x3 x4 x5 x6 x7 x8 u = some (r, v)) : tl_R E mX0_readGroup tl_X0 (tl_ZB E mX0_readGroup (fun q w => q = some (.int r) ∧ w = v)) 0 0 (tl_HB E u) 53 [some (.ref a1), some (.int x2), some (.int x3), some (.int x4), some (.int x5), some (.int x6), some (.int x7), d7, d8] [.int x8] := by
  unfold f0_readGroup_p53 at h
  refine tl_istore dX0_readGroup_53 (Nat.le_of_ble_eq_true rfl) (tl_iload_n dX0_readGroup_55 rfl (tl_bipush (v := 100) dX0_readGroup_56 bp_100 (tl_idiv dX0_readGroup_58 (by decide) (tl_bipush (v := 100) dX0_readGroup_59 bp_100 (tl_irem dX0_readGroup_61 (by decide) (tl_if_ne (tgt := 69) dX0_readGroup_62 (by decide) (fun c10 => ?_) (fun c10 => ?_)))))))
  · replace h := tl_in h c10
    refine tl_iconst (v := 0) dX0_readGroup_69 ic_0 (?_)
    exact l0_readGroup_p70 h1 h
  · replace h := tl_ip h c10
    refine tl_iconst (v := 1) dX0_readGroup_65 ic_1 (tl_goto (tgt := 70) dX0_readGroup_66 (by decide) (?_))
    exact l0_readGroup_p70 h1 h

theorem l0_readGroup_p52 {E : tl_E} {a1 : Nat} {x2 : Int32} {x3 : Int32} {x4 : Int32} {x5 : Int32} {x6 : Int32} {x7 : Int32}  {d7 : Option Value} {d8 : Option Value} {u : tl_S} {r : Int32} {v : tl_S} (h1 : tl_T E.2.1 a1 = some 0) (h : f0_readGroup_p52 a1 x2 x3 x4 x5 x6 x7 u = some (r, v)) : tl_R E mX0_readGroup tl_X0 (tl_ZB E mX0_readGroup (fun q w => q = some (.int r) ∧ w = v)) 0 0 (tl_HB E u) 52 [some (.ref a1), some (.int x2), some (.int x3), some (.int x4), some (.int x5), some (.int x6), some (.int x7), d7, d8] [] := by
  unfold f0_readGroup_p52 at h
  refine tl_iconst (v := 0) dX0_readGroup_52 ic_0 (?_)
  exact l0_readGroup_p53 h1 h

theorem l0_readGroup {E : tl_E} {a0 : Nat} {x1 : Int32}  {u : tl_S} {r : Int32} {v : tl_S} (h0 : tl_T E.2.1 a0 = some 0) (h : f0_readGroup a0 x1 u = some (r, v)) : tl_MB E mX0_readGroup [.ref a0, .int x1] u (fun q w => q = some (.int r) ∧ w = v) := by
  unfold f0_readGroup at h
  refine tl_start [some (.ref a0), some (.int x1), none, none, none, none, none, none, none] rfl rfl rfl (Nat.le_of_ble_eq_true rfl) ?_
  refine tl_iload_n dX0_readGroup_0 rfl (tl_sipush (v := 10000) dX0_readGroup_1 sp_10000 (tl_idiv dX0_readGroup_4 (by decide) (tl_bipush (v := 10) dX0_readGroup_5 bp_10 (tl_irem dX0_readGroup_7 (by decide) (tl_isto_n dX0_readGroup_8 (Nat.le_of_ble_eq_true rfl) (fun x3 e => ?_))))))
  have h := tl_leteq e h
  clear e
  refine tl_iload_n dX0_readGroup_9 rfl (tl_sipush (v := 1000) dX0_readGroup_10 sp_1000 (tl_idiv dX0_readGroup_13 (by decide) (tl_bipush (v := 10) dX0_readGroup_14 bp_10 (tl_irem dX0_readGroup_16 (by decide) (tl_isto_n dX0_readGroup_17 (Nat.le_of_ble_eq_true rfl) (fun x4 e => ?_))))))
  have h := tl_leteq e h
  clear e
  refine tl_iload_n dX0_readGroup_18 rfl (tl_bipush (v := 10) dX0_readGroup_19 bp_10 (tl_idiv dX0_readGroup_21 (by decide) (tl_bipush (v := 100) dX0_readGroup_22 bp_100 (tl_irem dX0_readGroup_24 (by decide) (tl_isto dX0_readGroup_25 (Nat.le_of_ble_eq_true rfl) (fun x5 e => ?_))))))
  have h := tl_leteq e h
  clear e
  refine tl_iload_n dX0_readGroup_27 rfl (tl_bipush (v := 100) dX0_readGroup_28 bp_100 (tl_irem dX0_readGroup_30 (by decide) (tl_isto dX0_readGroup_31 (Nat.le_of_ble_eq_true rfl) (fun x6 e => ?_))))
  have h := tl_leteq e h
  clear e
  refine tl_iload_n dX0_readGroup_33 rfl (tl_bipush (v := 10) dX0_readGroup_34 bp_10 (tl_irem dX0_readGroup_36 (by decide) (tl_isto dX0_readGroup_37 (Nat.le_of_ble_eq_true rfl) (fun x7 e => ?_))))
  have h := tl_leteq e h
  clear e
  refine tl_iload_n dX0_readGroup_39 rfl (tl_if_ne (tgt := 52) dX0_readGroup_40 (by decide) (fun c8 => ?_) (fun c8 => ?_))
  · replace h := tl_in h c8
    exact l0_readGroup_p52 h0 h
  · replace h := tl_ip h c8
    refine tl_iload dX0_readGroup_43 rfl (tl_if_ne (tgt := 52) dX0_readGroup_45 (by decide) (fun c9 => ?_) (fun c9 => ?_))
    · replace h := tl_in h c9
      exact l0_readGroup_p52 h0 h
    · replace h := tl_ip h c9
      refine tl_iconst (v := 1) dX0_readGroup_48 ic_1 (tl_goto (tgt := 53) dX0_readGroup_49 (by decide) (?_))
      exact l0_readGroup_p53 h0 h

theorem cs_X0_readTurn_275 : tl_cV mX0_readTurn mX0_become 26 5 := ⟨cd_X0_become, ml_X0_26, im_X0_become, se_X0_become, in_X0, ⟨by decide, by decide, by decide +kernel⟩, Nat.le_of_ble_eq_true rfl, Nat.le_of_ble_eq_true rfl⟩
theorem cs_X0_readTurn_75 : tl_cV mX0_readTurn mX0_become 26 5 := ⟨cd_X0_become, ml_X0_26, im_X0_become, se_X0_become, in_X0, ⟨by decide, by decide, by decide +kernel⟩, Nat.le_of_ble_eq_true rfl, Nat.le_of_ble_eq_true rfl⟩
theorem cs_X0_readTurn_95 : tl_cV mX0_readTurn mX0_become 26 5 := ⟨cd_X0_become, ml_X0_26, im_X0_become, se_X0_become, in_X0, ⟨by decide, by decide, by decide +kernel⟩, Nat.le_of_ble_eq_true rfl, Nat.le_of_ble_eq_true rfl⟩
theorem cs_X0_readTurn_130 : tl_cV mX0_readTurn mX0_become 26 5 := ⟨cd_X0_become, ml_X0_26, im_X0_become, se_X0_become, in_X0, ⟨by decide, by decide, by decide +kernel⟩, Nat.le_of_ble_eq_true rfl, Nat.le_of_ble_eq_true rfl⟩
theorem cs_X0_readTurn_146 : tl_cV mX0_readTurn mX0_become 26 5 := ⟨cd_X0_become, ml_X0_26, im_X0_become, se_X0_become, in_X0, ⟨by decide, by decide, by decide +kernel⟩, Nat.le_of_ble_eq_true rfl, Nat.le_of_ble_eq_true rfl⟩
theorem cs_X0_readTurn_173 : tl_cV mX0_readTurn mX0_become 26 5 := ⟨cd_X0_become, ml_X0_26, im_X0_become, se_X0_become, in_X0, ⟨by decide, by decide, by decide +kernel⟩, Nat.le_of_ble_eq_true rfl, Nat.le_of_ble_eq_true rfl⟩
theorem cs_X0_readTurn_197 : tl_cV mX0_readTurn mX0_become 26 5 := ⟨cd_X0_become, ml_X0_26, im_X0_become, se_X0_become, in_X0, ⟨by decide, by decide, by decide +kernel⟩, Nat.le_of_ble_eq_true rfl, Nat.le_of_ble_eq_true rfl⟩
theorem cs_X0_readTurn_237 : tl_cV mX0_readTurn mX0_become 26 5 := ⟨cd_X0_become, ml_X0_26, im_X0_become, se_X0_become, in_X0, ⟨by decide, by decide, by decide +kernel⟩, Nat.le_of_ble_eq_true rfl, Nat.le_of_ble_eq_true rfl⟩
theorem cs_X0_readTurn_222 : tl_cV mX0_readTurn mX0_become 26 5 := ⟨cd_X0_become, ml_X0_26, im_X0_become, se_X0_become, in_X0, ⟨by decide, by decide, by decide +kernel⟩, Nat.le_of_ble_eq_true rfl, Nat.le_of_ble_eq_true rfl⟩
theorem cs_X0_readTurn_257 : tl_cV mX0_readTurn mX0_become 26 5 := ⟨cd_X0_become, ml_X0_26, im_X0_become, se_X0_become, in_X0, ⟨by decide, by decide, by decide +kernel⟩, Nat.le_of_ble_eq_true rfl, Nat.le_of_ble_eq_true rfl⟩
def f0_readTurn (a0 : Nat) (x1 : Int32) (u : tl_S) : Option (tl_S) :=
  tl_let ((x1 / 16)) (fun x3 => (if ((x1 - x1 / 16 * 16)).toInt < 0 ∨ 9 < ((x1 - x1 / 16 * 16)).toInt then tl_b (f0_become a0 10 (1 + (x3 - x3 / 12 * 12)) 0 0 0 u) (fun u7 => some u7) else (if ((x1 - x1 / 16 * 16)).toInt = 0 then tl_b (f0_become a0 1 (1 + (x3 - x3 / 30 * 30)) 0 0 0 u) (fun u7 => some u7) else (if ((x1 - x1 / 16 * 16)).toInt = 1 then tl_b (f0_become a0 2 (x3 - x3 / 3 * 3) (1 + ((x3 / 4) - (x3 / 4) / 5 * 5)) 0 0 u) (fun u7 => some u7) else (if ((x1 - x1 / 16 * 16)).toInt = 2 then tl_b (f0_become a0 2 (x3 - x3 / 3 * 3) (1 + ((x3 / 4) - (x3 / 4) / 5 * 5)) 0 0 u) (fun u7 => some u7) else (if ((x1 - x1 / 16 * 16)).toInt = 3 then tl_b (f0_become a0 4 (x3 - x3 / 3 * 3) ((x3 / 4) - (x3 / 4) / 30 * 30) (1 + ((x3 / 128) - (x3 / 128) / 9 * 9)) ((x3 / 2048) - (x3 / 2048) / 100 * 100) u) (fun u7 => some u7) else (if ((x1 - x1 / 16 * 16)).toInt = 4 then tl_b (f0_become a0 5 (x3 - x3 / 200 * 200) 0 0 0 u) (fun u7 => some u7) else (if ((x1 - x1 / 16 * 16)).toInt = 5 then tl_b (f0_become a0 6 (x3 - x3 / 8 * 8) ((x3 / 8) - (x3 / 8) / 3 * 3) ((x3 / 32) - (x3 / 32) / 40 * 40) 0 u) (fun u7 => some u7) else (if ((x1 - x1 / 16 * 16)).toInt = 6 then tl_b (f0_become a0 6 (x3 - x3 / 8 * 8) ((x3 / 8) - (x3 / 8) / 3 * 3) ((x3 / 32) - (x3 / 32) / 40 * 40) 0 u) (fun u7 => some u7) else (if ((x1 - x1 / 16 * 16)).toInt = 7 then tl_b (f0_become a0 7 (x3 - x3 / 8 * 8) (1 + ((x3 / 8) - (x3 / 8) / 99 * 99)) 0 0 u) (fun u7 => some u7) else (if ((x1 - x1 / 16 * 16)).toInt = 8 then (if ((x3 / 16) - (x3 / 16) / 2 * 2) = 0 then tl_b (f0_become a0 9 0 (x3 - x3 / 13 * 13) 0 0 u) (fun u8 => some u8) else tl_b (f0_become a0 9 1 (x3 - x3 / 2 * 2) 0 0 u) (fun u8 => some u8)) else tl_b (f0_become a0 3 (x3 - x3 / 6 * 6) ((x3 / 8) - (x3 / 8) / 3 * 3) 0 0 u) (fun u7 => some u7))))))))))))

theorem l0_readTurn {E : tl_E} {a0 : Nat} {x1 : Int32}  {u : tl_S} {v : tl_S} (h0 : tl_T E.2.1 a0 = some 0) (h : f0_readTurn a0 x1 u = some v) : tl_MB E mX0_readTurn [.ref a0, .int x1] u (fun q w => q = none ∧ w = v) := by
  unfold f0_readTurn at h
  refine tl_start [some (.ref a0), some (.int x1), none] rfl rfl rfl (Nat.le_of_ble_eq_true rfl) ?_
  refine tl_iload_n dX0_readTurn_0 rfl (tl_bipush (v := 16) dX0_readTurn_1 bp_16 (tl_idiv dX0_readTurn_3 (by decide) (tl_isto_n dX0_readTurn_4 (Nat.le_of_ble_eq_true rfl) (fun x3 e => ?_))))
  have h := tl_leteq e h
  clear e
  refine tl_iload_n dX0_readTurn_5 rfl (tl_bipush (v := 16) dX0_readTurn_6 bp_16 (tl_irem dX0_readTurn_8 (by decide) (?_)))
  by_cases c4 : ((x1 - x1 / 16 * 16)).toInt < 0 ∨ 9 < ((x1 - x1 / 16 * 16)).toInt
  · replace h := tl_ip h c4
    refine tl_tableOut (tgt := 263) dX0_readTurn_9 c4 (by decide) ?_
    obtain ⟨u7, e6, h⟩ := tl_bi h
    exact tl_aload_n dX0_readTurn_263 rfl (tl_bipush (v := 10) dX0_readTurn_264 bp_10 (tl_iconst (v := 1) dX0_readTurn_266 ic_1 (tl_iload_n dX0_readTurn_267 rfl (tl_bipush (v := 12) dX0_readTurn_268 bp_12 (tl_irem dX0_readTurn_270 (by decide) (tl_iadd dX0_readTurn_271 (tl_iconst (v := 0) dX0_readTurn_272 ic_0 (tl_iconst (v := 0) dX0_readTurn_273 ic_0 (tl_iconst (v := 0) dX0_readTurn_274 ic_0 (tl_vV5 tl_ck0 rfl h0 (l0_become h0 e6) dX0_readTurn_275 cs_X0_readTurn_275 ⟨rfl, rfl⟩ ⟨Nat.zero_le _, Nat.zero_le _⟩ (Nat.le_of_ble_eq_true rfl) (tl_vretE dX0_readTurn_278 rfl h)))))))))))
  replace h := tl_in h c4
  by_cases c5_0 : ((x1 - x1 / 16 * 16)).toInt = 0
  · replace h := tl_ip h c5_0
    refine tl_tableIn (off := 55) (tgt := 64) dX0_readTurn_9 (by omega) (by omega) (by rw [c5_0]; rfl) (by decide) ?_
    obtain ⟨u7, e6, h⟩ := tl_bi h
    exact tl_aload_n dX0_readTurn_64 rfl (tl_iconst (v := 1) dX0_readTurn_65 ic_1 (tl_iconst (v := 1) dX0_readTurn_66 ic_1 (tl_iload_n dX0_readTurn_67 rfl (tl_bipush (v := 30) dX0_readTurn_68 bp_30 (tl_irem dX0_readTurn_70 (by decide) (tl_iadd dX0_readTurn_71 (tl_iconst (v := 0) dX0_readTurn_72 ic_0 (tl_iconst (v := 0) dX0_readTurn_73 ic_0 (tl_iconst (v := 0) dX0_readTurn_74 ic_0 (tl_vV5 tl_ck0 rfl h0 (l0_become h0 e6) dX0_readTurn_75 cs_X0_readTurn_75 ⟨rfl, rfl⟩ ⟨Nat.zero_le _, Nat.zero_le _⟩ (Nat.le_of_ble_eq_true rfl) (tl_goto (tgt := 278) dX0_readTurn_78 (by decide) (tl_vretE dX0_readTurn_278 rfl h))))))))))))
  replace h := tl_in h c5_0
  by_cases c5_1 : ((x1 - x1 / 16 * 16)).toInt = 1
  · replace h := tl_ip h c5_1
    refine tl_tableIn (off := 72) (tgt := 81) dX0_readTurn_9 (by omega) (by omega) (by rw [c5_1]; rfl) (by decide) ?_
    obtain ⟨u7, e6, h⟩ := tl_bi h
    exact tl_aload_n dX0_readTurn_81 rfl (tl_iconst (v := 2) dX0_readTurn_82 ic_2 (tl_iload_n dX0_readTurn_83 rfl (tl_iconst (v := 3) dX0_readTurn_84 ic_3 (tl_irem dX0_readTurn_85 (by decide) (tl_iconst (v := 1) dX0_readTurn_86 ic_1 (tl_iload_n dX0_readTurn_87 rfl (tl_iconst (v := 4) dX0_readTurn_88 ic_4 (tl_idiv dX0_readTurn_89 (by decide) (tl_iconst (v := 5) dX0_readTurn_90 ic_5 (tl_irem dX0_readTurn_91 (by decide) (tl_iadd dX0_readTurn_92 (tl_iconst (v := 0) dX0_readTurn_93 ic_0 (tl_iconst (v := 0) dX0_readTurn_94 ic_0 (tl_vV5 tl_ck0 rfl h0 (l0_become h0 e6) dX0_readTurn_95 cs_X0_readTurn_95 ⟨rfl, rfl⟩ ⟨Nat.zero_le _, Nat.zero_le _⟩ (Nat.le_of_ble_eq_true rfl) (tl_goto (tgt := 278) dX0_readTurn_98 (by decide) (tl_vretE dX0_readTurn_278 rfl h))))))))))))))))
  replace h := tl_in h c5_1
  by_cases c5_2 : ((x1 - x1 / 16 * 16)).toInt = 2
  · replace h := tl_ip h c5_2
    refine tl_tableIn (off := 72) (tgt := 81) dX0_readTurn_9 (by omega) (by omega) (by rw [c5_2]; rfl) (by decide) ?_
    obtain ⟨u7, e6, h⟩ := tl_bi h
    exact tl_aload_n dX0_readTurn_81 rfl (tl_iconst (v := 2) dX0_readTurn_82 ic_2 (tl_iload_n dX0_readTurn_83 rfl (tl_iconst (v := 3) dX0_readTurn_84 ic_3 (tl_irem dX0_readTurn_85 (by decide) (tl_iconst (v := 1) dX0_readTurn_86 ic_1 (tl_iload_n dX0_readTurn_87 rfl (tl_iconst (v := 4) dX0_readTurn_88 ic_4 (tl_idiv dX0_readTurn_89 (by decide) (tl_iconst (v := 5) dX0_readTurn_90 ic_5 (tl_irem dX0_readTurn_91 (by decide) (tl_iadd dX0_readTurn_92 (tl_iconst (v := 0) dX0_readTurn_93 ic_0 (tl_iconst (v := 0) dX0_readTurn_94 ic_0 (tl_vV5 tl_ck0 rfl h0 (l0_become h0 e6) dX0_readTurn_95 cs_X0_readTurn_95 ⟨rfl, rfl⟩ ⟨Nat.zero_le _, Nat.zero_le _⟩ (Nat.le_of_ble_eq_true rfl) (tl_goto (tgt := 278) dX0_readTurn_98 (by decide) (tl_vretE dX0_readTurn_278 rfl h))))))))))))))))
  replace h := tl_in h c5_2
  by_cases c5_3 : ((x1 - x1 / 16 * 16)).toInt = 3
  · replace h := tl_ip h c5_3
    refine tl_tableIn (off := 92) (tgt := 101) dX0_readTurn_9 (by omega) (by omega) (by rw [c5_3]; rfl) (by decide) ?_
    obtain ⟨u7, e6, h⟩ := tl_bi h
    exact tl_aload_n dX0_readTurn_101 rfl (tl_iconst (v := 4) dX0_readTurn_102 ic_4 (tl_iload_n dX0_readTurn_103 rfl (tl_iconst (v := 3) dX0_readTurn_104 ic_3 (tl_irem dX0_readTurn_105 (by decide) (tl_iload_n dX0_readTurn_106 rfl (tl_iconst (v := 4) dX0_readTurn_107 ic_4 (tl_idiv dX0_readTurn_108 (by decide) (tl_bipush (v := 30) dX0_readTurn_109 bp_30 (tl_irem dX0_readTurn_111 (by decide) (tl_iconst (v := 1) dX0_readTurn_112 ic_1 (tl_iload_n dX0_readTurn_113 rfl (tl_sipush (v := 128) dX0_readTurn_114 sp_128 (tl_idiv dX0_readTurn_117 (by decide) (tl_bipush (v := 9) dX0_readTurn_118 bp_9 (tl_irem dX0_readTurn_120 (by decide) (tl_iadd dX0_readTurn_121 (tl_iload_n dX0_readTurn_122 rfl (tl_sipush (v := 2048) dX0_readTurn_123 sp_2048 (tl_idiv dX0_readTurn_126 (by decide) (tl_bipush (v := 100) dX0_readTurn_127 bp_100 (tl_irem dX0_readTurn_129 (by decide) (tl_vV5 tl_ck0 rfl h0 (l0_become h0 e6) dX0_readTurn_130 cs_X0_readTurn_130 ⟨rfl, rfl⟩ ⟨Nat.zero_le _, Nat.zero_le _⟩ (Nat.le_of_ble_eq_true rfl) (tl_goto (tgt := 278) dX0_readTurn_133 (by decide) (tl_vretE dX0_readTurn_278 rfl h))))))))))))))))))))))))
  replace h := tl_in h c5_3
  by_cases c5_4 : ((x1 - x1 / 16 * 16)).toInt = 4
  · replace h := tl_ip h c5_4
    refine tl_tableIn (off := 127) (tgt := 136) dX0_readTurn_9 (by omega) (by omega) (by rw [c5_4]; rfl) (by decide) ?_
    obtain ⟨u7, e6, h⟩ := tl_bi h
    exact tl_aload_n dX0_readTurn_136 rfl (tl_iconst (v := 5) dX0_readTurn_137 ic_5 (tl_iload_n dX0_readTurn_138 rfl (tl_sipush (v := 200) dX0_readTurn_139 sp_200 (tl_irem dX0_readTurn_142 (by decide) (tl_iconst (v := 0) dX0_readTurn_143 ic_0 (tl_iconst (v := 0) dX0_readTurn_144 ic_0 (tl_iconst (v := 0) dX0_readTurn_145 ic_0 (tl_vV5 tl_ck0 rfl h0 (l0_become h0 e6) dX0_readTurn_146 cs_X0_readTurn_146 ⟨rfl, rfl⟩ ⟨Nat.zero_le _, Nat.zero_le _⟩ (Nat.le_of_ble_eq_true rfl) (tl_goto (tgt := 278) dX0_readTurn_149 (by decide) (tl_vretE dX0_readTurn_278 rfl h))))))))))
  replace h := tl_in h c5_4
  by_cases c5_5 : ((x1 - x1 / 16 * 16)).toInt = 5
  · replace h := tl_ip h c5_5
    refine tl_tableIn (off := 143) (tgt := 152) dX0_readTurn_9 (by omega) (by omega) (by rw [c5_5]; rfl) (by decide) ?_
    obtain ⟨u7, e6, h⟩ := tl_bi h
    exact tl_aload_n dX0_readTurn_152 rfl (tl_bipush (v := 6) dX0_readTurn_153 bp_6 (tl_iload_n dX0_readTurn_155 rfl (tl_bipush (v := 8) dX0_readTurn_156 bp_8 (tl_irem dX0_readTurn_158 (by decide) (tl_iload_n dX0_readTurn_159 rfl (tl_bipush (v := 8) dX0_readTurn_160 bp_8 (tl_idiv dX0_readTurn_162 (by decide) (tl_iconst (v := 3) dX0_readTurn_163 ic_3 (tl_irem dX0_readTurn_164 (by decide) (tl_iload_n dX0_readTurn_165 rfl (tl_bipush (v := 32) dX0_readTurn_166 bp_32 (tl_idiv dX0_readTurn_168 (by decide) (tl_bipush (v := 40) dX0_readTurn_169 bp_40 (tl_irem dX0_readTurn_171 (by decide) (tl_iconst (v := 0) dX0_readTurn_172 ic_0 (tl_vV5 tl_ck0 rfl h0 (l0_become h0 e6) dX0_readTurn_173 cs_X0_readTurn_173 ⟨rfl, rfl⟩ ⟨Nat.zero_le _, Nat.zero_le _⟩ (Nat.le_of_ble_eq_true rfl) (tl_goto (tgt := 278) dX0_readTurn_176 (by decide) (tl_vretE dX0_readTurn_278 rfl h))))))))))))))))))
  replace h := tl_in h c5_5
  by_cases c5_6 : ((x1 - x1 / 16 * 16)).toInt = 6
  · replace h := tl_ip h c5_6
    refine tl_tableIn (off := 143) (tgt := 152) dX0_readTurn_9 (by omega) (by omega) (by rw [c5_6]; rfl) (by decide) ?_
    obtain ⟨u7, e6, h⟩ := tl_bi h
    exact tl_aload_n dX0_readTurn_152 rfl (tl_bipush (v := 6) dX0_readTurn_153 bp_6 (tl_iload_n dX0_readTurn_155 rfl (tl_bipush (v := 8) dX0_readTurn_156 bp_8 (tl_irem dX0_readTurn_158 (by decide) (tl_iload_n dX0_readTurn_159 rfl (tl_bipush (v := 8) dX0_readTurn_160 bp_8 (tl_idiv dX0_readTurn_162 (by decide) (tl_iconst (v := 3) dX0_readTurn_163 ic_3 (tl_irem dX0_readTurn_164 (by decide) (tl_iload_n dX0_readTurn_165 rfl (tl_bipush (v := 32) dX0_readTurn_166 bp_32 (tl_idiv dX0_readTurn_168 (by decide) (tl_bipush (v := 40) dX0_readTurn_169 bp_40 (tl_irem dX0_readTurn_171 (by decide) (tl_iconst (v := 0) dX0_readTurn_172 ic_0 (tl_vV5 tl_ck0 rfl h0 (l0_become h0 e6) dX0_readTurn_173 cs_X0_readTurn_173 ⟨rfl, rfl⟩ ⟨Nat.zero_le _, Nat.zero_le _⟩ (Nat.le_of_ble_eq_true rfl) (tl_goto (tgt := 278) dX0_readTurn_176 (by decide) (tl_vretE dX0_readTurn_278 rfl h))))))))))))))))))
  replace h := tl_in h c5_6
  by_cases c5_7 : ((x1 - x1 / 16 * 16)).toInt = 7
  · replace h := tl_ip h c5_7
    refine tl_tableIn (off := 170) (tgt := 179) dX0_readTurn_9 (by omega) (by omega) (by rw [c5_7]; rfl) (by decide) ?_
    obtain ⟨u7, e6, h⟩ := tl_bi h
    exact tl_aload_n dX0_readTurn_179 rfl (tl_bipush (v := 7) dX0_readTurn_180 bp_7 (tl_iload_n dX0_readTurn_182 rfl (tl_bipush (v := 8) dX0_readTurn_183 bp_8 (tl_irem dX0_readTurn_185 (by decide) (tl_iconst (v := 1) dX0_readTurn_186 ic_1 (tl_iload_n dX0_readTurn_187 rfl (tl_bipush (v := 8) dX0_readTurn_188 bp_8 (tl_idiv dX0_readTurn_190 (by decide) (tl_bipush (v := 99) dX0_readTurn_191 bp_99 (tl_irem dX0_readTurn_193 (by decide) (tl_iadd dX0_readTurn_194 (tl_iconst (v := 0) dX0_readTurn_195 ic_0 (tl_iconst (v := 0) dX0_readTurn_196 ic_0 (tl_vV5 tl_ck0 rfl h0 (l0_become h0 e6) dX0_readTurn_197 cs_X0_readTurn_197 ⟨rfl, rfl⟩ ⟨Nat.zero_le _, Nat.zero_le _⟩ (Nat.le_of_ble_eq_true rfl) (tl_goto (tgt := 278) dX0_readTurn_200 (by decide) (tl_vretE dX0_readTurn_278 rfl h))))))))))))))))
  replace h := tl_in h c5_7
  by_cases c5_8 : ((x1 - x1 / 16 * 16)).toInt = 8
  · replace h := tl_ip h c5_8
    refine tl_tableIn (off := 194) (tgt := 203) dX0_readTurn_9 (by omega) (by omega) (by rw [c5_8]; rfl) (by decide) ?_
    refine tl_iload_n dX0_readTurn_203 rfl (tl_bipush (v := 16) dX0_readTurn_204 bp_16 (tl_idiv dX0_readTurn_206 (by decide) (tl_iconst (v := 2) dX0_readTurn_207 ic_2 (tl_irem dX0_readTurn_208 (by decide) (tl_if_ne (tgt := 228) dX0_readTurn_209 (by decide) (fun c6 => ?_) (fun c6 => ?_))))))
    · replace h := tl_in h c6
      obtain ⟨u8, e7, h⟩ := tl_bi h
      exact tl_aload_n dX0_readTurn_228 rfl (tl_bipush (v := 9) dX0_readTurn_229 bp_9 (tl_iconst (v := 1) dX0_readTurn_231 ic_1 (tl_iload_n dX0_readTurn_232 rfl (tl_iconst (v := 2) dX0_readTurn_233 ic_2 (tl_irem dX0_readTurn_234 (by decide) (tl_iconst (v := 0) dX0_readTurn_235 ic_0 (tl_iconst (v := 0) dX0_readTurn_236 ic_0 (tl_vV5 tl_ck0 rfl h0 (l0_become h0 e7) dX0_readTurn_237 cs_X0_readTurn_237 ⟨rfl, rfl⟩ ⟨Nat.zero_le _, Nat.zero_le _⟩ (Nat.le_of_ble_eq_true rfl) (tl_goto (tgt := 278) dX0_readTurn_240 (by decide) (tl_vretE dX0_readTurn_278 rfl h))))))))))
    · replace h := tl_ip h c6
      obtain ⟨u8, e7, h⟩ := tl_bi h
      exact tl_aload_n dX0_readTurn_212 rfl (tl_bipush (v := 9) dX0_readTurn_213 bp_9 (tl_iconst (v := 0) dX0_readTurn_215 ic_0 (tl_iload_n dX0_readTurn_216 rfl (tl_bipush (v := 13) dX0_readTurn_217 bp_13 (tl_irem dX0_readTurn_219 (by decide) (tl_iconst (v := 0) dX0_readTurn_220 ic_0 (tl_iconst (v := 0) dX0_readTurn_221 ic_0 (tl_vV5 tl_ck0 rfl h0 (l0_become h0 e7) dX0_readTurn_222 cs_X0_readTurn_222 ⟨rfl, rfl⟩ ⟨Nat.zero_le _, Nat.zero_le _⟩ (Nat.le_of_ble_eq_true rfl) (tl_goto (tgt := 278) dX0_readTurn_225 (by decide) (tl_vretE dX0_readTurn_278 rfl h))))))))))
  replace h := tl_in h c5_8
  have c5_9 : ((x1 - x1 / 16 * 16)).toInt = 9 := by omega
  refine tl_tableIn (off := 234) (tgt := 243) dX0_readTurn_9 (by omega) (by omega) (by rw [c5_9]; rfl) (by decide) ?_
  obtain ⟨u7, e6, h⟩ := tl_bi h
  exact tl_aload_n dX0_readTurn_243 rfl (tl_iconst (v := 3) dX0_readTurn_244 ic_3 (tl_iload_n dX0_readTurn_245 rfl (tl_bipush (v := 6) dX0_readTurn_246 bp_6 (tl_irem dX0_readTurn_248 (by decide) (tl_iload_n dX0_readTurn_249 rfl (tl_bipush (v := 8) dX0_readTurn_250 bp_8 (tl_idiv dX0_readTurn_252 (by decide) (tl_iconst (v := 3) dX0_readTurn_253 ic_3 (tl_irem dX0_readTurn_254 (by decide) (tl_iconst (v := 0) dX0_readTurn_255 ic_0 (tl_iconst (v := 0) dX0_readTurn_256 ic_0 (tl_vV5 tl_ck0 rfl h0 (l0_become h0 e6) dX0_readTurn_257 cs_X0_readTurn_257 ⟨rfl, rfl⟩ ⟨Nat.zero_le _, Nat.zero_le _⟩ (Nat.le_of_ble_eq_true rfl) (tl_goto (tgt := 278) dX0_readTurn_260 (by decide) (tl_vretE dX0_readTurn_278 rfl h))))))))))))))


def f4_copyFrom (a0 : Nat) (a1 : Nat) (u : tl_S) : Option (tl_S) :=
  tl_let ((tl_u u.1 a0 0 (u.1 a1 0), u.2) : tl_S) (fun u3 => tl_let ((tl_u u3.1 a0 1 (u3.1 a1 1), u3.2) : tl_S) (fun u4 => tl_let ((tl_u u4.1 a0 2 (u4.1 a1 2), u4.2) : tl_S) (fun u5 => tl_let ((tl_u u5.1 a0 3 (u5.1 a1 3), u5.2) : tl_S) (fun u6 => some u6))))

theorem l4_copyFrom {E : tl_E} {a0 : Nat} {a1 : Nat}  {u : tl_S} {v : tl_S} (h0 : tl_T E.2.1 a0 = some 4) (h1 : tl_T E.2.1 a1 = some 4) (h : f4_copyFrom a0 a1 u = some v) : tl_MB E mX4_copyFrom [.ref a0, .ref a1] u (fun q w => q = none ∧ w = v) := by
  unfold f4_copyFrom at h
  refine tl_start [some (.ref a0), some (.ref a1)] rfl rfl rfl (Nat.le_of_ble_eq_true rfl) ?_
  refine tl_aload_n dX4_copyFrom_0 rfl (tl_aload_n dX4_copyFrom_1 rfl (tl_geti (f := 0) tl_ck4 dX4_copyFrom_2 fl_X4_7 (Nat.le_of_ble_eq_true rfl) rfl h1 (tl_puti (f := 0) tl_ck4 dX4_copyFrom_5 fl_X4_7 (Nat.le_of_ble_eq_true rfl) rfl rfl rfl h0 (fun u3 e => ?_))))
  have h := tl_leteq e h
  clear e
  refine tl_aload_n dX4_copyFrom_8 rfl (tl_aload_n dX4_copyFrom_9 rfl (tl_geti (f := 1) tl_ck4 dX4_copyFrom_10 fl_X4_13 (Nat.le_of_ble_eq_true rfl) rfl h1 (tl_puti (f := 1) tl_ck4 dX4_copyFrom_13 fl_X4_13 (Nat.le_of_ble_eq_true rfl) rfl rfl rfl h0 (fun u4 e => ?_))))
  have h := tl_leteq e h
  clear e
  refine tl_aload_n dX4_copyFrom_16 rfl (tl_aload_n dX4_copyFrom_17 rfl (tl_geti (f := 2) tl_ck4 dX4_copyFrom_18 fl_X4_16 (Nat.le_of_ble_eq_true rfl) rfl h1 (tl_puti (f := 2) tl_ck4 dX4_copyFrom_21 fl_X4_16 (Nat.le_of_ble_eq_true rfl) rfl rfl rfl h0 (fun u5 e => ?_))))
  have h := tl_leteq e h
  clear e
  refine tl_aload_n dX4_copyFrom_24 rfl (tl_aload_n dX4_copyFrom_25 rfl (tl_geti (f := 3) tl_ck4 dX4_copyFrom_26 fl_X4_19 (Nat.le_of_ble_eq_true rfl) rfl h1 (tl_puti (f := 3) tl_ck4 dX4_copyFrom_29 fl_X4_19 (Nat.le_of_ble_eq_true rfl) rfl rfl rfl h0 (fun u6 e => ?_))))
  have h := tl_leteq e h
  clear e
  exact tl_vretE dX4_copyFrom_32 rfl h


def f4_burnsIn (a0 : Nat) (x1 : Int32) (u : tl_S) : Option (Int32 × tl_S) :=
  (if (u.1 a0 0) = x1 then (if (u.1 a0 3) ≤ 0 then some (0, u) else some (1, u)) else some (0, u))

theorem l4_burnsIn {E : tl_E} {a0 : Nat} {x1 : Int32}  {u : tl_S} {r : Int32} {v : tl_S} (h0 : tl_T E.2.1 a0 = some 4) (h : f4_burnsIn a0 x1 u = some (r, v)) : tl_MB E mX4_burnsIn [.ref a0, .int x1] u (fun q w => q = some (.int r) ∧ w = v) := by
  unfold f4_burnsIn at h
  refine tl_start [some (.ref a0), some (.int x1)] rfl rfl rfl (Nat.le_of_ble_eq_true rfl) ?_
  refine tl_aload_n dX4_burnsIn_0 rfl (tl_geti (f := 0) tl_ck4 dX4_burnsIn_1 fl_X4_7 (Nat.le_of_ble_eq_true rfl) rfl h0 (tl_iload_n dX4_burnsIn_4 rfl (tl_icmp_ne (tgt := 19) dX4_burnsIn_5 (by decide) (fun c3 => ?_) (fun c3 => ?_))))
  · replace h := tl_in h c3
    exact tl_iconst (v := 0) dX4_burnsIn_19 ic_0 (tl_iretE dX4_burnsIn_20 rfl rfl h)
  · replace h := tl_ip h c3
    refine tl_aload_n dX4_burnsIn_8 rfl (tl_geti (f := 3) tl_ck4 dX4_burnsIn_9 fl_X4_19 (Nat.le_of_ble_eq_true rfl) rfl h0 (tl_if_le (tgt := 19) dX4_burnsIn_12 (by decide) (fun c4 => ?_) (fun c4 => ?_)))
    · replace h := tl_ip h c4
      exact tl_iconst (v := 0) dX4_burnsIn_19 ic_0 (tl_iretE dX4_burnsIn_20 rfl rfl h)
    · replace h := tl_in h c4
      exact tl_iconst (v := 1) dX4_burnsIn_15 ic_1 (tl_goto (tgt := 20) dX4_burnsIn_16 (by decide) (tl_iretE dX4_burnsIn_20 rfl rfl h))

theorem cs_X4_lights_2 : tl_cV mX4_lights mX4_burnsIn 22 1 := ⟨cd_X4_burnsIn, ml_X4_22, im_X4_burnsIn, se_X4_burnsIn, in_X4, ⟨by decide, by decide, by decide +kernel⟩, Nat.le_of_ble_eq_true rfl, Nat.le_of_ble_eq_true rfl⟩
def f4_lights (a0 : Nat) (x1 : Int32) (x2 : Int32) (u : tl_S) : Option (Int32 × tl_S) :=
  tl_b2 (f4_burnsIn a0 x1 u) (fun x6 u5 => (if x6 = 0 then some (0, u5) else (if (u5.1 a0 2) < (x2 - (u5.1 a0 1)) then some (0, u5) else (if (u5.1 a0 2) < ((u5.1 a0 1) - x2) then some (0, u5) else some (1, u5)))))

theorem l4_lights {E : tl_E} {a0 : Nat} {x1 : Int32} {x2 : Int32}  {u : tl_S} {r : Int32} {v : tl_S} (h0 : tl_T E.2.1 a0 = some 4) (h : f4_lights a0 x1 x2 u = some (r, v)) : tl_MB E mX4_lights [.ref a0, .int x1, .int x2] u (fun q w => q = some (.int r) ∧ w = v) := by
  unfold f4_lights at h
  refine tl_start [some (.ref a0), some (.int x1), some (.int x2)] rfl rfl rfl (Nat.le_of_ble_eq_true rfl) ?_
  obtain ⟨x6, u5, e4, h⟩ := tl_b2i h
  refine tl_aload_n dX4_lights_0 rfl (tl_iload_n dX4_lights_1 rfl (tl_iV1 tl_ck4 rfl h0 (l4_burnsIn h0 e4) dX4_lights_2 cs_X4_lights_2 ⟨rfl, rfl⟩ ⟨Nat.zero_le _, Nat.zero_le _⟩ (Nat.le_of_ble_eq_true rfl) (tl_if_eq (tgt := 38) dX4_lights_5 (by decide) (fun c7 => ?_) (fun c7 => ?_))))
  · replace h := tl_ip h c7
    exact tl_iconst (v := 0) dX4_lights_38 ic_0 (tl_iretE dX4_lights_39 rfl rfl h)
  · replace h := tl_in h c7
    refine tl_iload_n dX4_lights_8 rfl (tl_aload_n dX4_lights_9 rfl (tl_geti (f := 1) tl_ck4 dX4_lights_10 fl_X4_13 (Nat.le_of_ble_eq_true rfl) rfl h0 (tl_isub dX4_lights_13 (tl_aload_n dX4_lights_14 rfl (tl_geti (f := 2) tl_ck4 dX4_lights_15 fl_X4_16 (Nat.le_of_ble_eq_true rfl) rfl h0 (tl_icmp_gt (tgt := 38) dX4_lights_18 (by decide) (fun c8 => ?_) (fun c8 => ?_)))))))
    · replace h := tl_ip h c8
      exact tl_iconst (v := 0) dX4_lights_38 ic_0 (tl_iretE dX4_lights_39 rfl rfl h)
    · replace h := tl_in h c8
      refine tl_aload_n dX4_lights_21 rfl (tl_geti (f := 1) tl_ck4 dX4_lights_22 fl_X4_13 (Nat.le_of_ble_eq_true rfl) rfl h0 (tl_iload_n dX4_lights_25 rfl (tl_isub dX4_lights_26 (tl_aload_n dX4_lights_27 rfl (tl_geti (f := 2) tl_ck4 dX4_lights_28 fl_X4_16 (Nat.le_of_ble_eq_true rfl) rfl h0 (tl_icmp_gt (tgt := 38) dX4_lights_31 (by decide) (fun c9 => ?_) (fun c9 => ?_)))))))
      · replace h := tl_ip h c9
        exact tl_iconst (v := 0) dX4_lights_38 ic_0 (tl_iretE dX4_lights_39 rfl rfl h)
      · replace h := tl_in h c9
        exact tl_iconst (v := 1) dX4_lights_34 ic_1 (tl_goto (tgt := 39) dX4_lights_35 (by decide) (tl_iretE dX4_lights_39 rfl rfl h))


def f7_copyFrom (a0 : Nat) (a1 : Nat) (u : tl_S) : Option (tl_S) :=
  tl_let ((tl_u u.1 a0 0 (u.1 a1 0), u.2) : tl_S) (fun u3 => tl_let ((tl_u u3.1 a0 1 (u3.1 a1 1), u3.2) : tl_S) (fun u4 => tl_let ((tl_u u4.1 a0 2 (u4.1 a1 2), u4.2) : tl_S) (fun u5 => tl_let ((tl_u u5.1 a0 3 (u5.1 a1 3), u5.2) : tl_S) (fun u6 => some u6))))

theorem l7_copyFrom {E : tl_E} {a0 : Nat} {a1 : Nat}  {u : tl_S} {v : tl_S} (h0 : tl_T E.2.1 a0 = some 7) (h1 : tl_T E.2.1 a1 = some 7) (h : f7_copyFrom a0 a1 u = some v) : tl_MB E mX7_copyFrom [.ref a0, .ref a1] u (fun q w => q = none ∧ w = v) := by
  unfold f7_copyFrom at h
  refine tl_start [some (.ref a0), some (.ref a1)] rfl rfl rfl (Nat.le_of_ble_eq_true rfl) ?_
  refine tl_aload_n dX7_copyFrom_0 rfl (tl_aload_n dX7_copyFrom_1 rfl (tl_geti (f := 0) tl_ck7 dX7_copyFrom_2 fl_X7_7 (Nat.le_of_ble_eq_true rfl) rfl h1 (tl_puti (f := 0) tl_ck7 dX7_copyFrom_5 fl_X7_7 (Nat.le_of_ble_eq_true rfl) rfl rfl rfl h0 (fun u3 e => ?_))))
  have h := tl_leteq e h
  clear e
  refine tl_aload_n dX7_copyFrom_8 rfl (tl_aload_n dX7_copyFrom_9 rfl (tl_geti (f := 1) tl_ck7 dX7_copyFrom_10 fl_X7_13 (Nat.le_of_ble_eq_true rfl) rfl h1 (tl_puti (f := 1) tl_ck7 dX7_copyFrom_13 fl_X7_13 (Nat.le_of_ble_eq_true rfl) rfl rfl rfl h0 (fun u4 e => ?_))))
  have h := tl_leteq e h
  clear e
  refine tl_aload_n dX7_copyFrom_16 rfl (tl_aload_n dX7_copyFrom_17 rfl (tl_geti (f := 2) tl_ck7 dX7_copyFrom_18 fl_X7_16 (Nat.le_of_ble_eq_true rfl) rfl h1 (tl_puti (f := 2) tl_ck7 dX7_copyFrom_21 fl_X7_16 (Nat.le_of_ble_eq_true rfl) rfl rfl rfl h0 (fun u5 e => ?_))))
  have h := tl_leteq e h
  clear e
  refine tl_aload_n dX7_copyFrom_24 rfl (tl_aload_n dX7_copyFrom_25 rfl (tl_geti (f := 3) tl_ck7 dX7_copyFrom_26 fl_X7_19 (Nat.le_of_ble_eq_true rfl) rfl h1 (tl_puti (f := 3) tl_ck7 dX7_copyFrom_29 fl_X7_19 (Nat.le_of_ble_eq_true rfl) rfl rfl rfl h0 (fun u6 e => ?_))))
  have h := tl_leteq e h
  clear e
  exact tl_vretE dX7_copyFrom_32 rfl h


def f8_copyFrom (a0 : Nat) (a1 : Nat) (u : tl_S) : Option (tl_S) :=
  tl_let ((tl_u u.1 a0 0 (u.1 a1 0), u.2) : tl_S) (fun u3 => tl_let ((tl_u u3.1 a0 1 (u3.1 a1 1), u3.2) : tl_S) (fun u4 => tl_let ((tl_u u4.1 a0 2 (u4.1 a1 2), u4.2) : tl_S) (fun u5 => tl_let ((tl_u u5.1 a0 3 (u5.1 a1 3), u5.2) : tl_S) (fun u6 => tl_let ((tl_u u6.1 a0 4 (u6.1 a1 4), u6.2) : tl_S) (fun u7 => some u7)))))

theorem l8_copyFrom {E : tl_E} {a0 : Nat} {a1 : Nat}  {u : tl_S} {v : tl_S} (h0 : tl_T E.2.1 a0 = some 8) (h1 : tl_T E.2.1 a1 = some 8) (h : f8_copyFrom a0 a1 u = some v) : tl_MB E mX8_copyFrom [.ref a0, .ref a1] u (fun q w => q = none ∧ w = v) := by
  unfold f8_copyFrom at h
  refine tl_start [some (.ref a0), some (.ref a1)] rfl rfl rfl (Nat.le_of_ble_eq_true rfl) ?_
  refine tl_aload_n dX8_copyFrom_0 rfl (tl_aload_n dX8_copyFrom_1 rfl (tl_geti (f := 0) tl_ck8 dX8_copyFrom_2 fl_X8_7 (Nat.le_of_ble_eq_true rfl) rfl h1 (tl_puti (f := 0) tl_ck8 dX8_copyFrom_5 fl_X8_7 (Nat.le_of_ble_eq_true rfl) rfl rfl rfl h0 (fun u3 e => ?_))))
  have h := tl_leteq e h
  clear e
  refine tl_aload_n dX8_copyFrom_8 rfl (tl_aload_n dX8_copyFrom_9 rfl (tl_geti (f := 1) tl_ck8 dX8_copyFrom_10 fl_X8_13 (Nat.le_of_ble_eq_true rfl) rfl h1 (tl_puti (f := 1) tl_ck8 dX8_copyFrom_13 fl_X8_13 (Nat.le_of_ble_eq_true rfl) rfl rfl rfl h0 (fun u4 e => ?_))))
  have h := tl_leteq e h
  clear e
  refine tl_aload_n dX8_copyFrom_16 rfl (tl_aload_n dX8_copyFrom_17 rfl (tl_geti (f := 2) tl_ck8 dX8_copyFrom_18 fl_X8_16 (Nat.le_of_ble_eq_true rfl) rfl h1 (tl_puti (f := 2) tl_ck8 dX8_copyFrom_21 fl_X8_16 (Nat.le_of_ble_eq_true rfl) rfl rfl rfl h0 (fun u5 e => ?_))))
  have h := tl_leteq e h
  clear e
  refine tl_aload_n dX8_copyFrom_24 rfl (tl_aload_n dX8_copyFrom_25 rfl (tl_geti (f := 3) tl_ck8 dX8_copyFrom_26 fl_X8_19 (Nat.le_of_ble_eq_true rfl) rfl h1 (tl_puti (f := 3) tl_ck8 dX8_copyFrom_29 fl_X8_19 (Nat.le_of_ble_eq_true rfl) rfl rfl rfl h0 (fun u6 e => ?_))))
  have h := tl_leteq e h
  clear e
  refine tl_aload_n dX8_copyFrom_32 rfl (tl_aload_n dX8_copyFrom_33 rfl (tl_geti (f := 4) tl_ck8 dX8_copyFrom_34 fl_X8_22 (Nat.le_of_ble_eq_true rfl) rfl h1 (tl_puti (f := 4) tl_ck8 dX8_copyFrom_37 fl_X8_22 (Nat.le_of_ble_eq_true rfl) rfl rfl rfl h0 (fun u7 e => ?_))))
  have h := tl_leteq e h
  clear e
  exact tl_vretE dX8_copyFrom_40 rfl h

theorem cs_X3_copyFrom_20 : tl_cV mX3_copyFrom mX8_copyFrom 22 1 := ⟨cd_X8_copyFrom, ml_X3_22, im_X8_copyFrom, se_X8_copyFrom, in_X8, ⟨by decide, by decide, by decide +kernel⟩, Nat.le_of_ble_eq_true rfl, Nat.le_of_ble_eq_true rfl⟩
def f3_copyFrom_p2 : Nat → Nat → Nat → Int32 → tl_S → Option (tl_S)
  | 0, _, _, _, _ => none
  | fu + 1, a1, a2, x3, u =>
  (if 6 ≤ x3 then tl_let ((tl_u u.1 a1 1 (u.1 a2 1), u.2) : tl_S) (fun u6 => tl_let ((tl_u u6.1 a1 2 (u6.1 a2 2), u6.2) : tl_S) (fun u7 => tl_let ((tl_u u7.1 a1 3 (u7.1 a2 3), u7.2) : tl_S) (fun u8 => tl_let ((tl_u u8.1 a1 4 (u8.1 a2 4), u8.2) : tl_S) (fun u9 => tl_let ((tl_u u9.1 a1 5 (u9.1 a2 5), u9.2) : tl_S) (fun u10 => tl_g ((u10.1 a2 6) = 0 ∨ (u10.1 a2 6) = 1) (tl_let ((tl_u u10.1 a1 6 (u10.1 a2 6), u10.2) : tl_S) (fun u11 => some u11))))))) else tl_g (¬ (x3 < 0 ∨ 6 ≤ x3.toNatClampNeg)) (tl_g ((a1 + 1) < (u.2.1 (a1 + 1) x3.toNatClampNeg) ∧ (u.2.1 (a1 + 1) x3.toNatClampNeg) < (a1 + 1) + 7) (tl_g (¬ (x3 < 0 ∨ 6 ≤ x3.toNatClampNeg)) (tl_g ((a2 + 1) < (u.2.1 (a2 + 1) x3.toNatClampNeg) ∧ (u.2.1 (a2 + 1) x3.toNatClampNeg) < (a2 + 1) + 7) (tl_b (f8_copyFrom (u.2.1 (a1 + 1) x3.toNatClampNeg) (u.2.1 (a2 + 1) x3.toNatClampNeg) u) (fun u11 => tl_let (x3 + 1) (fun x12 => f3_copyFrom_p2 fu a1 a2 x12 u11)))))))

def f3_copyFrom (a0 : Nat) (a1 : Nat) (u : tl_S) : Option (tl_S) :=
  f3_copyFrom_p2 tl_F a0 a1 0 u

theorem l3_copyFrom_p2 {E : tl_E}  {v : tl_S} : ∀ (n : Nat) (a1 : Nat) (a2 : Nat) (x3 : Int32) (u : tl_S) , tl_T E.2.1 a1 = some 3 → tl_T E.2.1 a2 = some 3 → f3_copyFrom_p2 n a1 a2 x3 u = some v → tl_R E mX3_copyFrom tl_X0 (tl_ZB E mX3_copyFrom (fun q w => q = none ∧ w = v)) 0 0 (tl_HB E u) 2 [some (.ref a1), some (.ref a2), some (.int x3)] [] := by
  intro n
  induction n with
  | zero => intro a1 a2 x3 u  h1 h2 h; exact absurd h (by simp [f3_copyFrom_p2])
  | succ n ih =>
    intro a1 a2 x3 u  h1 h2 h
    rw [f3_copyFrom_p2] at h
    refine tl_iload_n dX3_copyFrom_2 rfl (tl_bipush (v := 6) dX3_copyFrom_3 bp_6 (tl_icmp_ge (tgt := 29) dX3_copyFrom_5 (by decide) (fun c5 => ?_) (fun c5 => ?_)))
    · replace h := tl_ip h c5
      refine tl_aload_n dX3_copyFrom_29 rfl (tl_aload_n dX3_copyFrom_30 rfl (tl_geti (f := 1) tl_ck3 dX3_copyFrom_31 fl_X3_26 (Nat.le_of_ble_eq_true rfl) rfl h2 (tl_puti (f := 1) tl_ck3 dX3_copyFrom_34 fl_X3_26 (Nat.le_of_ble_eq_true rfl) rfl rfl rfl h1 (fun u6 e => ?_))))
      have h := tl_leteq e h
      clear e
      refine tl_aload_n dX3_copyFrom_37 rfl (tl_aload_n dX3_copyFrom_38 rfl (tl_geti (f := 2) tl_ck3 dX3_copyFrom_39 fl_X3_29 (Nat.le_of_ble_eq_true rfl) rfl h2 (tl_puti (f := 2) tl_ck3 dX3_copyFrom_42 fl_X3_29 (Nat.le_of_ble_eq_true rfl) rfl rfl rfl h1 (fun u7 e => ?_))))
      have h := tl_leteq e h
      clear e
      refine tl_aload_n dX3_copyFrom_45 rfl (tl_aload_n dX3_copyFrom_46 rfl (tl_geti (f := 3) tl_ck3 dX3_copyFrom_47 fl_X3_32 (Nat.le_of_ble_eq_true rfl) rfl h2 (tl_puti (f := 3) tl_ck3 dX3_copyFrom_50 fl_X3_32 (Nat.le_of_ble_eq_true rfl) rfl rfl rfl h1 (fun u8 e => ?_))))
      have h := tl_leteq e h
      clear e
      refine tl_aload_n dX3_copyFrom_53 rfl (tl_aload_n dX3_copyFrom_54 rfl (tl_geti (f := 4) tl_ck3 dX3_copyFrom_55 fl_X3_17 (Nat.le_of_ble_eq_true rfl) rfl h2 (tl_puti (f := 4) tl_ck3 dX3_copyFrom_58 fl_X3_17 (Nat.le_of_ble_eq_true rfl) rfl rfl rfl h1 (fun u9 e => ?_))))
      have h := tl_leteq e h
      clear e
      refine tl_aload_n dX3_copyFrom_61 rfl (tl_aload_n dX3_copyFrom_62 rfl (tl_geti (f := 5) tl_ck3 dX3_copyFrom_63 fl_X3_35 (Nat.le_of_ble_eq_true rfl) rfl h2 (tl_puti (f := 5) tl_ck3 dX3_copyFrom_66 fl_X3_35 (Nat.le_of_ble_eq_true rfl) rfl rfl rfl h1 (fun u10 e => ?_))))
      have h := tl_leteq e h
      clear e
      obtain ⟨g12, h⟩ := tl_gi h
      refine tl_aload_n dX3_copyFrom_69 rfl (tl_aload_n dX3_copyFrom_70 rfl (tl_geti (f := 6) tl_ck3 dX3_copyFrom_71 fl_X3_38 (Nat.le_of_ble_eq_true rfl) rfl h2 (tl_putz (f := 6) tl_ck3 dX3_copyFrom_74 fl_X3_38 (Nat.le_of_ble_eq_true rfl) rfl rfl rfl g12 h1 (fun u11 e => ?_))))
      have h := tl_leteq e h
      clear e
      exact tl_vretE dX3_copyFrom_77 rfl h
    · replace h := tl_in h c5
      obtain ⟨g6, h⟩ := tl_gi h
      obtain ⟨g7, h⟩ := tl_gi h
      obtain ⟨g8, h⟩ := tl_gi h
      obtain ⟨g9, h⟩ := tl_gi h
      obtain ⟨u11, e10, h⟩ := tl_bi h
      refine tl_aload_n dX3_copyFrom_8 rfl (tl_getr (f := 0) (o := 1) tl_ck3 dX3_copyFrom_9 fl_X3_11 (Nat.le_of_ble_eq_true rfl) rfl h1 (tl_iload_n dX3_copyFrom_12 rfl (tl_ald21 dX3_copyFrom_13 (tt_3_0 h1) (x3.toNatClampNeg) g6 rfl (tl_aload_n dX3_copyFrom_14 rfl (tl_getr (f := 0) (o := 1) tl_ck3 dX3_copyFrom_15 fl_X3_11 (Nat.le_of_ble_eq_true rfl) rfl h2 (tl_iload_n dX3_copyFrom_18 rfl (tl_ald21 dX3_copyFrom_19 (tt_3_0 h2) (x3.toNatClampNeg) g8 rfl (tl_vV1 tl_ck8 rfl (ta_21b (tt_3_0 h1) g7) (l8_copyFrom (ta_21b (tt_3_0 h1) g7) (ta_21b (tt_3_0 h2) g9) e10) dX3_copyFrom_20 cs_X3_copyFrom_20 ⟨rfl, rfl⟩ ⟨Nat.zero_le _, Nat.zero_le _⟩ (Nat.le_of_ble_eq_true rfl) (tl_iincK dX3_copyFrom_23 rfl (ii_1 _) (Nat.le_of_ble_eq_true rfl) (fun x12 e => ?_))))))))))
      have h := tl_leteq e h
      clear e
      refine tl_goto (tgt := 2) dX3_copyFrom_26 (by decide) (?_)
      exact ih _ _ _ _  h1 h2 h

theorem l3_copyFrom {E : tl_E} {a0 : Nat} {a1 : Nat}  {u : tl_S} {v : tl_S} (h0 : tl_T E.2.1 a0 = some 3) (h1 : tl_T E.2.1 a1 = some 3) (h : f3_copyFrom a0 a1 u = some v) : tl_MB E mX3_copyFrom [.ref a0, .ref a1] u (fun q w => q = none ∧ w = v) := by
  unfold f3_copyFrom at h
  refine tl_start [some (.ref a0), some (.ref a1), none] rfl rfl rfl (Nat.le_of_ble_eq_true rfl) ?_
  refine tl_iconst (v := 0) dX3_copyFrom_0 ic_0 (tl_istore_n dX3_copyFrom_1 (Nat.le_of_ble_eq_true rfl) (?_))
  exact l3_copyFrom_p2 tl_F _ _ _ _  h0 h1 h


def f3_hasOrder (a0 : Nat) (x1 : Int32) (u : tl_S) : Option (Int32 × tl_S) :=
  (if x1 < 0 then some (0, u) else (if (u.1 a0 1) ≤ x1 then some (0, u) else some (1, u)))

theorem l3_hasOrder {E : tl_E} {a0 : Nat} {x1 : Int32}  {u : tl_S} {r : Int32} {v : tl_S} (h0 : tl_T E.2.1 a0 = some 3) (h : f3_hasOrder a0 x1 u = some (r, v)) : tl_MB E mX3_hasOrder [.ref a0, .int x1] u (fun q w => q = some (.int r) ∧ w = v) := by
  unfold f3_hasOrder at h
  refine tl_start [some (.ref a0), some (.int x1)] rfl rfl rfl (Nat.le_of_ble_eq_true rfl) ?_
  refine tl_iload_n dX3_hasOrder_0 rfl (tl_if_lt (tgt := 16) dX3_hasOrder_1 (by decide) (fun c3 => ?_) (fun c3 => ?_))
  · replace h := tl_ip h c3
    exact tl_iconst (v := 0) dX3_hasOrder_16 ic_0 (tl_iretE dX3_hasOrder_17 rfl rfl h)
  · replace h := tl_in h c3
    refine tl_iload_n dX3_hasOrder_4 rfl (tl_aload_n dX3_hasOrder_5 rfl (tl_geti (f := 1) tl_ck3 dX3_hasOrder_6 fl_X3_26 (Nat.le_of_ble_eq_true rfl) rfl h0 (tl_icmp_ge (tgt := 16) dX3_hasOrder_9 (by decide) (fun c4 => ?_) (fun c4 => ?_))))
    · replace h := tl_ip h c4
      exact tl_iconst (v := 0) dX3_hasOrder_16 ic_0 (tl_iretE dX3_hasOrder_17 rfl rfl h)
    · replace h := tl_in h c4
      exact tl_iconst (v := 1) dX3_hasOrder_12 ic_1 (tl_goto (tgt := 17) dX3_hasOrder_13 (by decide) (tl_iretE dX3_hasOrder_17 rfl rfl h))


def f3_hasRoomForOrder (a0 : Nat) (u : tl_S) : Option (Int32 × tl_S) :=
  (if 6 ≤ (u.1 a0 1) then some (0, u) else some (1, u))

theorem l3_hasRoomForOrder {E : tl_E} {a0 : Nat}  {u : tl_S} {r : Int32} {v : tl_S} (h0 : tl_T E.2.1 a0 = some 3) (h : f3_hasRoomForOrder a0 u = some (r, v)) : tl_MB E mX3_hasRoomForOrder [.ref a0] u (fun q w => q = some (.int r) ∧ w = v) := by
  unfold f3_hasRoomForOrder at h
  refine tl_start [some (.ref a0)] rfl rfl rfl (Nat.le_of_ble_eq_true rfl) ?_
  refine tl_aload_n dX3_hasRoomForOrder_0 rfl (tl_geti (f := 1) tl_ck3 dX3_hasRoomForOrder_1 fl_X3_26 (Nat.le_of_ble_eq_true rfl) rfl h0 (tl_bipush (v := 6) dX3_hasRoomForOrder_4 bp_6 (tl_icmp_ge (tgt := 13) dX3_hasRoomForOrder_6 (by decide) (fun c2 => ?_) (fun c2 => ?_))))
  · replace h := tl_ip h c2
    exact tl_iconst (v := 0) dX3_hasRoomForOrder_13 ic_0 (tl_iretE dX3_hasRoomForOrder_14 rfl rfl h)
  · replace h := tl_in h c2
    exact tl_iconst (v := 1) dX3_hasRoomForOrder_9 ic_1 (tl_goto (tgt := 14) dX3_hasRoomForOrder_10 (by decide) (tl_iretE dX3_hasRoomForOrder_14 rfl rfl h))

theorem cs_X3_addOrder_1 : tl_cV mX3_addOrder mX3_hasRoomForOrder 46 0 := ⟨cd_X3_hasRoomForOrder, ml_X3_46, im_X3_hasRoomForOrder, se_X3_hasRoomForOrder, in_X3, ⟨by decide, by decide, by decide +kernel⟩, Nat.le_of_ble_eq_true rfl, Nat.le_of_ble_eq_true rfl⟩
def f3_addOrder (a0 : Nat) (x1 : Int32) (x2 : Int32) (x3 : Int32) (x4 : Int32) (x5 : Int32) (u : tl_S) : Option (Int32 × tl_S) :=
  tl_b2 (f3_hasRoomForOrder a0 u) (fun x9 u8 => (if x9 = 0 then some ((u8.1 a0 1), u8) else tl_g (¬ ((u8.1 a0 1) < 0 ∨ 6 ≤ (u8.1 a0 1).toNatClampNeg)) (tl_g ((a0 + 1) < (u8.2.1 (a0 + 1) (u8.1 a0 1).toNatClampNeg) ∧ (u8.2.1 (a0 + 1) (u8.1 a0 1).toNatClampNeg) < (a0 + 1) + 7) (tl_let ((tl_u u8.1 (u8.2.1 (a0 + 1) (u8.1 a0 1).toNatClampNeg) 0 x1, u8.2) : tl_S) (fun u13 => tl_let ((tl_u u13.1 (u8.2.1 (a0 + 1) (u8.1 a0 1).toNatClampNeg) 1 x2, u13.2) : tl_S) (fun u14 => tl_let ((tl_u u14.1 (u8.2.1 (a0 + 1) (u8.1 a0 1).toNatClampNeg) 2 x3, u14.2) : tl_S) (fun u15 => tl_let ((tl_u u15.1 (u8.2.1 (a0 + 1) (u8.1 a0 1).toNatClampNeg) 3 x4, u15.2) : tl_S) (fun u16 => tl_let ((tl_u u16.1 (u8.2.1 (a0 + 1) (u8.1 a0 1).toNatClampNeg) 4 x5, u16.2) : tl_S) (fun u17 => tl_let ((tl_u u17.1 a0 1 ((u17.1 a0 1) + 1), u17.2) : tl_S) (fun u18 => some ((u18.1 a0 1), u18)))))))))))

theorem l3_addOrder {E : tl_E} {a0 : Nat} {x1 : Int32} {x2 : Int32} {x3 : Int32} {x4 : Int32} {x5 : Int32}  {u : tl_S} {r : Int32} {v : tl_S} (h0 : tl_T E.2.1 a0 = some 3) (h : f3_addOrder a0 x1 x2 x3 x4 x5 u = some (r, v)) : tl_MB E mX3_addOrder [.ref a0, .int x1, .int x2, .int x3, .int x4, .int x5] u (fun q w => q = some (.int r) ∧ w = v) := by
  unfold f3_addOrder at h
  refine tl_start [some (.ref a0), some (.int x1), some (.int x2), some (.int x3), some (.int x4), some (.int x5), none] rfl rfl rfl (Nat.le_of_ble_eq_true rfl) ?_
  obtain ⟨x9, u8, e7, h⟩ := tl_b2i h
  refine tl_aload_n dX3_addOrder_0 rfl (tl_iV0 tl_ck3 rfl h0 (l3_hasRoomForOrder h0 e7) dX3_addOrder_1 cs_X3_addOrder_1 ⟨rfl, rfl⟩ ⟨Nat.zero_le _, Nat.zero_le _⟩ (Nat.le_of_ble_eq_true rfl) (tl_if_eq (tgt := 60) dX3_addOrder_4 (by decide) (fun c10 => ?_) (fun c10 => ?_)))
  · replace h := tl_ip h c10
    exact tl_aload_n dX3_addOrder_60 rfl (tl_geti (f := 1) tl_ck3 dX3_addOrder_61 fl_X3_26 (Nat.le_of_ble_eq_true rfl) rfl h0 (tl_iretE dX3_addOrder_64 rfl rfl h))
  · replace h := tl_in h c10
    obtain ⟨g11, h⟩ := tl_gi h
    obtain ⟨g12, h⟩ := tl_gi h
    refine tl_aload_n dX3_addOrder_7 rfl (tl_getr (f := 0) (o := 1) tl_ck3 dX3_addOrder_8 fl_X3_11 (Nat.le_of_ble_eq_true rfl) rfl h0 (tl_aload_n dX3_addOrder_11 rfl (tl_geti (f := 1) tl_ck3 dX3_addOrder_12 fl_X3_26 (Nat.le_of_ble_eq_true rfl) rfl h0 (tl_ald21 dX3_addOrder_15 (tt_3_0 h0) ((u8.1 a0 1).toNatClampNeg) g11 rfl (tl_astore dX3_addOrder_16 (Nat.le_of_ble_eq_true rfl) (tl_aload dX3_addOrder_18 rfl (tl_iload_n dX3_addOrder_20 rfl (tl_puti (f := 0) tl_ck8 dX3_addOrder_21 fl_X3_50 (Nat.le_of_ble_eq_true rfl) rfl rfl rfl (ta_21b (tt_3_0 h0) g12) (fun u13 e => ?_)))))))))
    have h := tl_leteq e h
    clear e
    refine tl_aload dX3_addOrder_24 rfl (tl_iload_n dX3_addOrder_26 rfl (tl_puti (f := 1) tl_ck8 dX3_addOrder_27 fl_X3_53 (Nat.le_of_ble_eq_true rfl) rfl rfl rfl (ta_21b (tt_3_0 h0) g12) (fun u14 e => ?_)))
    have h := tl_leteq e h
    clear e
    refine tl_aload dX3_addOrder_30 rfl (tl_iload_n dX3_addOrder_32 rfl (tl_puti (f := 2) tl_ck8 dX3_addOrder_33 fl_X3_54 (Nat.le_of_ble_eq_true rfl) rfl rfl rfl (ta_21b (tt_3_0 h0) g12) (fun u15 e => ?_)))
    have h := tl_leteq e h
    clear e
    refine tl_aload dX3_addOrder_36 rfl (tl_iload dX3_addOrder_38 rfl (tl_puti (f := 3) tl_ck8 dX3_addOrder_40 fl_X3_55 (Nat.le_of_ble_eq_true rfl) rfl rfl rfl (ta_21b (tt_3_0 h0) g12) (fun u16 e => ?_)))
    have h := tl_leteq e h
    clear e
    refine tl_aload dX3_addOrder_43 rfl (tl_iload dX3_addOrder_45 rfl (tl_puti (f := 4) tl_ck8 dX3_addOrder_47 fl_X3_56 (Nat.le_of_ble_eq_true rfl) rfl rfl rfl (ta_21b (tt_3_0 h0) g12) (fun u17 e => ?_)))
    have h := tl_leteq e h
    clear e
    refine tl_aload_n dX3_addOrder_50 rfl (tl_dup dX3_addOrder_51 rfl (tl_geti (f := 1) tl_ck3 dX3_addOrder_52 fl_X3_26 (Nat.le_of_ble_eq_true rfl) rfl h0 (tl_iconst (v := 1) dX3_addOrder_55 ic_1 (tl_iadd dX3_addOrder_56 (tl_puti (f := 1) tl_ck3 dX3_addOrder_57 fl_X3_26 (Nat.le_of_ble_eq_true rfl) rfl rfl rfl h0 (fun u18 e => ?_))))))
    have h := tl_leteq e h
    clear e
    exact tl_aload_n dX3_addOrder_60 rfl (tl_geti (f := 1) tl_ck3 dX3_addOrder_61 fl_X3_26 (Nat.le_of_ble_eq_true rfl) rfl h0 (tl_iretE dX3_addOrder_64 rfl rfl h))

theorem cs_X3_addHang_6 : tl_cV mX3_addHang mX3_addOrder 42 5 := ⟨cd_X3_addOrder, ml_X3_42, im_X3_addOrder, se_X3_addOrder, in_X3, ⟨by decide, by decide, by decide +kernel⟩, Nat.le_of_ble_eq_true rfl, Nat.le_of_ble_eq_true rfl⟩
def f3_addHang (a0 : Nat) (x1 : Int32) (x2 : Int32) (x3 : Int32) (u : tl_S) : Option (Int32 × tl_S) :=
  tl_b2 (f3_addOrder a0 0 x1 x2 x3 0 u) (fun x7 u6 => some (x7, u6))

theorem l3_addHang {E : tl_E} {a0 : Nat} {x1 : Int32} {x2 : Int32} {x3 : Int32}  {u : tl_S} {r : Int32} {v : tl_S} (h0 : tl_T E.2.1 a0 = some 3) (h : f3_addHang a0 x1 x2 x3 u = some (r, v)) : tl_MB E mX3_addHang [.ref a0, .int x1, .int x2, .int x3] u (fun q w => q = some (.int r) ∧ w = v) := by
  unfold f3_addHang at h
  refine tl_start [some (.ref a0), some (.int x1), some (.int x2), some (.int x3)] rfl rfl rfl (Nat.le_of_ble_eq_true rfl) ?_
  obtain ⟨x7, u6, e5, h⟩ := tl_b2i h
  exact tl_aload_n dX3_addHang_0 rfl (tl_iconst (v := 0) dX3_addHang_1 ic_0 (tl_iload_n dX3_addHang_2 rfl (tl_iload_n dX3_addHang_3 rfl (tl_iload_n dX3_addHang_4 rfl (tl_iconst (v := 0) dX3_addHang_5 ic_0 (tl_iV5 tl_ck3 rfl h0 (l3_addOrder h0 e5) dX3_addHang_6 cs_X3_addHang_6 ⟨rfl, rfl⟩ ⟨Nat.zero_le _, Nat.zero_le _⟩ (Nat.le_of_ble_eq_true rfl) (tl_iretE dX3_addHang_9 rfl rfl h)))))))

theorem cs_X3_addFill_6 : tl_cV mX3_addFill mX3_addOrder 42 5 := ⟨cd_X3_addOrder, ml_X3_42, im_X3_addOrder, se_X3_addOrder, in_X3, ⟨by decide, by decide, by decide +kernel⟩, Nat.le_of_ble_eq_true rfl, Nat.le_of_ble_eq_true rfl⟩
def f3_addFill (a0 : Nat) (x1 : Int32) (x2 : Int32) (u : tl_S) : Option (Int32 × tl_S) :=
  tl_b2 (f3_addOrder a0 1 x1 (-1) (-1) x2 u) (fun x6 u5 => some (x6, u5))

theorem l3_addFill {E : tl_E} {a0 : Nat} {x1 : Int32} {x2 : Int32}  {u : tl_S} {r : Int32} {v : tl_S} (h0 : tl_T E.2.1 a0 = some 3) (h : f3_addFill a0 x1 x2 u = some (r, v)) : tl_MB E mX3_addFill [.ref a0, .int x1, .int x2] u (fun q w => q = some (.int r) ∧ w = v) := by
  unfold f3_addFill at h
  refine tl_start [some (.ref a0), some (.int x1), some (.int x2)] rfl rfl rfl (Nat.le_of_ble_eq_true rfl) ?_
  obtain ⟨x6, u5, e4, h⟩ := tl_b2i h
  exact tl_aload_n dX3_addFill_0 rfl (tl_iconst (v := 1) dX3_addFill_1 ic_1 (tl_iload_n dX3_addFill_2 rfl (tl_iconst (v := (-1)) dX3_addFill_3 ic_m1 (tl_iconst (v := (-1)) dX3_addFill_4 ic_m1 (tl_iload_n dX3_addFill_5 rfl (tl_iV5 tl_ck3 rfl h0 (l3_addOrder h0 e4) dX3_addFill_6 cs_X3_addFill_6 ⟨rfl, rfl⟩ ⟨Nat.zero_le _, Nat.zero_le _⟩ (Nat.le_of_ble_eq_true rfl) (tl_iretE dX3_addFill_9 rfl rfl h)))))))


def f3_removeOrder_p23 : Nat → Nat → Int32 → Nat → Int32 → tl_S → Option (Int32 × tl_S)
  | 0, _, _, _, _, _ => none
  | fu + 1, a1, x2, a3, x4, u =>
  (if (u.1 a1 1) ≤ x4 then tl_let ((tl_u u.1 a1 1 ((u.1 a1 1) - 1), u.2) : tl_S) (fun u7 => tl_g (¬ ((u7.1 a1 1) < 0 ∨ 6 ≤ (u7.1 a1 1).toNatClampNeg)) (tl_let ((u7.1, tl_uO u7.2.1 (a1 + 1) ((u7.1 a1 1).toNatClampNeg) a3, u7.2.2) : tl_S) (fun u9 => (if (u9.1 a1 6) = 0 then tl_let ((tl_u u9.1 a1 6 0, u9.2) : tl_S) (fun u11 => some ((u11.1 a1 1), u11)) else (if x2 ≤ 0 then tl_let ((tl_u u9.1 a1 6 0, u9.2) : tl_S) (fun u12 => some ((u12.1 a1 1), u12)) else tl_let ((tl_u u9.1 a1 6 1, u9.2) : tl_S) (fun u12 => some ((u12.1 a1 1), u12))))))) else tl_g (¬ (x4 < 0 ∨ 6 ≤ x4.toNatClampNeg)) (tl_g ((a1 + 1) < (u.2.1 (a1 + 1) x4.toNatClampNeg) ∧ (u.2.1 (a1 + 1) x4.toNatClampNeg) < (a1 + 1) + 7) (tl_g (¬ ((x4 - 1) < 0 ∨ 6 ≤ (x4 - 1).toNatClampNeg)) (tl_let ((u.1, tl_uO u.2.1 (a1 + 1) ((x4 - 1).toNatClampNeg) (u.2.1 (a1 + 1) x4.toNatClampNeg), u.2.2) : tl_S) (fun u10 => tl_let (x4 + 1) (fun x11 => f3_removeOrder_p23 fu a1 x2 a3 x11 u10))))))

def f3_removeOrder (a0 : Nat) (x1 : Int32) (u : tl_S) : Option (Int32 × tl_S) :=
  (if x1 < 0 then some ((u.1 a0 1), u) else (if (u.1 a0 1) ≤ x1 then some ((u.1 a0 1), u) else tl_g (¬ (x1 < 0 ∨ 6 ≤ x1.toNatClampNeg)) (tl_g ((a0 + 1) < (u.2.1 (a0 + 1) x1.toNatClampNeg) ∧ (u.2.1 (a0 + 1) x1.toNatClampNeg) < (a0 + 1) + 7) (tl_let ((x1 + 1)) (fun x7 => f3_removeOrder_p23 tl_F a0 x1 ((u.2.1 (a0 + 1) x1.toNatClampNeg)) x7 u)))))

theorem l3_removeOrder_p23 {E : tl_E}  {r : Int32} {v : tl_S} : ∀ (n : Nat) (a1 : Nat) (x2 : Int32) (a3 : Nat) (x4 : Int32) (u : tl_S) , tl_T E.2.1 a1 = some 3 → tl_T E.2.1 a3 = some 8 → f3_removeOrder_p23 n a1 x2 a3 x4 u = some (r, v) → tl_R E mX3_removeOrder tl_X0 (tl_ZB E mX3_removeOrder (fun q w => q = some (.int r) ∧ w = v)) 0 0 (tl_HB E u) 23 [some (.ref a1), some (.int x2), some (.ref a3), some (.int x4)] [] := by
  intro n
  induction n with
  | zero => intro a1 x2 a3 x4 u  h1 h3 h; exact absurd h (by simp [f3_removeOrder_p23])
  | succ n ih =>
    intro a1 x2 a3 x4 u  h1 h3 h
    rw [f3_removeOrder_p23] at h
    refine tl_iload_n dX3_removeOrder_23 rfl (tl_aload_n dX3_removeOrder_24 rfl (tl_geti (f := 1) tl_ck3 dX3_removeOrder_25 fl_X3_26 (Nat.le_of_ble_eq_true rfl) rfl h1 (tl_icmp_ge (tgt := 51) dX3_removeOrder_28 (by decide) (fun c6 => ?_) (fun c6 => ?_))))
    · replace h := tl_ip h c6
      refine tl_aload_n dX3_removeOrder_51 rfl (tl_dup dX3_removeOrder_52 rfl (tl_geti (f := 1) tl_ck3 dX3_removeOrder_53 fl_X3_26 (Nat.le_of_ble_eq_true rfl) rfl h1 (tl_iconst (v := 1) dX3_removeOrder_56 ic_1 (tl_isub dX3_removeOrder_57 (tl_puti (f := 1) tl_ck3 dX3_removeOrder_58 fl_X3_26 (Nat.le_of_ble_eq_true rfl) rfl rfl rfl h1 (fun u7 e => ?_))))))
      have h := tl_leteq e h
      clear e
      obtain ⟨g8, h⟩ := tl_gi h
      refine tl_aload_n dX3_removeOrder_61 rfl (tl_getr (f := 0) (o := 1) tl_ck3 dX3_removeOrder_62 fl_X3_11 (Nat.le_of_ble_eq_true rfl) rfl h1 (tl_aload_n dX3_removeOrder_65 rfl (tl_geti (f := 1) tl_ck3 dX3_removeOrder_66 fl_X3_26 (Nat.le_of_ble_eq_true rfl) rfl h1 (tl_aload_n dX3_removeOrder_69 rfl (tl_aastK dX3_removeOrder_70 (tt_3_0 h1) ((u7.1 a1 1).toNatClampNeg) h3 g8 rfl (fun u9 e => ?_))))))
      have h := tl_leteq e h
      clear e
      refine tl_aload_n dX3_removeOrder_71 rfl (tl_aload_n dX3_removeOrder_72 rfl (tl_geti (f := 6) tl_ck3 dX3_removeOrder_73 fl_X3_38 (Nat.le_of_ble_eq_true rfl) rfl h1 (tl_if_eq (tgt := 87) dX3_removeOrder_76 (by decide) (fun c10 => ?_) (fun c10 => ?_))))
      · replace h := tl_ip h c10
        refine tl_iconst (v := 0) dX3_removeOrder_87 ic_0 (tl_putz (f := 6) tl_ck3 dX3_removeOrder_88 fl_X3_38 (Nat.le_of_ble_eq_true rfl) rfl rfl rfl (Or.inl rfl) h1 (fun u11 e => ?_))
        have h := tl_leteq e h
        clear e
        exact tl_aload_n dX3_removeOrder_91 rfl (tl_geti (f := 1) tl_ck3 dX3_removeOrder_92 fl_X3_26 (Nat.le_of_ble_eq_true rfl) rfl h1 (tl_iretE dX3_removeOrder_95 rfl rfl h))
      · replace h := tl_in h c10
        refine tl_iload_n dX3_removeOrder_79 rfl (tl_if_le (tgt := 87) dX3_removeOrder_80 (by decide) (fun c11 => ?_) (fun c11 => ?_))
        · replace h := tl_ip h c11
          refine tl_iconst (v := 0) dX3_removeOrder_87 ic_0 (tl_putz (f := 6) tl_ck3 dX3_removeOrder_88 fl_X3_38 (Nat.le_of_ble_eq_true rfl) rfl rfl rfl (Or.inl rfl) h1 (fun u12 e => ?_))
          have h := tl_leteq e h
          clear e
          exact tl_aload_n dX3_removeOrder_91 rfl (tl_geti (f := 1) tl_ck3 dX3_removeOrder_92 fl_X3_26 (Nat.le_of_ble_eq_true rfl) rfl h1 (tl_iretE dX3_removeOrder_95 rfl rfl h))
        · replace h := tl_in h c11
          refine tl_iconst (v := 1) dX3_removeOrder_83 ic_1 (tl_goto (tgt := 88) dX3_removeOrder_84 (by decide) (tl_putz (f := 6) tl_ck3 dX3_removeOrder_88 fl_X3_38 (Nat.le_of_ble_eq_true rfl) rfl rfl rfl (Or.inr rfl) h1 (fun u12 e => ?_)))
          have h := tl_leteq e h
          clear e
          exact tl_aload_n dX3_removeOrder_91 rfl (tl_geti (f := 1) tl_ck3 dX3_removeOrder_92 fl_X3_26 (Nat.le_of_ble_eq_true rfl) rfl h1 (tl_iretE dX3_removeOrder_95 rfl rfl h))
    · replace h := tl_in h c6
      obtain ⟨g7, h⟩ := tl_gi h
      obtain ⟨g8, h⟩ := tl_gi h
      obtain ⟨g9, h⟩ := tl_gi h
      refine tl_aload_n dX3_removeOrder_31 rfl (tl_getr (f := 0) (o := 1) tl_ck3 dX3_removeOrder_32 fl_X3_11 (Nat.le_of_ble_eq_true rfl) rfl h1 (tl_iload_n dX3_removeOrder_35 rfl (tl_iconst (v := 1) dX3_removeOrder_36 ic_1 (tl_isub dX3_removeOrder_37 (tl_aload_n dX3_removeOrder_38 rfl (tl_getr (f := 0) (o := 1) tl_ck3 dX3_removeOrder_39 fl_X3_11 (Nat.le_of_ble_eq_true rfl) rfl h1 (tl_iload_n dX3_removeOrder_42 rfl (tl_ald21 dX3_removeOrder_43 (tt_3_0 h1) (x4.toNatClampNeg) g7 rfl (tl_aastK dX3_removeOrder_44 (tt_3_0 h1) ((x4 - 1).toNatClampNeg) (ta_21b (tt_3_0 h1) g8) g9 rfl (fun u10 e => ?_))))))))))
      have h := tl_leteq e h
      clear e
      refine tl_iincK dX3_removeOrder_45 rfl (ii_1 _) (Nat.le_of_ble_eq_true rfl) (fun x11 e => ?_)
      have h := tl_leteq e h
      clear e
      refine tl_goto (tgt := 23) dX3_removeOrder_48 (by decide) (?_)
      exact ih _ _ _ _ _  h1 h3 h

theorem l3_removeOrder {E : tl_E} {a0 : Nat} {x1 : Int32}  {u : tl_S} {r : Int32} {v : tl_S} (h0 : tl_T E.2.1 a0 = some 3) (h : f3_removeOrder a0 x1 u = some (r, v)) : tl_MB E mX3_removeOrder [.ref a0, .int x1] u (fun q w => q = some (.int r) ∧ w = v) := by
  unfold f3_removeOrder at h
  refine tl_start [some (.ref a0), some (.int x1), none, none] rfl rfl rfl (Nat.le_of_ble_eq_true rfl) ?_
  refine tl_iload_n dX3_removeOrder_0 rfl (tl_if_lt (tgt := 91) dX3_removeOrder_1 (by decide) (fun c3 => ?_) (fun c3 => ?_))
  · replace h := tl_ip h c3
    exact tl_aload_n dX3_removeOrder_91 rfl (tl_geti (f := 1) tl_ck3 dX3_removeOrder_92 fl_X3_26 (Nat.le_of_ble_eq_true rfl) rfl h0 (tl_iretE dX3_removeOrder_95 rfl rfl h))
  · replace h := tl_in h c3
    refine tl_iload_n dX3_removeOrder_4 rfl (tl_aload_n dX3_removeOrder_5 rfl (tl_geti (f := 1) tl_ck3 dX3_removeOrder_6 fl_X3_26 (Nat.le_of_ble_eq_true rfl) rfl h0 (tl_icmp_ge (tgt := 91) dX3_removeOrder_9 (by decide) (fun c4 => ?_) (fun c4 => ?_))))
    · replace h := tl_ip h c4
      exact tl_aload_n dX3_removeOrder_91 rfl (tl_geti (f := 1) tl_ck3 dX3_removeOrder_92 fl_X3_26 (Nat.le_of_ble_eq_true rfl) rfl h0 (tl_iretE dX3_removeOrder_95 rfl rfl h))
    · replace h := tl_in h c4
      obtain ⟨g5, h⟩ := tl_gi h
      obtain ⟨g6, h⟩ := tl_gi h
      refine tl_aload_n dX3_removeOrder_12 rfl (tl_getr (f := 0) (o := 1) tl_ck3 dX3_removeOrder_13 fl_X3_11 (Nat.le_of_ble_eq_true rfl) rfl h0 (tl_iload_n dX3_removeOrder_16 rfl (tl_ald21 dX3_removeOrder_17 (tt_3_0 h0) (x1.toNatClampNeg) g5 rfl (tl_astore_n dX3_removeOrder_18 (Nat.le_of_ble_eq_true rfl) (tl_iload_n dX3_removeOrder_19 rfl (tl_iconst (v := 1) dX3_removeOrder_20 ic_1 (tl_iadd dX3_removeOrder_21 (tl_isto_n dX3_removeOrder_22 (Nat.le_of_ble_eq_true rfl) (fun x7 e => ?_)))))))))
      have h := tl_leteq e h
      clear e
      exact l3_removeOrder_p23 tl_F _ _ _ _ _  h0 (ta_21b (tt_3_0 h0) g6) h


def f3_handsAreFree (a0 : Nat) (u : tl_S) : Option (Int32 × tl_S) :=
  (if (u.1 a0 4) = (-1) then (if (u.1 a0 5) = 0 then some (1, u) else some (0, u)) else some (0, u))

theorem l3_handsAreFree {E : tl_E} {a0 : Nat}  {u : tl_S} {r : Int32} {v : tl_S} (h0 : tl_T E.2.1 a0 = some 3) (h : f3_handsAreFree a0 u = some (r, v)) : tl_MB E mX3_handsAreFree [.ref a0] u (fun q w => q = some (.int r) ∧ w = v) := by
  unfold f3_handsAreFree at h
  refine tl_start [some (.ref a0)] rfl rfl rfl (Nat.le_of_ble_eq_true rfl) ?_
  refine tl_aload_n dX3_handsAreFree_0 rfl (tl_geti (f := 4) tl_ck3 dX3_handsAreFree_1 fl_X3_17 (Nat.le_of_ble_eq_true rfl) rfl h0 (tl_iconst (v := (-1)) dX3_handsAreFree_4 ic_m1 (tl_icmp_ne (tgt := 19) dX3_handsAreFree_5 (by decide) (fun c2 => ?_) (fun c2 => ?_))))
  · replace h := tl_in h c2
    exact tl_iconst (v := 0) dX3_handsAreFree_19 ic_0 (tl_iretE dX3_handsAreFree_20 rfl rfl h)
  · replace h := tl_ip h c2
    refine tl_aload_n dX3_handsAreFree_8 rfl (tl_geti (f := 5) tl_ck3 dX3_handsAreFree_9 fl_X3_35 (Nat.le_of_ble_eq_true rfl) rfl h0 (tl_if_ne (tgt := 19) dX3_handsAreFree_12 (by decide) (fun c3 => ?_) (fun c3 => ?_)))
    · replace h := tl_in h c3
      exact tl_iconst (v := 0) dX3_handsAreFree_19 ic_0 (tl_iretE dX3_handsAreFree_20 rfl rfl h)
    · replace h := tl_ip h c3
      exact tl_iconst (v := 1) dX3_handsAreFree_15 ic_1 (tl_goto (tgt := 20) dX3_handsAreFree_16 (by decide) (tl_iretE dX3_handsAreFree_20 rfl rfl h))


def f3_isAt (a0 : Nat) (x1 : Int32) (x2 : Int32) (u : tl_S) : Option (Int32 × tl_S) :=
  (if (u.1 a0 3) = x2 then (if x2 = 0 then some (1, u) else (if (u.1 a0 2) = x1 then some (1, u) else some (0, u))) else some (0, u))

theorem l3_isAt {E : tl_E} {a0 : Nat} {x1 : Int32} {x2 : Int32}  {u : tl_S} {r : Int32} {v : tl_S} (h0 : tl_T E.2.1 a0 = some 3) (h : f3_isAt a0 x1 x2 u = some (r, v)) : tl_MB E mX3_isAt [.ref a0, .int x1, .int x2] u (fun q w => q = some (.int r) ∧ w = v) := by
  unfold f3_isAt at h
  refine tl_start [some (.ref a0), some (.int x1), some (.int x2)] rfl rfl rfl (Nat.le_of_ble_eq_true rfl) ?_
  refine tl_aload_n dX3_isAt_0 rfl (tl_geti (f := 3) tl_ck3 dX3_isAt_1 fl_X3_32 (Nat.le_of_ble_eq_true rfl) rfl h0 (tl_iload_n dX3_isAt_4 rfl (tl_icmp_ne (tgt := 24) dX3_isAt_5 (by decide) (fun c4 => ?_) (fun c4 => ?_))))
  · replace h := tl_in h c4
    exact tl_iconst (v := 0) dX3_isAt_24 ic_0 (tl_iretE dX3_isAt_25 rfl rfl h)
  · replace h := tl_ip h c4
    refine tl_iload_n dX3_isAt_8 rfl (tl_if_eq (tgt := 20) dX3_isAt_9 (by decide) (fun c5 => ?_) (fun c5 => ?_))
    · replace h := tl_ip h c5
      exact tl_iconst (v := 1) dX3_isAt_20 ic_1 (tl_goto (tgt := 25) dX3_isAt_21 (by decide) (tl_iretE dX3_isAt_25 rfl rfl h))
    · replace h := tl_in h c5
      refine tl_aload_n dX3_isAt_12 rfl (tl_geti (f := 2) tl_ck3 dX3_isAt_13 fl_X3_29 (Nat.le_of_ble_eq_true rfl) rfl h0 (tl_iload_n dX3_isAt_16 rfl (tl_icmp_ne (tgt := 24) dX3_isAt_17 (by decide) (fun c6 => ?_) (fun c6 => ?_))))
      · replace h := tl_in h c6
        exact tl_iconst (v := 0) dX3_isAt_24 ic_0 (tl_iretE dX3_isAt_25 rfl rfl h)
      · replace h := tl_ip h c6
        exact tl_iconst (v := 1) dX3_isAt_20 ic_1 (tl_goto (tgt := 25) dX3_isAt_21 (by decide) (tl_iretE dX3_isAt_25 rfl rfl h))


def f3_stepTowards_p32 (a1 : Nat) (x2 : Int32) (x3 : Int32) (u : tl_S) : Option (tl_S) :=
  (if (u.1 a1 2) = x2 then (if x3 ≤ (u.1 a1 3) then (if (u.1 a1 3) ≤ 0 then some u else tl_let ((tl_u u.1 a1 3 ((u.1 a1 3) - 1), u.2) : tl_S) (fun u8 => some u8)) else tl_let ((tl_u u.1 a1 3 ((u.1 a1 3) + 1), u.2) : tl_S) (fun u7 => some u7)) else (if (u.1 a1 3) ≤ 0 then some u else tl_let ((tl_u u.1 a1 3 ((u.1 a1 3) - 1), u.2) : tl_S) (fun u7 => some u7)))

def f3_stepTowards (a0 : Nat) (x1 : Int32) (x2 : Int32) (u : tl_S) : Option (tl_S) :=
  (if (u.1 a0 2) = x1 then f3_stepTowards_p32 a0 x1 x2 u else (if (u.1 a0 3) = 0 then (if x2 ≤ 0 then f3_stepTowards_p32 a0 x1 x2 u else tl_let ((tl_u u.1 a0 2 x1, u.2) : tl_S) (fun u7 => tl_let ((tl_u u7.1 a0 3 1, u7.2) : tl_S) (fun u8 => some u8))) else f3_stepTowards_p32 a0 x1 x2 u))

theorem l3_stepTowards_p32 {E : tl_E} {a1 : Nat} {x2 : Int32} {x3 : Int32}   {u : tl_S} {v : tl_S} (h1 : tl_T E.2.1 a1 = some 3) (h : f3_stepTowards_p32 a1 x2 x3 u = some v) : tl_R E mX3_stepTowards tl_X0 (tl_ZB E mX3_stepTowards (fun q w => q = none ∧ w = v)) 0 0 (tl_HB E u) 32 [some (.ref a1), some (.int x2), some (.int x3)] [] := by
  unfold f3_stepTowards_p32 at h
  refine tl_aload_n dX3_stepTowards_32 rfl (tl_geti (f := 2) tl_ck3 dX3_stepTowards_33 fl_X3_29 (Nat.le_of_ble_eq_true rfl) rfl h1 (tl_iload_n dX3_stepTowards_36 rfl (tl_icmp_ne (tgt := 61) dX3_stepTowards_37 (by decide) (fun c5 => ?_) (fun c5 => ?_))))
  · replace h := tl_in h c5
    refine tl_aload_n dX3_stepTowards_61 rfl (tl_geti (f := 3) tl_ck3 dX3_stepTowards_62 fl_X3_32 (Nat.le_of_ble_eq_true rfl) rfl h1 (tl_if_le (tgt := 78) dX3_stepTowards_65 (by decide) (fun c6 => ?_) (fun c6 => ?_)))
    · replace h := tl_ip h c6
      exact tl_vretE dX3_stepTowards_78 rfl h
    · replace h := tl_in h c6
      refine tl_aload_n dX3_stepTowards_68 rfl (tl_dup dX3_stepTowards_69 rfl (tl_geti (f := 3) tl_ck3 dX3_stepTowards_70 fl_X3_32 (Nat.le_of_ble_eq_true rfl) rfl h1 (tl_iconst (v := 1) dX3_stepTowards_73 ic_1 (tl_isub dX3_stepTowards_74 (tl_puti (f := 3) tl_ck3 dX3_stepTowards_75 fl_X3_32 (Nat.le_of_ble_eq_true rfl) rfl rfl rfl h1 (fun u7 e => ?_))))))
      have h := tl_leteq e h
      clear e
      exact tl_vretE dX3_stepTowards_78 rfl h
  · replace h := tl_ip h c5
    refine tl_aload_n dX3_stepTowards_40 rfl (tl_geti (f := 3) tl_ck3 dX3_stepTowards_41 fl_X3_32 (Nat.le_of_ble_eq_true rfl) rfl h1 (tl_iload_n dX3_stepTowards_44 rfl (tl_icmp_ge (tgt := 61) dX3_stepTowards_45 (by decide) (fun c6 => ?_) (fun c6 => ?_))))
    · replace h := tl_ip h c6
      refine tl_aload_n dX3_stepTowards_61 rfl (tl_geti (f := 3) tl_ck3 dX3_stepTowards_62 fl_X3_32 (Nat.le_of_ble_eq_true rfl) rfl h1 (tl_if_le (tgt := 78) dX3_stepTowards_65 (by decide) (fun c7 => ?_) (fun c7 => ?_)))
      · replace h := tl_ip h c7
        exact tl_vretE dX3_stepTowards_78 rfl h
      · replace h := tl_in h c7
        refine tl_aload_n dX3_stepTowards_68 rfl (tl_dup dX3_stepTowards_69 rfl (tl_geti (f := 3) tl_ck3 dX3_stepTowards_70 fl_X3_32 (Nat.le_of_ble_eq_true rfl) rfl h1 (tl_iconst (v := 1) dX3_stepTowards_73 ic_1 (tl_isub dX3_stepTowards_74 (tl_puti (f := 3) tl_ck3 dX3_stepTowards_75 fl_X3_32 (Nat.le_of_ble_eq_true rfl) rfl rfl rfl h1 (fun u8 e => ?_))))))
        have h := tl_leteq e h
        clear e
        exact tl_vretE dX3_stepTowards_78 rfl h
    · replace h := tl_in h c6
      refine tl_aload_n dX3_stepTowards_48 rfl (tl_dup dX3_stepTowards_49 rfl (tl_geti (f := 3) tl_ck3 dX3_stepTowards_50 fl_X3_32 (Nat.le_of_ble_eq_true rfl) rfl h1 (tl_iconst (v := 1) dX3_stepTowards_53 ic_1 (tl_iadd dX3_stepTowards_54 (tl_puti (f := 3) tl_ck3 dX3_stepTowards_55 fl_X3_32 (Nat.le_of_ble_eq_true rfl) rfl rfl rfl h1 (fun u7 e => ?_))))))
      have h := tl_leteq e h
      clear e
      exact tl_goto (tgt := 78) dX3_stepTowards_58 (by decide) (tl_vretE dX3_stepTowards_78 rfl h)

theorem l3_stepTowards {E : tl_E} {a0 : Nat} {x1 : Int32} {x2 : Int32}  {u : tl_S} {v : tl_S} (h0 : tl_T E.2.1 a0 = some 3) (h : f3_stepTowards a0 x1 x2 u = some v) : tl_MB E mX3_stepTowards [.ref a0, .int x1, .int x2] u (fun q w => q = none ∧ w = v) := by
  unfold f3_stepTowards at h
  refine tl_start [some (.ref a0), some (.int x1), some (.int x2)] rfl rfl rfl (Nat.le_of_ble_eq_true rfl) ?_
  refine tl_aload_n dX3_stepTowards_0 rfl (tl_geti (f := 2) tl_ck3 dX3_stepTowards_1 fl_X3_29 (Nat.le_of_ble_eq_true rfl) rfl h0 (tl_iload_n dX3_stepTowards_4 rfl (tl_icmp_eq (tgt := 32) dX3_stepTowards_5 (by decide) (fun c4 => ?_) (fun c4 => ?_))))
  · replace h := tl_ip h c4
    exact l3_stepTowards_p32 h0 h
  · replace h := tl_in h c4
    refine tl_aload_n dX3_stepTowards_8 rfl (tl_geti (f := 3) tl_ck3 dX3_stepTowards_9 fl_X3_32 (Nat.le_of_ble_eq_true rfl) rfl h0 (tl_if_ne (tgt := 32) dX3_stepTowards_12 (by decide) (fun c5 => ?_) (fun c5 => ?_)))
    · replace h := tl_in h c5
      exact l3_stepTowards_p32 h0 h
    · replace h := tl_ip h c5
      refine tl_iload_n dX3_stepTowards_15 rfl (tl_if_le (tgt := 32) dX3_stepTowards_16 (by decide) (fun c6 => ?_) (fun c6 => ?_))
      · replace h := tl_ip h c6
        exact l3_stepTowards_p32 h0 h
      · replace h := tl_in h c6
        refine tl_aload_n dX3_stepTowards_19 rfl (tl_iload_n dX3_stepTowards_20 rfl (tl_puti (f := 2) tl_ck3 dX3_stepTowards_21 fl_X3_29 (Nat.le_of_ble_eq_true rfl) rfl rfl rfl h0 (fun u7 e => ?_)))
        have h := tl_leteq e h
        clear e
        refine tl_aload_n dX3_stepTowards_24 rfl (tl_iconst (v := 1) dX3_stepTowards_25 ic_1 (tl_puti (f := 3) tl_ck3 dX3_stepTowards_26 fl_X3_32 (Nat.le_of_ble_eq_true rfl) rfl rfl rfl h0 (fun u8 e => ?_)))
        have h := tl_leteq e h
        clear e
        exact tl_goto (tgt := 78) dX3_stepTowards_29 (by decide) (tl_vretE dX3_stepTowards_78 rfl h)


def f1_copyFrom (a0 : Nat) (a1 : Nat) (u : tl_S) : Option (tl_S) :=
  tl_let ((tl_u u.1 a0 0 (u.1 a1 0), u.2) : tl_S) (fun u3 => tl_let ((tl_u u3.1 a0 1 (u3.1 a1 1), u3.2) : tl_S) (fun u4 => some u4))

theorem l1_copyFrom {E : tl_E} {a0 : Nat} {a1 : Nat}  {u : tl_S} {v : tl_S} (h0 : tl_T E.2.1 a0 = some 1) (h1 : tl_T E.2.1 a1 = some 1) (h : f1_copyFrom a0 a1 u = some v) : tl_MB E mX1_copyFrom [.ref a0, .ref a1] u (fun q w => q = none ∧ w = v) := by
  unfold f1_copyFrom at h
  refine tl_start [some (.ref a0), some (.ref a1)] rfl rfl rfl (Nat.le_of_ble_eq_true rfl) ?_
  refine tl_aload_n dX1_copyFrom_0 rfl (tl_aload_n dX1_copyFrom_1 rfl (tl_geti (f := 0) tl_ck1 dX1_copyFrom_2 fl_X1_9 (Nat.le_of_ble_eq_true rfl) rfl h1 (tl_puti (f := 0) tl_ck1 dX1_copyFrom_5 fl_X1_9 (Nat.le_of_ble_eq_true rfl) rfl rfl rfl h0 (fun u3 e => ?_))))
  have h := tl_leteq e h
  clear e
  refine tl_aload_n dX1_copyFrom_8 rfl (tl_aload_n dX1_copyFrom_9 rfl (tl_geti (f := 1) tl_ck1 dX1_copyFrom_10 fl_X1_15 (Nat.le_of_ble_eq_true rfl) rfl h1 (tl_puti (f := 1) tl_ck1 dX1_copyFrom_13 fl_X1_15 (Nat.le_of_ble_eq_true rfl) rfl rfl rfl h0 (fun u4 e => ?_))))
  have h := tl_leteq e h
  clear e
  exact tl_vretE dX1_copyFrom_16 rfl h


def f9_strokesFor (x1 : Int32) (x2 : Int32) (u : tl_S) : Option (Int32 × tl_S) :=
  some ((3 + (((7 * x2) + (5 * x1)) - ((7 * x2) + (5 * x1)) / 6 * 6)), u)

theorem l9_strokesFor {E : tl_E} {x1 : Int32} {x2 : Int32}  {u : tl_S} {r : Int32} {v : tl_S}  (h : f9_strokesFor x1 x2 u = some (r, v)) : tl_MB E mX9_strokesFor [.int x1, .int x2] u (fun q w => q = some (.int r) ∧ w = v) := by
  unfold f9_strokesFor at h
  refine tl_start [some (.int x1), some (.int x2)] rfl rfl rfl (Nat.le_of_ble_eq_true rfl) ?_
  exact tl_iconst (v := 3) dX9_strokesFor_0 ic_3 (tl_bipush (v := 7) dX9_strokesFor_1 bp_7 (tl_iload_n dX9_strokesFor_3 rfl (tl_imul dX9_strokesFor_4 (tl_iconst (v := 5) dX9_strokesFor_5 ic_5 (tl_iload_n dX9_strokesFor_6 rfl (tl_imul dX9_strokesFor_7 (tl_iadd dX9_strokesFor_8 (tl_bipush (v := 6) dX9_strokesFor_9 bp_6 (tl_irem dX9_strokesFor_11 (by decide) (tl_iadd dX9_strokesFor_12 (tl_iretE dX9_strokesFor_13 rfl rfl h)))))))))))

theorem cs_X1_strike_33 : tl_cN mX1_strike mX9_strokesFor 18 2 := ⟨cd_X9_strokesFor, by decide +kernel, sm_X9_strokesFor, in_X9, ⟨by decide, by decide, by decide +kernel⟩, Nat.le_of_ble_eq_true rfl, Nat.le_of_ble_eq_true rfl⟩
theorem cs_X1_strike_49 : tl_cN mX1_strike mX9_strokesFor 18 2 := ⟨cd_X9_strokesFor, by decide +kernel, sm_X9_strokesFor, in_X9, ⟨by decide, by decide, by decide +kernel⟩, Nat.le_of_ble_eq_true rfl, Nat.le_of_ble_eq_true rfl⟩
def f1_strike_p15 : Nat → Nat → Int32 → Int32 → tl_S → Option (Int32 × tl_S)
  | 0, _, _, _, _ => none
  | fu + 1, a1, x2, x3, u =>
  (if 60 ≤ (u.1 a1 0) then some (((u.1 a1 0) - x3), u) else tl_b2 (f9_strokesFor x2 (u.1 a1 0) u) (fun x8 u7 => (if (u.1 a1 1) < x8 then some (((u7.1 a1 0) - x3), u7) else tl_b2 (f9_strokesFor x2 (u7.1 a1 0) u7) (fun x12 u11 => tl_let ((tl_u u11.1 a1 1 ((u7.1 a1 1) - x12), u11.2) : tl_S) (fun u13 => tl_let ((tl_u u13.1 a1 0 ((u13.1 a1 0) + 1), u13.2) : tl_S) (fun u14 => f1_strike_p15 fu a1 x2 x3 u14))))))

def f1_strike (a0 : Nat) (x1 : Int32) (x2 : Int32) (u : tl_S) : Option (Int32 × tl_S) :=
  tl_let ((u.1 a0 0)) (fun x4 => tl_let ((tl_u u.1 a0 1 ((u.1 a0 1) + x2), u.2) : tl_S) (fun u5 => f1_strike_p15 tl_F a0 x1 x4 u5))

theorem l1_strike_p15 {E : tl_E}  {r : Int32} {v : tl_S} : ∀ (n : Nat) (a1 : Nat) (x2 : Int32) (x3 : Int32) (u : tl_S) (d2 : Option Value), tl_T E.2.1 a1 = some 1 → f1_strike_p15 n a1 x2 x3 u = some (r, v) → tl_R E mX1_strike tl_X0 (tl_ZB E mX1_strike (fun q w => q = some (.int r) ∧ w = v)) 0 0 (tl_HB E u) 15 [some (.ref a1), some (.int x2), d2, some (.int x3)] [] := by
  intro n
  induction n with
  | zero => intro a1 x2 x3 u d2 h1 h; exact absurd h (by simp [f1_strike_p15])
  | succ n ih =>
    intro a1 x2 x3 u d2 h1 h
    rw [f1_strike_p15] at h
    refine tl_aload_n dX1_strike_15 rfl (tl_geti (f := 0) tl_ck1 dX1_strike_16 fl_X1_9 (Nat.le_of_ble_eq_true rfl) rfl h1 (tl_bipush (v := 60) dX1_strike_19 bp_60 (tl_icmp_ge (tgt := 69) dX1_strike_21 (by decide) (fun c5 => ?_) (fun c5 => ?_))))
    · replace h := tl_ip h c5
      exact tl_aload_n dX1_strike_69 rfl (tl_geti (f := 0) tl_ck1 dX1_strike_70 fl_X1_9 (Nat.le_of_ble_eq_true rfl) rfl h1 (tl_iload_n dX1_strike_73 rfl (tl_isub dX1_strike_74 (tl_iretE dX1_strike_75 rfl rfl h))))
    · replace h := tl_in h c5
      obtain ⟨x8, u7, e6, h⟩ := tl_b2i h
      refine tl_aload_n dX1_strike_24 rfl (tl_geti (f := 1) tl_ck1 dX1_strike_25 fl_X1_15 (Nat.le_of_ble_eq_true rfl) rfl h1 (tl_iload_n dX1_strike_28 rfl (tl_aload_n dX1_strike_29 rfl (tl_geti (f := 0) tl_ck1 dX1_strike_30 fl_X1_9 (Nat.le_of_ble_eq_true rfl) rfl h1 (tl_iN2 (l9_strokesFor  e6) dX1_strike_33 cs_X1_strike_33 ⟨rfl, rfl⟩ ⟨Nat.zero_le _, Nat.zero_le _⟩ (Nat.le_of_ble_eq_true rfl) (tl_icmp_lt (tgt := 69) dX1_strike_36 (by decide) (fun c9 => ?_) (fun c9 => ?_)))))))
      · replace h := tl_ip h c9
        exact tl_aload_n dX1_strike_69 rfl (tl_geti (f := 0) tl_ck1 dX1_strike_70 fl_X1_9 (Nat.le_of_ble_eq_true rfl) rfl h1 (tl_iload_n dX1_strike_73 rfl (tl_isub dX1_strike_74 (tl_iretE dX1_strike_75 rfl rfl h))))
      · replace h := tl_in h c9
        obtain ⟨x12, u11, e10, h⟩ := tl_b2i h
        refine tl_aload_n dX1_strike_39 rfl (tl_dup dX1_strike_40 rfl (tl_geti (f := 1) tl_ck1 dX1_strike_41 fl_X1_15 (Nat.le_of_ble_eq_true rfl) rfl h1 (tl_iload_n dX1_strike_44 rfl (tl_aload_n dX1_strike_45 rfl (tl_geti (f := 0) tl_ck1 dX1_strike_46 fl_X1_9 (Nat.le_of_ble_eq_true rfl) rfl h1 (tl_iN2 (l9_strokesFor  e10) dX1_strike_49 cs_X1_strike_49 ⟨rfl, rfl⟩ ⟨Nat.zero_le _, Nat.zero_le _⟩ (Nat.le_of_ble_eq_true rfl) (tl_isub dX1_strike_52 (tl_puti (f := 1) tl_ck1 dX1_strike_53 fl_X1_15 (Nat.le_of_ble_eq_true rfl) rfl rfl rfl h1 (fun u13 e => ?_)))))))))
        have h := tl_leteq e h
        clear e
        refine tl_aload_n dX1_strike_56 rfl (tl_dup dX1_strike_57 rfl (tl_geti (f := 0) tl_ck1 dX1_strike_58 fl_X1_9 (Nat.le_of_ble_eq_true rfl) rfl h1 (tl_iconst (v := 1) dX1_strike_61 ic_1 (tl_iadd dX1_strike_62 (tl_puti (f := 0) tl_ck1 dX1_strike_63 fl_X1_9 (Nat.le_of_ble_eq_true rfl) rfl rfl rfl h1 (fun u14 e => ?_))))))
        have h := tl_leteq e h
        clear e
        refine tl_goto (tgt := 15) dX1_strike_66 (by decide) (?_)
        exact ih _ _ _ _ _ h1 h

theorem l1_strike {E : tl_E} {a0 : Nat} {x1 : Int32} {x2 : Int32}  {u : tl_S} {r : Int32} {v : tl_S} (h0 : tl_T E.2.1 a0 = some 1) (h : f1_strike a0 x1 x2 u = some (r, v)) : tl_MB E mX1_strike [.ref a0, .int x1, .int x2] u (fun q w => q = some (.int r) ∧ w = v) := by
  unfold f1_strike at h
  refine tl_start [some (.ref a0), some (.int x1), some (.int x2), none] rfl rfl rfl (Nat.le_of_ble_eq_true rfl) ?_
  refine tl_aload_n dX1_strike_0 rfl (tl_geti (f := 0) tl_ck1 dX1_strike_1 fl_X1_9 (Nat.le_of_ble_eq_true rfl) rfl h0 (tl_isto_n dX1_strike_4 (Nat.le_of_ble_eq_true rfl) (fun x4 e => ?_)))
  have h := tl_leteq e h
  clear e
  refine tl_aload_n dX1_strike_5 rfl (tl_dup dX1_strike_6 rfl (tl_geti (f := 1) tl_ck1 dX1_strike_7 fl_X1_15 (Nat.le_of_ble_eq_true rfl) rfl h0 (tl_iload_n dX1_strike_10 rfl (tl_iadd dX1_strike_11 (tl_puti (f := 1) tl_ck1 dX1_strike_12 fl_X1_15 (Nat.le_of_ble_eq_true rfl) rfl rfl rfl h0 (fun u5 e => ?_))))))
  have h := tl_leteq e h
  clear e
  exact l1_strike_p15 tl_F _ _ _ _ _ h0 h


def f9_isWithin (x1 : Int32) (x2 : Int32) (x3 : Int32) (u : tl_S) : Option (Int32 × tl_S) :=
  (if x1 < x2 then some (0, u) else (if x3 < x1 then some (0, u) else some (1, u)))

theorem l9_isWithin {E : tl_E} {x1 : Int32} {x2 : Int32} {x3 : Int32}  {u : tl_S} {r : Int32} {v : tl_S}  (h : f9_isWithin x1 x2 x3 u = some (r, v)) : tl_MB E mX9_isWithin [.int x1, .int x2, .int x3] u (fun q w => q = some (.int r) ∧ w = v) := by
  unfold f9_isWithin at h
  refine tl_start [some (.int x1), some (.int x2), some (.int x3)] rfl rfl rfl (Nat.le_of_ble_eq_true rfl) ?_
  refine tl_iload_n dX9_isWithin_0 rfl (tl_iload_n dX9_isWithin_1 rfl (tl_icmp_lt (tgt := 14) dX9_isWithin_2 (by decide) (fun c5 => ?_) (fun c5 => ?_)))
  · replace h := tl_ip h c5
    exact tl_iconst (v := 0) dX9_isWithin_14 ic_0 (tl_iretE dX9_isWithin_15 rfl rfl h)
  · replace h := tl_in h c5
    refine tl_iload_n dX9_isWithin_5 rfl (tl_iload_n dX9_isWithin_6 rfl (tl_icmp_gt (tgt := 14) dX9_isWithin_7 (by decide) (fun c6 => ?_) (fun c6 => ?_)))
    · replace h := tl_ip h c6
      exact tl_iconst (v := 0) dX9_isWithin_14 ic_0 (tl_iretE dX9_isWithin_15 rfl rfl h)
    · replace h := tl_in h c6
      exact tl_iconst (v := 1) dX9_isWithin_10 ic_1 (tl_goto (tgt := 15) dX9_isWithin_11 (by decide) (tl_iretE dX9_isWithin_15 rfl rfl h))


def f9_refusalOf (x1 : Int32) (x2 : Int32) (x3 : Int32) (u : tl_S) : Option (Int32 × tl_S) :=
  (if x1 = 0 then some (1, u) else (if x2 = 0 then some (2, u) else (if x3 = 0 then some (3, u) else some (0, u))))

theorem l9_refusalOf {E : tl_E} {x1 : Int32} {x2 : Int32} {x3 : Int32}  {u : tl_S} {r : Int32} {v : tl_S}  (h : f9_refusalOf x1 x2 x3 u = some (r, v)) : tl_MB E mX9_refusalOf [.int x1, .int x2, .int x3] u (fun q w => q = some (.int r) ∧ w = v) := by
  unfold f9_refusalOf at h
  refine tl_start [some (.int x1), some (.int x2), some (.int x3)] rfl rfl rfl (Nat.le_of_ble_eq_true rfl) ?_
  refine tl_iload_n dX9_refusalOf_0 rfl (tl_if_ne (tgt := 6) dX9_refusalOf_1 (by decide) (fun c5 => ?_) (fun c5 => ?_))
  · replace h := tl_in h c5
    refine tl_iload_n dX9_refusalOf_6 rfl (tl_if_ne (tgt := 12) dX9_refusalOf_7 (by decide) (fun c6 => ?_) (fun c6 => ?_))
    · replace h := tl_in h c6
      refine tl_iload_n dX9_refusalOf_12 rfl (tl_if_eq (tgt := 20) dX9_refusalOf_13 (by decide) (fun c7 => ?_) (fun c7 => ?_))
      · replace h := tl_ip h c7
        exact tl_iconst (v := 3) dX9_refusalOf_20 ic_3 (tl_iretE dX9_refusalOf_21 rfl rfl h)
      · replace h := tl_in h c7
        exact tl_iconst (v := 0) dX9_refusalOf_16 ic_0 (tl_goto (tgt := 21) dX9_refusalOf_17 (by decide) (tl_iretE dX9_refusalOf_21 rfl rfl h))
    · replace h := tl_ip h c6
      exact tl_iconst (v := 2) dX9_refusalOf_10 ic_2 (tl_iretE dX9_refusalOf_11 rfl rfl h)
  · replace h := tl_ip h c5
    exact tl_iconst (v := 1) dX9_refusalOf_4 ic_1 (tl_iretE dX9_refusalOf_5 rfl rfl h)


def f9_numbersOf (x1 : Int32) (u : tl_S) : Option (Int64 × tl_S) :=
  (if x1.toInt < 0 ∨ 2 < x1.toInt then some (1000000000000000000, u) else (if x1.toInt = 0 then some (1, u) else (if x1.toInt = 1 then some (1000000, u) else some (1000000000000, u))))

theorem l9_numbersOf {E : tl_E} {x1 : Int32}  {u : tl_S} {r : Int64} {v : tl_S}  (h : f9_numbersOf x1 u = some (r, v)) : tl_MB E mX9_numbersOf [.int x1] u (fun q w => q = some (.long r) ∧ w = v) := by
  unfold f9_numbersOf at h
  refine tl_start [some (.int x1)] rfl rfl rfl (Nat.le_of_ble_eq_true rfl) ?_
  refine tl_iload_n dX9_numbersOf_0 rfl (?_)
  by_cases c3 : x1.toInt < 0 ∨ 2 < x1.toInt
  · replace h := tl_ip h c3
    refine tl_tableOut (tgt := 38) dX9_numbersOf_1 c3 (by decide) ?_
    exact tl_ldc2 dX9_numbersOf_38 kl_X9_331 (tl_lretE dX9_numbersOf_41 rfl h)
  replace h := tl_in h c3
  by_cases c4_0 : x1.toInt = 0
  · replace h := tl_ip h c4_0
    refine tl_tableIn (off := 27) (tgt := 28) dX9_numbersOf_1 (by omega) (by omega) (by rw [c4_0]; rfl) (by decide) ?_
    exact tl_lconst (v := 1) dX9_numbersOf_28 lc_1 (tl_lretE dX9_numbersOf_29 rfl h)
  replace h := tl_in h c4_0
  by_cases c4_1 : x1.toInt = 1
  · replace h := tl_ip h c4_1
    refine tl_tableIn (off := 29) (tgt := 30) dX9_numbersOf_1 (by omega) (by omega) (by rw [c4_1]; rfl) (by decide) ?_
    exact tl_ldc2 dX9_numbersOf_30 kl_X9_270 (tl_lretE dX9_numbersOf_33 rfl h)
  replace h := tl_in h c4_1
  have c4_2 : x1.toInt = 2 := by omega
  refine tl_tableIn (off := 33) (tgt := 34) dX9_numbersOf_1 (by omega) (by omega) (by rw [c4_2]; rfl) (by decide) ?_
  exact tl_ldc2 dX9_numbersOf_34 kl_X9_329 (tl_lretE dX9_numbersOf_37 rfl h)

