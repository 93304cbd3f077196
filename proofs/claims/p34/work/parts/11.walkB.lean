/-! Printed by wip/whole/gen: what the bytes compute, and the walks. -/
theorem cs_X5_copyFrom_94 : tl_cV mX5_copyFrom mX3_copyFrom 53 1 := ⟨cd_X3_copyFrom, ml_X5_53, im_X3_copyFrom, se_X3_copyFrom, in_X3, ⟨by decide, by decide, by decide +kernel⟩, Nat.le_of_ble_eq_true rfl, Nat.le_of_ble_eq_true rfl⟩
theorem cs_X5_copyFrom_77 : tl_cV mX5_copyFrom mX4_copyFrom 50 1 := ⟨cd_X4_copyFrom, ml_X5_50, im_X4_copyFrom, se_X4_copyFrom, in_X4, ⟨by decide, by decide, by decide +kernel⟩, Nat.le_of_ble_eq_true rfl, Nat.le_of_ble_eq_true rfl⟩
theorem cs_X5_copyFrom_48 : tl_cV mX5_copyFrom mX7_copyFrom 47 1 := ⟨cd_X7_copyFrom, ml_X5_47, im_X7_copyFrom, se_X7_copyFrom, in_X7, ⟨by decide, by decide, by decide +kernel⟩, Nat.le_of_ble_eq_true rfl, Nat.le_of_ble_eq_true rfl⟩
theorem cs_X5_copyFrom_19 : tl_cV mX5_copyFrom mX1_copyFrom 43 1 := ⟨cd_X1_copyFrom, ml_X5_43, im_X1_copyFrom, se_X1_copyFrom, in_X1, ⟨by decide, by decide, by decide +kernel⟩, Nat.le_of_ble_eq_true rfl, Nat.le_of_ble_eq_true rfl⟩
def f5_copyFrom_p59 : Nat → Nat → Nat → Int32 → tl_S → Option (tl_S)
  | 0, _, _, _, _ => none
  | fu + 1, a1, a2, x3, u =>
  (if 8 ≤ x3 then tl_b (f3_copyFrom (a1 + 4) (a2 + 4) u) (fun u7 => tl_let ((tl_u u7.1 a1 4 (u7.1 a2 4), u7.2) : tl_S) (fun u8 => tl_let ((tl_u u8.1 a1 5 (u8.1 a2 5), u8.2) : tl_S) (fun u9 => tl_let ((tl_u u9.1 a1 6 (u9.1 a2 6), u9.2) : tl_S) (fun u10 => tl_let ((tl_u u10.1 a1 7 (u10.1 a2 7), u10.2) : tl_S) (fun u11 => tl_let ((tl_u u11.1 a1 8 (u11.1 a2 8), u11.2) : tl_S) (fun u12 => tl_let ((tl_u u12.1 a1 9 (u12.1 a2 9), u12.2) : tl_S) (fun u13 => tl_let ((tl_u u13.1 a1 10 (u13.1 a2 10), u13.2) : tl_S) (fun u14 => tl_let ((tl_u u14.1 a1 11 (u14.1 a2 11), u14.2) : tl_S) (fun u15 => tl_let ((tl_u u15.1 a1 12 (u15.1 a2 12), u15.2) : tl_S) (fun u16 => tl_let ((tl_u u16.1 a1 13 (u16.1 a2 13), u16.2) : tl_S) (fun u17 => tl_let ((tl_u u17.1 a1 14 (u17.1 a2 14), u17.2) : tl_S) (fun u18 => tl_let ((tl_u u18.1 a1 15 (u18.1 a2 15), u18.2) : tl_S) (fun u19 => some u19))))))))))))) else tl_g (¬ (x3 < 0 ∨ 8 ≤ x3.toNatClampNeg)) (tl_g (¬ (x3 < 0 ∨ 8 ≤ x3.toNatClampNeg)) (tl_b (f4_copyFrom ((a1 + 3) + (18 + x3.toNatClampNeg)) ((a2 + 3) + (18 + x3.toNatClampNeg)) u) (fun u9 => tl_let (x3 + 1) (fun x10 => f5_copyFrom_p59 fu a1 a2 x10 u9)))))

def f5_copyFrom_p30 : Nat → Nat → Nat → Int32 → tl_S → Option (tl_S)
  | 0, _, _, _, _ => none
  | fu + 1, a1, a2, x3, u =>
  (if 6 ≤ x3 then f5_copyFrom_p59 tl_F a1 a2 0 u else tl_g (¬ (x3 < 0 ∨ 6 ≤ x3.toNatClampNeg)) (tl_g (¬ (x3 < 0 ∨ 6 ≤ x3.toNatClampNeg)) (tl_b (f7_copyFrom ((a1 + 2) + (13 + x3.toNatClampNeg)) ((a2 + 2) + (13 + x3.toNatClampNeg)) u) (fun u9 => tl_let (x3 + 1) (fun x10 => f5_copyFrom_p30 fu a1 a2 x10 u9)))))

def f5_copyFrom_p2 : Nat → Nat → Nat → Int32 → tl_S → Option (tl_S)
  | 0, _, _, _, _ => none
  | fu + 1, a1, a2, x3, u =>
  (if 3 ≤ x3 then f5_copyFrom_p30 tl_F a1 a2 0 u else tl_g (¬ (x3 < 0 ∨ 3 ≤ x3.toNatClampNeg)) (tl_g (¬ (x3 < 0 ∨ 3 ≤ x3.toNatClampNeg)) (tl_b (f1_copyFrom ((a1 + 1) + (11 + x3.toNatClampNeg)) ((a2 + 1) + (11 + x3.toNatClampNeg)) u) (fun u9 => tl_let (x3 + 1) (fun x10 => f5_copyFrom_p2 fu a1 a2 x10 u9)))))

def f5_copyFrom (a0 : Nat) (a1 : Nat) (u : tl_S) : Option (tl_S) :=
  f5_copyFrom_p2 tl_F a0 a1 0 u

theorem l5_copyFrom_p59 {E : tl_E}  {v : tl_S} : ∀ (n : Nat) (a1 : Nat) (a2 : Nat) (x3 : Int32) (u : tl_S) , tl_T E.2.1 a1 = some 5 → tl_T E.2.1 a2 = some 5 → f5_copyFrom_p59 n a1 a2 x3 u = some v → tl_R E mX5_copyFrom tl_X0 (tl_ZB E mX5_copyFrom (fun q w => q = none ∧ w = v)) 0 0 (tl_HB E u) 59 [some (.ref a1), some (.ref a2), some (.int x3)] [] := by
  intro n
  induction n with
  | zero => intro a1 a2 x3 u  h1 h2 h; exact absurd h (by simp [f5_copyFrom_p59])
  | succ n ih =>
    intro a1 a2 x3 u  h1 h2 h
    rw [f5_copyFrom_p59] at h
    refine tl_iload_n dX5_copyFrom_59 rfl (tl_bipush (v := 8) dX5_copyFrom_60 bp_8 (tl_icmp_ge (tgt := 86) dX5_copyFrom_62 (by decide) (fun c5 => ?_) (fun c5 => ?_)))
    · replace h := tl_ip h c5
      obtain ⟨u7, e6, h⟩ := tl_bi h
      refine tl_aload_n dX5_copyFrom_86 rfl (tl_getr (f := 3) (o := 4) tl_ck5 dX5_copyFrom_87 fl_X5_32 (Nat.le_of_ble_eq_true rfl) rfl h1 (tl_aload_n dX5_copyFrom_90 rfl (tl_getr (f := 3) (o := 4) tl_ck5 dX5_copyFrom_91 fl_X5_32 (Nat.le_of_ble_eq_true rfl) rfl h2 (tl_vV1 tl_ck3 rfl (tt_5_3 h1) (l3_copyFrom (tt_5_3 h1) (tt_5_3 h2) e6) dX5_copyFrom_94 cs_X5_copyFrom_94 ⟨rfl, rfl⟩ ⟨Nat.zero_le _, Nat.zero_le _⟩ (Nat.le_of_ble_eq_true rfl) (tl_aload_n dX5_copyFrom_97 rfl (tl_aload_n dX5_copyFrom_98 rfl (tl_geti (f := 4) tl_ck5 dX5_copyFrom_99 fl_X5_56 (Nat.le_of_ble_eq_true rfl) rfl h2 (tl_puti (f := 4) tl_ck5 dX5_copyFrom_102 fl_X5_56 (Nat.le_of_ble_eq_true rfl) rfl rfl rfl h1 (fun u8 e => ?_)))))))))
      have h := tl_leteq e h
      clear e
      refine tl_aload_n dX5_copyFrom_105 rfl (tl_aload_n dX5_copyFrom_106 rfl (tl_geti (f := 5) tl_ck5 dX5_copyFrom_107 fl_X5_59 (Nat.le_of_ble_eq_true rfl) rfl h2 (tl_puti (f := 5) tl_ck5 dX5_copyFrom_110 fl_X5_59 (Nat.le_of_ble_eq_true rfl) rfl rfl rfl h1 (fun u9 e => ?_))))
      have h := tl_leteq e h
      clear e
      refine tl_aload_n dX5_copyFrom_113 rfl (tl_aload_n dX5_copyFrom_114 rfl (tl_geti (f := 6) tl_ck5 dX5_copyFrom_115 fl_X5_62 (Nat.le_of_ble_eq_true rfl) rfl h2 (tl_puti (f := 6) tl_ck5 dX5_copyFrom_118 fl_X5_62 (Nat.le_of_ble_eq_true rfl) rfl rfl rfl h1 (fun u10 e => ?_))))
      have h := tl_leteq e h
      clear e
      refine tl_aload_n dX5_copyFrom_121 rfl (tl_aload_n dX5_copyFrom_122 rfl (tl_geti (f := 7) tl_ck5 dX5_copyFrom_123 fl_X5_65 (Nat.le_of_ble_eq_true rfl) rfl h2 (tl_puti (f := 7) tl_ck5 dX5_copyFrom_126 fl_X5_65 (Nat.le_of_ble_eq_true rfl) rfl rfl rfl h1 (fun u11 e => ?_))))
      have h := tl_leteq e h
      clear e
      refine tl_aload_n dX5_copyFrom_129 rfl (tl_aload_n dX5_copyFrom_130 rfl (tl_geti (f := 8) tl_ck5 dX5_copyFrom_131 fl_X5_68 (Nat.le_of_ble_eq_true rfl) rfl h2 (tl_puti (f := 8) tl_ck5 dX5_copyFrom_134 fl_X5_68 (Nat.le_of_ble_eq_true rfl) rfl rfl rfl h1 (fun u12 e => ?_))))
      have h := tl_leteq e h
      clear e
      refine tl_aload_n dX5_copyFrom_137 rfl (tl_aload_n dX5_copyFrom_138 rfl (tl_geti (f := 9) tl_ck5 dX5_copyFrom_139 fl_X5_71 (Nat.le_of_ble_eq_true rfl) rfl h2 (tl_puti (f := 9) tl_ck5 dX5_copyFrom_142 fl_X5_71 (Nat.le_of_ble_eq_true rfl) rfl rfl rfl h1 (fun u13 e => ?_))))
      have h := tl_leteq e h
      clear e
      refine tl_aload_n dX5_copyFrom_145 rfl (tl_aload_n dX5_copyFrom_146 rfl (tl_geti (f := 10) tl_ck5 dX5_copyFrom_147 fl_X5_74 (Nat.le_of_ble_eq_true rfl) rfl h2 (tl_puti (f := 10) tl_ck5 dX5_copyFrom_150 fl_X5_74 (Nat.le_of_ble_eq_true rfl) rfl rfl rfl h1 (fun u14 e => ?_))))
      have h := tl_leteq e h
      clear e
      refine tl_aload_n dX5_copyFrom_153 rfl (tl_aload_n dX5_copyFrom_154 rfl (tl_geti (f := 11) tl_ck5 dX5_copyFrom_155 fl_X5_77 (Nat.le_of_ble_eq_true rfl) rfl h2 (tl_puti (f := 11) tl_ck5 dX5_copyFrom_158 fl_X5_77 (Nat.le_of_ble_eq_true rfl) rfl rfl rfl h1 (fun u15 e => ?_))))
      have h := tl_leteq e h
      clear e
      refine tl_aload_n dX5_copyFrom_161 rfl (tl_aload_n dX5_copyFrom_162 rfl (tl_geti (f := 12) tl_ck5 dX5_copyFrom_163 fl_X5_80 (Nat.le_of_ble_eq_true rfl) rfl h2 (tl_puti (f := 12) tl_ck5 dX5_copyFrom_166 fl_X5_80 (Nat.le_of_ble_eq_true rfl) rfl rfl rfl h1 (fun u16 e => ?_))))
      have h := tl_leteq e h
      clear e
      refine tl_aload_n dX5_copyFrom_169 rfl (tl_aload_n dX5_copyFrom_170 rfl (tl_geti (f := 13) tl_ck5 dX5_copyFrom_171 fl_X5_83 (Nat.le_of_ble_eq_true rfl) rfl h2 (tl_puti (f := 13) tl_ck5 dX5_copyFrom_174 fl_X5_83 (Nat.le_of_ble_eq_true rfl) rfl rfl rfl h1 (fun u17 e => ?_))))
      have h := tl_leteq e h
      clear e
      refine tl_aload_n dX5_copyFrom_177 rfl (tl_aload_n dX5_copyFrom_178 rfl (tl_geti (f := 14) tl_ck5 dX5_copyFrom_179 fl_X5_36 (Nat.le_of_ble_eq_true rfl) rfl h2 (tl_puti (f := 14) tl_ck5 dX5_copyFrom_182 fl_X5_36 (Nat.le_of_ble_eq_true rfl) rfl rfl rfl h1 (fun u18 e => ?_))))
      have h := tl_leteq e h
      clear e
      refine tl_aload_n dX5_copyFrom_185 rfl (tl_aload_n dX5_copyFrom_186 rfl (tl_geti (f := 15) tl_ck5 dX5_copyFrom_187 fl_X5_86 (Nat.le_of_ble_eq_true rfl) rfl h2 (tl_puti (f := 15) tl_ck5 dX5_copyFrom_190 fl_X5_86 (Nat.le_of_ble_eq_true rfl) rfl rfl rfl h1 (fun u19 e => ?_))))
      have h := tl_leteq e h
      clear e
      exact tl_vretE dX5_copyFrom_193 rfl h
    · replace h := tl_in h c5
      obtain ⟨g6, h⟩ := tl_gi h
      obtain ⟨g7, h⟩ := tl_gi h
      obtain ⟨u9, e8, h⟩ := tl_bi h
      refine tl_aload_n dX5_copyFrom_65 rfl (tl_getr (f := 2) (o := 3) tl_ck5 dX5_copyFrom_66 fl_X5_25 (Nat.le_of_ble_eq_true rfl) rfl h1 (tl_iload_n dX5_copyFrom_69 rfl (tl_ald20 dX5_copyFrom_70 (tt_5_2 h1) (x3.toNatClampNeg) g6 rfl (tl_aload_n dX5_copyFrom_71 rfl (tl_getr (f := 2) (o := 3) tl_ck5 dX5_copyFrom_72 fl_X5_25 (Nat.le_of_ble_eq_true rfl) rfl h2 (tl_iload_n dX5_copyFrom_75 rfl (tl_ald20 dX5_copyFrom_76 (tt_5_2 h2) (x3.toNatClampNeg) g7 rfl (tl_vV1 tl_ck4 rfl (ta_20 (tt_5_2 h1) (tl_inlt g6)) (l4_copyFrom (ta_20 (tt_5_2 h1) (tl_inlt g6)) (ta_20 (tt_5_2 h2) (tl_inlt g7)) e8) dX5_copyFrom_77 cs_X5_copyFrom_77 ⟨rfl, rfl⟩ ⟨Nat.zero_le _, Nat.zero_le _⟩ (Nat.le_of_ble_eq_true rfl) (tl_iincK dX5_copyFrom_80 rfl (ii_1 _) (Nat.le_of_ble_eq_true rfl) (fun x10 e => ?_))))))))))
      have h := tl_leteq e h
      clear e
      refine tl_goto (tgt := 59) dX5_copyFrom_83 (by decide) (?_)
      exact ih _ _ _ _  h1 h2 h

theorem l5_copyFrom_p30 {E : tl_E}  {v : tl_S} : ∀ (n : Nat) (a1 : Nat) (a2 : Nat) (x3 : Int32) (u : tl_S) , tl_T E.2.1 a1 = some 5 → tl_T E.2.1 a2 = some 5 → f5_copyFrom_p30 n a1 a2 x3 u = some v → tl_R E mX5_copyFrom tl_X0 (tl_ZB E mX5_copyFrom (fun q w => q = none ∧ w = v)) 0 0 (tl_HB E u) 30 [some (.ref a1), some (.ref a2), some (.int x3)] [] := by
  intro n
  induction n with
  | zero => intro a1 a2 x3 u  h1 h2 h; exact absurd h (by simp [f5_copyFrom_p30])
  | succ n ih =>
    intro a1 a2 x3 u  h1 h2 h
    rw [f5_copyFrom_p30] at h
    refine tl_iload_n dX5_copyFrom_30 rfl (tl_bipush (v := 6) dX5_copyFrom_31 bp_6 (tl_icmp_ge (tgt := 57) dX5_copyFrom_33 (by decide) (fun c5 => ?_) (fun c5 => ?_)))
    · replace h := tl_ip h c5
      refine tl_iconst (v := 0) dX5_copyFrom_57 ic_0 (tl_istore_n dX5_copyFrom_58 (Nat.le_of_ble_eq_true rfl) (?_))
      exact l5_copyFrom_p59 tl_F _ _ _ _  h1 h2 h
    · replace h := tl_in h c5
      obtain ⟨g6, h⟩ := tl_gi h
      obtain ⟨g7, h⟩ := tl_gi h
      obtain ⟨u9, e8, h⟩ := tl_bi h
      refine tl_aload_n dX5_copyFrom_36 rfl (tl_getr (f := 1) (o := 2) tl_ck5 dX5_copyFrom_37 fl_X5_19 (Nat.le_of_ble_eq_true rfl) rfl h1 (tl_iload_n dX5_copyFrom_40 rfl (tl_ald19 dX5_copyFrom_41 (tt_5_1 h1) (x3.toNatClampNeg) g6 rfl (tl_aload_n dX5_copyFrom_42 rfl (tl_getr (f := 1) (o := 2) tl_ck5 dX5_copyFrom_43 fl_X5_19 (Nat.le_of_ble_eq_true rfl) rfl h2 (tl_iload_n dX5_copyFrom_46 rfl (tl_ald19 dX5_copyFrom_47 (tt_5_1 h2) (x3.toNatClampNeg) g7 rfl (tl_vV1 tl_ck7 rfl (ta_19 (tt_5_1 h1) (tl_inlt g6)) (l7_copyFrom (ta_19 (tt_5_1 h1) (tl_inlt g6)) (ta_19 (tt_5_1 h2) (tl_inlt g7)) e8) dX5_copyFrom_48 cs_X5_copyFrom_48 ⟨rfl, rfl⟩ ⟨Nat.zero_le _, Nat.zero_le _⟩ (Nat.le_of_ble_eq_true rfl) (tl_iincK dX5_copyFrom_51 rfl (ii_1 _) (Nat.le_of_ble_eq_true rfl) (fun x10 e => ?_))))))))))
      have h := tl_leteq e h
      clear e
      refine tl_goto (tgt := 30) dX5_copyFrom_54 (by decide) (?_)
      exact ih _ _ _ _  h1 h2 h

theorem l5_copyFrom_p2 {E : tl_E}  {v : tl_S} : ∀ (n : Nat) (a1 : Nat) (a2 : Nat) (x3 : Int32) (u : tl_S) , tl_T E.2.1 a1 = some 5 → tl_T E.2.1 a2 = some 5 → f5_copyFrom_p2 n a1 a2 x3 u = some v → tl_R E mX5_copyFrom tl_X0 (tl_ZB E mX5_copyFrom (fun q w => q = none ∧ w = v)) 0 0 (tl_HB E u) 2 [some (.ref a1), some (.ref a2), some (.int x3)] [] := by
  intro n
  induction n with
  | zero => intro a1 a2 x3 u  h1 h2 h; exact absurd h (by simp [f5_copyFrom_p2])
  | succ n ih =>
    intro a1 a2 x3 u  h1 h2 h
    rw [f5_copyFrom_p2] at h
    refine tl_iload_n dX5_copyFrom_2 rfl (tl_iconst (v := 3) dX5_copyFrom_3 ic_3 (tl_icmp_ge (tgt := 28) dX5_copyFrom_4 (by decide) (fun c5 => ?_) (fun c5 => ?_)))
    · replace h := tl_ip h c5
      refine tl_iconst (v := 0) dX5_copyFrom_28 ic_0 (tl_istore_n dX5_copyFrom_29 (Nat.le_of_ble_eq_true rfl) (?_))
      exact l5_copyFrom_p30 tl_F _ _ _ _  h1 h2 h
    · replace h := tl_in h c5
      obtain ⟨g6, h⟩ := tl_gi h
      obtain ⟨g7, h⟩ := tl_gi h
      obtain ⟨u9, e8, h⟩ := tl_bi h
      refine tl_aload_n dX5_copyFrom_7 rfl (tl_getr (f := 0) (o := 1) tl_ck5 dX5_copyFrom_8 fl_X5_11 (Nat.le_of_ble_eq_true rfl) rfl h1 (tl_iload_n dX5_copyFrom_11 rfl (tl_ald18 dX5_copyFrom_12 (tt_5_0 h1) (x3.toNatClampNeg) g6 rfl (tl_aload_n dX5_copyFrom_13 rfl (tl_getr (f := 0) (o := 1) tl_ck5 dX5_copyFrom_14 fl_X5_11 (Nat.le_of_ble_eq_true rfl) rfl h2 (tl_iload_n dX5_copyFrom_17 rfl (tl_ald18 dX5_copyFrom_18 (tt_5_0 h2) (x3.toNatClampNeg) g7 rfl (tl_vV1 tl_ck1 rfl (ta_18 (tt_5_0 h1) (tl_inlt g6)) (l1_copyFrom (ta_18 (tt_5_0 h1) (tl_inlt g6)) (ta_18 (tt_5_0 h2) (tl_inlt g7)) e8) dX5_copyFrom_19 cs_X5_copyFrom_19 ⟨rfl, rfl⟩ ⟨Nat.zero_le _, Nat.zero_le _⟩ (Nat.le_of_ble_eq_true rfl) (tl_iincK dX5_copyFrom_22 rfl (ii_1 _) (Nat.le_of_ble_eq_true rfl) (fun x10 e => ?_))))))))))
      have h := tl_leteq e h
      clear e
      refine tl_goto (tgt := 2) dX5_copyFrom_25 (by decide) (?_)
      exact ih _ _ _ _  h1 h2 h

theorem l5_copyFrom {E : tl_E} {a0 : Nat} {a1 : Nat}  {u : tl_S} {v : tl_S} (h0 : tl_T E.2.1 a0 = some 5) (h1 : tl_T E.2.1 a1 = some 5) (h : f5_copyFrom a0 a1 u = some v) : tl_MB E mX5_copyFrom [.ref a0, .ref a1] u (fun q w => q = none ∧ w = v) := by
  unfold f5_copyFrom at h
  refine tl_start [some (.ref a0), some (.ref a1), none] rfl rfl rfl (Nat.le_of_ble_eq_true rfl) ?_
  refine tl_iconst (v := 0) dX5_copyFrom_0 ic_0 (tl_istore_n dX5_copyFrom_1 (Nat.le_of_ble_eq_true rfl) (?_))
  exact l5_copyFrom_p2 tl_F _ _ _ _  h0 h1 h


def f5_addGallery (a0 : Nat) (x1 : Int32) (u : tl_S) : Option (Int32 × tl_S) :=
  (if (u.1 a0 4) < 3 then tl_g (¬ ((u.1 a0 4) < 0 ∨ 3 ≤ (u.1 a0 4).toNatClampNeg)) (tl_let ((tl_u u.1 ((a0 + 1) + (11 + (u.1 a0 4).toNatClampNeg)) 0 x1, u.2) : tl_S) (fun u5 => tl_let ((tl_u u5.1 ((a0 + 1) + (11 + (u.1 a0 4).toNatClampNeg)) 1 0, u5.2) : tl_S) (fun u6 => tl_let ((tl_u u6.1 a0 4 ((u6.1 a0 4) + 1), u6.2) : tl_S) (fun u7 => some (((u7.1 a0 4) - 1), u7))))) else some ((-1), u))

theorem l5_addGallery {E : tl_E} {a0 : Nat} {x1 : Int32}  {u : tl_S} {r : Int32} {v : tl_S} (h0 : tl_T E.2.1 a0 = some 5) (h : f5_addGallery a0 x1 u = some (r, v)) : tl_MB E mX5_addGallery [.ref a0, .int x1] u (fun q w => q = some (.int r) ∧ w = v) := by
  unfold f5_addGallery at h
  refine tl_start [some (.ref a0), some (.int x1), none] rfl rfl rfl (Nat.le_of_ble_eq_true rfl) ?_
  refine tl_aload_n dX5_addGallery_0 rfl (tl_geti (f := 4) tl_ck5 dX5_addGallery_1 fl_X5_56 (Nat.le_of_ble_eq_true rfl) rfl h0 (tl_iconst (v := 3) dX5_addGallery_4 ic_3 (tl_icmp_lt (tgt := 10) dX5_addGallery_5 (by decide) (fun c3 => ?_) (fun c3 => ?_))))
  · replace h := tl_ip h c3
    obtain ⟨g4, h⟩ := tl_gi h
    refine tl_aload_n dX5_addGallery_10 rfl (tl_getr (f := 0) (o := 1) tl_ck5 dX5_addGallery_11 fl_X5_11 (Nat.le_of_ble_eq_true rfl) rfl h0 (tl_aload_n dX5_addGallery_14 rfl (tl_geti (f := 4) tl_ck5 dX5_addGallery_15 fl_X5_56 (Nat.le_of_ble_eq_true rfl) rfl h0 (tl_ald18 dX5_addGallery_18 (tt_5_0 h0) ((u.1 a0 4).toNatClampNeg) g4 rfl (tl_astore_n dX5_addGallery_19 (Nat.le_of_ble_eq_true rfl) (tl_aload_n dX5_addGallery_20 rfl (tl_iload_n dX5_addGallery_21 rfl (tl_puti (f := 0) tl_ck1 dX5_addGallery_22 fl_X5_93 (Nat.le_of_ble_eq_true rfl) rfl rfl rfl (ta_18 (tt_5_0 h0) (tl_inlt g4)) (fun u5 e => ?_)))))))))
    have h := tl_leteq e h
    clear e
    refine tl_aload_n dX5_addGallery_25 rfl (tl_iconst (v := 0) dX5_addGallery_26 ic_0 (tl_puti (f := 1) tl_ck1 dX5_addGallery_27 fl_X5_215 (Nat.le_of_ble_eq_true rfl) rfl rfl rfl (ta_18 (tt_5_0 h0) (tl_inlt g4)) (fun u6 e => ?_)))
    have h := tl_leteq e h
    clear e
    refine tl_aload_n dX5_addGallery_30 rfl (tl_dup dX5_addGallery_31 rfl (tl_geti (f := 4) tl_ck5 dX5_addGallery_32 fl_X5_56 (Nat.le_of_ble_eq_true rfl) rfl h0 (tl_iconst (v := 1) dX5_addGallery_35 ic_1 (tl_iadd dX5_addGallery_36 (tl_puti (f := 4) tl_ck5 dX5_addGallery_37 fl_X5_56 (Nat.le_of_ble_eq_true rfl) rfl rfl rfl h0 (fun u7 e => ?_))))))
    have h := tl_leteq e h
    clear e
    exact tl_aload_n dX5_addGallery_40 rfl (tl_geti (f := 4) tl_ck5 dX5_addGallery_41 fl_X5_56 (Nat.le_of_ble_eq_true rfl) rfl h0 (tl_iconst (v := 1) dX5_addGallery_44 ic_1 (tl_isub dX5_addGallery_45 (tl_iretE dX5_addGallery_46 rfl rfl h))))
  · replace h := tl_in h c3
    exact tl_iconst (v := (-1)) dX5_addGallery_8 ic_m1 (tl_iretE dX5_addGallery_9 rfl rfl h)


def f5_addLamp (a0 : Nat) (x1 : Int32) (x2 : Int32) (x3 : Int32) (x4 : Int32) (u : tl_S) : Option (Int32 × tl_S) :=
  (if (u.1 a0 6) < 8 then tl_g (¬ ((u.1 a0 6) < 0 ∨ 8 ≤ (u.1 a0 6).toNatClampNeg)) (tl_let ((tl_u u.1 ((a0 + 3) + (18 + (u.1 a0 6).toNatClampNeg)) 0 x1, u.2) : tl_S) (fun u8 => tl_let ((tl_u u8.1 ((a0 + 3) + (18 + (u.1 a0 6).toNatClampNeg)) 1 x2, u8.2) : tl_S) (fun u9 => tl_let ((tl_u u9.1 ((a0 + 3) + (18 + (u.1 a0 6).toNatClampNeg)) 2 x3, u9.2) : tl_S) (fun u10 => tl_let ((tl_u u10.1 ((a0 + 3) + (18 + (u.1 a0 6).toNatClampNeg)) 3 x4, u10.2) : tl_S) (fun u11 => tl_let ((tl_u u11.1 a0 11 ((u11.1 a0 11) + x4), u11.2) : tl_S) (fun u12 => tl_let ((tl_u u12.1 a0 6 ((u12.1 a0 6) + 1), u12.2) : tl_S) (fun u13 => some (((u13.1 a0 6) - 1), u13)))))))) else some ((-1), u))

theorem l5_addLamp {E : tl_E} {a0 : Nat} {x1 : Int32} {x2 : Int32} {x3 : Int32} {x4 : Int32}  {u : tl_S} {r : Int32} {v : tl_S} (h0 : tl_T E.2.1 a0 = some 5) (h : f5_addLamp a0 x1 x2 x3 x4 u = some (r, v)) : tl_MB E mX5_addLamp [.ref a0, .int x1, .int x2, .int x3, .int x4] u (fun q w => q = some (.int r) ∧ w = v) := by
  unfold f5_addLamp at h
  refine tl_start [some (.ref a0), some (.int x1), some (.int x2), some (.int x3), some (.int x4), none] rfl rfl rfl (Nat.le_of_ble_eq_true rfl) ?_
  refine tl_aload_n dX5_addLamp_0 rfl (tl_geti (f := 6) tl_ck5 dX5_addLamp_1 fl_X5_62 (Nat.le_of_ble_eq_true rfl) rfl h0 (tl_bipush (v := 8) dX5_addLamp_4 bp_8 (tl_icmp_lt (tgt := 11) dX5_addLamp_6 (by decide) (fun c6 => ?_) (fun c6 => ?_))))
  · replace h := tl_ip h c6
    obtain ⟨g7, h⟩ := tl_gi h
    refine tl_aload_n dX5_addLamp_11 rfl (tl_getr (f := 2) (o := 3) tl_ck5 dX5_addLamp_12 fl_X5_25 (Nat.le_of_ble_eq_true rfl) rfl h0 (tl_aload_n dX5_addLamp_15 rfl (tl_geti (f := 6) tl_ck5 dX5_addLamp_16 fl_X5_62 (Nat.le_of_ble_eq_true rfl) rfl h0 (tl_ald20 dX5_addLamp_19 (tt_5_2 h0) ((u.1 a0 6).toNatClampNeg) g7 rfl (tl_astore dX5_addLamp_20 (Nat.le_of_ble_eq_true rfl) (tl_aload dX5_addLamp_22 rfl (tl_iload_n dX5_addLamp_24 rfl (tl_puti (f := 0) tl_ck4 dX5_addLamp_25 fl_X5_102 (Nat.le_of_ble_eq_true rfl) rfl rfl rfl (ta_20 (tt_5_2 h0) (tl_inlt g7)) (fun u8 e => ?_)))))))))
    have h := tl_leteq e h
    clear e
    refine tl_aload dX5_addLamp_28 rfl (tl_iload_n dX5_addLamp_30 rfl (tl_puti (f := 1) tl_ck4 dX5_addLamp_31 fl_X5_110 (Nat.le_of_ble_eq_true rfl) rfl rfl rfl (ta_20 (tt_5_2 h0) (tl_inlt g7)) (fun u9 e => ?_)))
    have h := tl_leteq e h
    clear e
    refine tl_aload dX5_addLamp_34 rfl (tl_iload_n dX5_addLamp_36 rfl (tl_puti (f := 2) tl_ck4 dX5_addLamp_37 fl_X5_113 (Nat.le_of_ble_eq_true rfl) rfl rfl rfl (ta_20 (tt_5_2 h0) (tl_inlt g7)) (fun u10 e => ?_)))
    have h := tl_leteq e h
    clear e
    refine tl_aload dX5_addLamp_40 rfl (tl_iload dX5_addLamp_42 rfl (tl_puti (f := 3) tl_ck4 dX5_addLamp_44 fl_X5_96 (Nat.le_of_ble_eq_true rfl) rfl rfl rfl (ta_20 (tt_5_2 h0) (tl_inlt g7)) (fun u11 e => ?_)))
    have h := tl_leteq e h
    clear e
    refine tl_aload_n dX5_addLamp_47 rfl (tl_dup dX5_addLamp_48 rfl (tl_geti (f := 11) tl_ck5 dX5_addLamp_49 fl_X5_77 (Nat.le_of_ble_eq_true rfl) rfl h0 (tl_iload dX5_addLamp_52 rfl (tl_iadd dX5_addLamp_54 (tl_puti (f := 11) tl_ck5 dX5_addLamp_55 fl_X5_77 (Nat.le_of_ble_eq_true rfl) rfl rfl rfl h0 (fun u12 e => ?_))))))
    have h := tl_leteq e h
    clear e
    refine tl_aload_n dX5_addLamp_58 rfl (tl_dup dX5_addLamp_59 rfl (tl_geti (f := 6) tl_ck5 dX5_addLamp_60 fl_X5_62 (Nat.le_of_ble_eq_true rfl) rfl h0 (tl_iconst (v := 1) dX5_addLamp_63 ic_1 (tl_iadd dX5_addLamp_64 (tl_puti (f := 6) tl_ck5 dX5_addLamp_65 fl_X5_62 (Nat.le_of_ble_eq_true rfl) rfl rfl rfl h0 (fun u13 e => ?_))))))
    have h := tl_leteq e h
    clear e
    exact tl_aload_n dX5_addLamp_68 rfl (tl_geti (f := 6) tl_ck5 dX5_addLamp_69 fl_X5_62 (Nat.le_of_ble_eq_true rfl) rfl h0 (tl_iconst (v := 1) dX5_addLamp_72 ic_1 (tl_isub dX5_addLamp_73 (tl_iretE dX5_addLamp_74 rfl rfl h))))
  · replace h := tl_in h c6
    exact tl_iconst (v := (-1)) dX5_addLamp_9 ic_m1 (tl_iretE dX5_addLamp_10 rfl rfl h)


def f5_addMiner (a0 : Nat) (x1 : Int32) (x2 : Int32) (u : tl_S) : Option (Int32 × tl_S) :=
  (if (u.1 a0 5) < 6 then tl_g (¬ ((u.1 a0 5) < 0 ∨ 6 ≤ (u.1 a0 5).toNatClampNeg)) (tl_let ((tl_u u.1 ((a0 + 2) + (13 + (u.1 a0 5).toNatClampNeg)) 0 x1, u.2) : tl_S) (fun u6 => tl_let ((tl_u u6.1 ((a0 + 2) + (13 + (u.1 a0 5).toNatClampNeg)) 1 x2, u6.2) : tl_S) (fun u7 => tl_let ((tl_u u7.1 ((a0 + 2) + (13 + (u.1 a0 5).toNatClampNeg)) 2 0, u7.2) : tl_S) (fun u8 => tl_let ((tl_u u8.1 ((a0 + 2) + (13 + (u.1 a0 5).toNatClampNeg)) 3 0, u8.2) : tl_S) (fun u9 => tl_let ((tl_u u9.1 a0 5 ((u9.1 a0 5) + 1), u9.2) : tl_S) (fun u10 => some (((u10.1 a0 5) - 1), u10))))))) else some ((-1), u))

theorem l5_addMiner {E : tl_E} {a0 : Nat} {x1 : Int32} {x2 : Int32}  {u : tl_S} {r : Int32} {v : tl_S} (h0 : tl_T E.2.1 a0 = some 5) (h : f5_addMiner a0 x1 x2 u = some (r, v)) : tl_MB E mX5_addMiner [.ref a0, .int x1, .int x2] u (fun q w => q = some (.int r) ∧ w = v) := by
  unfold f5_addMiner at h
  refine tl_start [some (.ref a0), some (.int x1), some (.int x2), none] rfl rfl rfl (Nat.le_of_ble_eq_true rfl) ?_
  refine tl_aload_n dX5_addMiner_0 rfl (tl_geti (f := 5) tl_ck5 dX5_addMiner_1 fl_X5_59 (Nat.le_of_ble_eq_true rfl) rfl h0 (tl_bipush (v := 6) dX5_addMiner_4 bp_6 (tl_icmp_lt (tgt := 11) dX5_addMiner_6 (by decide) (fun c4 => ?_) (fun c4 => ?_))))
  · replace h := tl_ip h c4
    obtain ⟨g5, h⟩ := tl_gi h
    refine tl_aload_n dX5_addMiner_11 rfl (tl_getr (f := 1) (o := 2) tl_ck5 dX5_addMiner_12 fl_X5_19 (Nat.le_of_ble_eq_true rfl) rfl h0 (tl_aload_n dX5_addMiner_15 rfl (tl_geti (f := 5) tl_ck5 dX5_addMiner_16 fl_X5_59 (Nat.le_of_ble_eq_true rfl) rfl h0 (tl_ald19 dX5_addMiner_19 (tt_5_1 h0) ((u.1 a0 5).toNatClampNeg) g5 rfl (tl_astore_n dX5_addMiner_20 (Nat.le_of_ble_eq_true rfl) (tl_aload_n dX5_addMiner_21 rfl (tl_iload_n dX5_addMiner_22 rfl (tl_puti (f := 0) tl_ck7 dX5_addMiner_23 fl_X5_99 (Nat.le_of_ble_eq_true rfl) rfl rfl rfl (ta_19 (tt_5_1 h0) (tl_inlt g5)) (fun u6 e => ?_)))))))))
    have h := tl_leteq e h
    clear e
    refine tl_aload_n dX5_addMiner_26 rfl (tl_iload_n dX5_addMiner_27 rfl (tl_puti (f := 1) tl_ck7 dX5_addMiner_28 fl_X5_218 (Nat.le_of_ble_eq_true rfl) rfl rfl rfl (ta_19 (tt_5_1 h0) (tl_inlt g5)) (fun u7 e => ?_)))
    have h := tl_leteq e h
    clear e
    refine tl_aload_n dX5_addMiner_31 rfl (tl_iconst (v := 0) dX5_addMiner_32 ic_0 (tl_puti (f := 2) tl_ck7 dX5_addMiner_33 fl_X5_221 (Nat.le_of_ble_eq_true rfl) rfl rfl rfl (ta_19 (tt_5_1 h0) (tl_inlt g5)) (fun u8 e => ?_)))
    have h := tl_leteq e h
    clear e
    refine tl_aload_n dX5_addMiner_36 rfl (tl_iconst (v := 0) dX5_addMiner_37 ic_0 (tl_puti (f := 3) tl_ck7 dX5_addMiner_38 fl_X5_222 (Nat.le_of_ble_eq_true rfl) rfl rfl rfl (ta_19 (tt_5_1 h0) (tl_inlt g5)) (fun u9 e => ?_)))
    have h := tl_leteq e h
    clear e
    refine tl_aload_n dX5_addMiner_41 rfl (tl_dup dX5_addMiner_42 rfl (tl_geti (f := 5) tl_ck5 dX5_addMiner_43 fl_X5_59 (Nat.le_of_ble_eq_true rfl) rfl h0 (tl_iconst (v := 1) dX5_addMiner_46 ic_1 (tl_iadd dX5_addMiner_47 (tl_puti (f := 5) tl_ck5 dX5_addMiner_48 fl_X5_59 (Nat.le_of_ble_eq_true rfl) rfl rfl rfl h0 (fun u10 e => ?_))))))
    have h := tl_leteq e h
    clear e
    exact tl_aload_n dX5_addMiner_51 rfl (tl_geti (f := 5) tl_ck5 dX5_addMiner_52 fl_X5_59 (Nat.le_of_ble_eq_true rfl) rfl h0 (tl_iconst (v := 1) dX5_addMiner_55 ic_1 (tl_isub dX5_addMiner_56 (tl_iretE dX5_addMiner_57 rfl rfl h))))
  · replace h := tl_in h c4
    exact tl_iconst (v := (-1)) dX5_addMiner_9 ic_m1 (tl_iretE dX5_addMiner_10 rfl rfl h)


def f5_bringOil (a0 : Nat) (x1 : Int32) (u : tl_S) : Option (Int32 × tl_S) :=
  tl_let ((tl_u u.1 a0 8 ((u.1 a0 8) + x1), u.2) : tl_S) (fun u3 => tl_let ((tl_u u3.1 a0 11 ((u3.1 a0 11) + x1), u3.2) : tl_S) (fun u4 => some ((u4.1 a0 8), u4)))

theorem l5_bringOil {E : tl_E} {a0 : Nat} {x1 : Int32}  {u : tl_S} {r : Int32} {v : tl_S} (h0 : tl_T E.2.1 a0 = some 5) (h : f5_bringOil a0 x1 u = some (r, v)) : tl_MB E mX5_bringOil [.ref a0, .int x1] u (fun q w => q = some (.int r) ∧ w = v) := by
  unfold f5_bringOil at h
  refine tl_start [some (.ref a0), some (.int x1)] rfl rfl rfl (Nat.le_of_ble_eq_true rfl) ?_
  refine tl_aload_n dX5_bringOil_0 rfl (tl_dup dX5_bringOil_1 rfl (tl_geti (f := 8) tl_ck5 dX5_bringOil_2 fl_X5_68 (Nat.le_of_ble_eq_true rfl) rfl h0 (tl_iload_n dX5_bringOil_5 rfl (tl_iadd dX5_bringOil_6 (tl_puti (f := 8) tl_ck5 dX5_bringOil_7 fl_X5_68 (Nat.le_of_ble_eq_true rfl) rfl rfl rfl h0 (fun u3 e => ?_))))))
  have h := tl_leteq e h
  clear e
  refine tl_aload_n dX5_bringOil_10 rfl (tl_dup dX5_bringOil_11 rfl (tl_geti (f := 11) tl_ck5 dX5_bringOil_12 fl_X5_77 (Nat.le_of_ble_eq_true rfl) rfl h0 (tl_iload_n dX5_bringOil_15 rfl (tl_iadd dX5_bringOil_16 (tl_puti (f := 11) tl_ck5 dX5_bringOil_17 fl_X5_77 (Nat.le_of_ble_eq_true rfl) rfl rfl rfl h0 (fun u4 e => ?_))))))
  have h := tl_leteq e h
  clear e
  exact tl_aload_n dX5_bringOil_20 rfl (tl_geti (f := 8) tl_ck5 dX5_bringOil_21 fl_X5_68 (Nat.le_of_ble_eq_true rfl) rfl h0 (tl_iretE dX5_bringOil_24 rfl rfl h))


def f5_changeSetting (a0 : Nat) (x1 : Int32) (x2 : Int32) (u : tl_S) : Option (Int32 × tl_S) :=
  (if x1 = 0 then tl_let ((u.1 a0 14)) (fun x5 => (if x1 = 0 then tl_let ((tl_u u.1 a0 14 x2, u.2) : tl_S) (fun u7 => some (x5, u7)) else tl_let ((tl_u u.1 a0 15 x2, u.2) : tl_S) (fun u7 => some (x5, u7)))) else tl_let ((u.1 a0 15)) (fun x5 => (if x1 = 0 then tl_let ((tl_u u.1 a0 14 x2, u.2) : tl_S) (fun u7 => some (x5, u7)) else tl_let ((tl_u u.1 a0 15 x2, u.2) : tl_S) (fun u7 => some (x5, u7)))))

theorem l5_changeSetting {E : tl_E} {a0 : Nat} {x1 : Int32} {x2 : Int32}  {u : tl_S} {r : Int32} {v : tl_S} (h0 : tl_T E.2.1 a0 = some 5) (h : f5_changeSetting a0 x1 x2 u = some (r, v)) : tl_MB E mX5_changeSetting [.ref a0, .int x1, .int x2] u (fun q w => q = some (.int r) ∧ w = v) := by
  unfold f5_changeSetting at h
  refine tl_start [some (.ref a0), some (.int x1), some (.int x2), none] rfl rfl rfl (Nat.le_of_ble_eq_true rfl) ?_
  refine tl_iload_n dX5_changeSetting_0 rfl (tl_if_ne (tgt := 11) dX5_changeSetting_1 (by decide) (fun c4 => ?_) (fun c4 => ?_))
  · replace h := tl_in h c4
    refine tl_aload_n dX5_changeSetting_11 rfl (tl_geti (f := 15) tl_ck5 dX5_changeSetting_12 fl_X5_86 (Nat.le_of_ble_eq_true rfl) rfl h0 (tl_isto_n dX5_changeSetting_15 (Nat.le_of_ble_eq_true rfl) (fun x5 e => ?_)))
    have h := tl_leteq e h
    clear e
    refine tl_iload_n dX5_changeSetting_16 rfl (tl_if_ne (tgt := 28) dX5_changeSetting_17 (by decide) (fun c6 => ?_) (fun c6 => ?_))
    · replace h := tl_in h c6
      refine tl_aload_n dX5_changeSetting_28 rfl (tl_iload_n dX5_changeSetting_29 rfl (tl_puti (f := 15) tl_ck5 dX5_changeSetting_30 fl_X5_86 (Nat.le_of_ble_eq_true rfl) rfl rfl rfl h0 (fun u7 e => ?_)))
      have h := tl_leteq e h
      clear e
      exact tl_iload_n dX5_changeSetting_33 rfl (tl_iretE dX5_changeSetting_34 rfl rfl h)
    · replace h := tl_ip h c6
      refine tl_aload_n dX5_changeSetting_20 rfl (tl_iload_n dX5_changeSetting_21 rfl (tl_puti (f := 14) tl_ck5 dX5_changeSetting_22 fl_X5_36 (Nat.le_of_ble_eq_true rfl) rfl rfl rfl h0 (fun u7 e => ?_)))
      have h := tl_leteq e h
      clear e
      exact tl_goto (tgt := 33) dX5_changeSetting_25 (by decide) (tl_iload_n dX5_changeSetting_33 rfl (tl_iretE dX5_changeSetting_34 rfl rfl h))
  · replace h := tl_ip h c4
    refine tl_aload_n dX5_changeSetting_4 rfl (tl_geti (f := 14) tl_ck5 dX5_changeSetting_5 fl_X5_36 (Nat.le_of_ble_eq_true rfl) rfl h0 (tl_goto (tgt := 15) dX5_changeSetting_8 (by decide) (tl_isto_n dX5_changeSetting_15 (Nat.le_of_ble_eq_true rfl) (fun x5 e => ?_))))
    have h := tl_leteq e h
    clear e
    refine tl_iload_n dX5_changeSetting_16 rfl (tl_if_ne (tgt := 28) dX5_changeSetting_17 (by decide) (fun c6 => ?_) (fun c6 => ?_))
    · replace h := tl_in h c6
      refine tl_aload_n dX5_changeSetting_28 rfl (tl_iload_n dX5_changeSetting_29 rfl (tl_puti (f := 15) tl_ck5 dX5_changeSetting_30 fl_X5_86 (Nat.le_of_ble_eq_true rfl) rfl rfl rfl h0 (fun u7 e => ?_)))
      have h := tl_leteq e h
      clear e
      exact tl_iload_n dX5_changeSetting_33 rfl (tl_iretE dX5_changeSetting_34 rfl rfl h)
    · replace h := tl_ip h c6
      refine tl_aload_n dX5_changeSetting_20 rfl (tl_iload_n dX5_changeSetting_21 rfl (tl_puti (f := 14) tl_ck5 dX5_changeSetting_22 fl_X5_36 (Nat.le_of_ble_eq_true rfl) rfl rfl rfl h0 (fun u7 e => ?_)))
      have h := tl_leteq e h
      clear e
      exact tl_goto (tgt := 33) dX5_changeSetting_25 (by decide) (tl_iload_n dX5_changeSetting_33 rfl (tl_iretE dX5_changeSetting_34 rfl rfl h))

theorem cs_X5_fullestLampBelow_25 : tl_cV mX5_fullestLampBelow mX4_burnsIn 125 1 := ⟨cd_X4_burnsIn, ml_X5_125, im_X4_burnsIn, se_X4_burnsIn, in_X4, ⟨by decide, by decide, by decide +kernel⟩, Nat.le_of_ble_eq_true rfl, Nat.le_of_ble_eq_true rfl⟩
def f5_fullestLampBelow_p8 : Nat → Nat → Int32 → Int32 → Int32 → Int32 → Int32 → tl_S → Option (Int32 × tl_S)
  | 0, _, _, _, _, _, _, _ => none
  | fu + 1, a1, x2, x3, x4, x5, x6, u =>
  (if (u.1 a1 6) ≤ x6 then some (x4, u) else tl_g (¬ (x6 < 0 ∨ 8 ≤ x6.toNatClampNeg)) (tl_b2 (f4_burnsIn ((a1 + 3) + (18 + x6.toNatClampNeg)) x2 u) (fun x12 u11 => (if x12 = 0 then tl_let (x6 + 1) (fun x14 => f5_fullestLampBelow_p8 fu a1 x2 x3 x4 x5 x14 u11) else tl_g (¬ (x6 < 0 ∨ 8 ≤ x6.toNatClampNeg)) ((if x3 ≤ (u11.1 ((a1 + 3) + (18 + x6.toNatClampNeg)) 1) then tl_let (x6 + 1) (fun x16 => f5_fullestLampBelow_p8 fu a1 x2 x3 x4 x5 x16 u11) else tl_g (¬ (x6 < 0 ∨ 8 ≤ x6.toNatClampNeg)) ((if (u11.1 ((a1 + 3) + (18 + x6.toNatClampNeg)) 3) ≤ x5 then tl_let (x6 + 1) (fun x18 => f5_fullestLampBelow_p8 fu a1 x2 x3 x4 x5 x18 u11) else tl_g (¬ (x6 < 0 ∨ 8 ≤ x6.toNatClampNeg)) (tl_let ((u11.1 ((a1 + 3) + (18 + x6.toNatClampNeg)) 3)) (fun x19 => tl_let (x6 + 1) (fun x20 => f5_fullestLampBelow_p8 fu a1 x2 x3 x6 x19 x20 u11)))))))))))

def f5_fullestLampBelow (a0 : Nat) (x1 : Int32) (x2 : Int32) (u : tl_S) : Option (Int32 × tl_S) :=
  f5_fullestLampBelow_p8 tl_F a0 x1 x2 ((-1)) 0 0 u

theorem l5_fullestLampBelow_p8 {E : tl_E}  {r : Int32} {v : tl_S} : ∀ (n : Nat) (a1 : Nat) (x2 : Int32) (x3 : Int32) (x4 : Int32) (x5 : Int32) (x6 : Int32) (u : tl_S) , tl_T E.2.1 a1 = some 5 → f5_fullestLampBelow_p8 n a1 x2 x3 x4 x5 x6 u = some (r, v) → tl_R E mX5_fullestLampBelow tl_X0 (tl_ZB E mX5_fullestLampBelow (fun q w => q = some (.int r) ∧ w = v)) 0 0 (tl_HB E u) 8 [some (.ref a1), some (.int x2), some (.int x3), some (.int x4), some (.int x5), some (.int x6)] [] := by
  intro n
  induction n with
  | zero => intro a1 x2 x3 x4 x5 x6 u  h1 h; exact absurd h (by simp [f5_fullestLampBelow_p8])
  | succ n ih =>
    intro a1 x2 x3 x4 x5 x6 u  h1 h
    rw [f5_fullestLampBelow_p8] at h
    refine tl_iload dX5_fullestLampBelow_8 rfl (tl_aload_n dX5_fullestLampBelow_10 rfl (tl_geti (f := 6) tl_ck5 dX5_fullestLampBelow_11 fl_X5_62 (Nat.le_of_ble_eq_true rfl) rfl h1 (tl_icmp_ge (tgt := 81) dX5_fullestLampBelow_14 (by decide) (fun c8 => ?_) (fun c8 => ?_))))
    · replace h := tl_ip h c8
      exact tl_iload_n dX5_fullestLampBelow_81 rfl (tl_iretE dX5_fullestLampBelow_82 rfl rfl h)
    · replace h := tl_in h c8
      obtain ⟨g9, h⟩ := tl_gi h
      obtain ⟨x12, u11, e10, h⟩ := tl_b2i h
      refine tl_aload_n dX5_fullestLampBelow_17 rfl (tl_getr (f := 2) (o := 3) tl_ck5 dX5_fullestLampBelow_18 fl_X5_25 (Nat.le_of_ble_eq_true rfl) rfl h1 (tl_iload dX5_fullestLampBelow_21 rfl (tl_ald20 dX5_fullestLampBelow_23 (tt_5_2 h1) (x6.toNatClampNeg) g9 rfl (tl_iload_n dX5_fullestLampBelow_24 rfl (tl_iV1 tl_ck4 rfl (ta_20 (tt_5_2 h1) (tl_inlt g9)) (l4_burnsIn (ta_20 (tt_5_2 h1) (tl_inlt g9)) e10) dX5_fullestLampBelow_25 cs_X5_fullestLampBelow_25 ⟨rfl, rfl⟩ ⟨Nat.zero_le _, Nat.zero_le _⟩ (Nat.le_of_ble_eq_true rfl) (tl_if_eq (tgt := 75) dX5_fullestLampBelow_28 (by decide) (fun c13 => ?_) (fun c13 => ?_)))))))
      · replace h := tl_ip h c13
        refine tl_iincK dX5_fullestLampBelow_75 rfl (ii_1 _) (Nat.le_of_ble_eq_true rfl) (fun x14 e => ?_)
        have h := tl_leteq e h
        clear e
        refine tl_goto (tgt := 8) dX5_fullestLampBelow_78 (by decide) (?_)
        exact ih _ _ _ _ _ _ _  h1 h
      · replace h := tl_in h c13
        obtain ⟨g14, h⟩ := tl_gi h
        refine tl_aload_n dX5_fullestLampBelow_31 rfl (tl_getr (f := 2) (o := 3) tl_ck5 dX5_fullestLampBelow_32 fl_X5_25 (Nat.le_of_ble_eq_true rfl) rfl h1 (tl_iload dX5_fullestLampBelow_35 rfl (tl_ald20 dX5_fullestLampBelow_37 (tt_5_2 h1) (x6.toNatClampNeg) g14 rfl (tl_geti (f := 1) tl_ck4 dX5_fullestLampBelow_38 fl_X5_110 (Nat.le_of_ble_eq_true rfl) rfl (ta_20 (tt_5_2 h1) (tl_inlt g14)) (tl_iload_n dX5_fullestLampBelow_41 rfl (tl_icmp_ge (tgt := 75) dX5_fullestLampBelow_42 (by decide) (fun c15 => ?_) (fun c15 => ?_)))))))
        · replace h := tl_ip h c15
          refine tl_iincK dX5_fullestLampBelow_75 rfl (ii_1 _) (Nat.le_of_ble_eq_true rfl) (fun x16 e => ?_)
          have h := tl_leteq e h
          clear e
          refine tl_goto (tgt := 8) dX5_fullestLampBelow_78 (by decide) (?_)
          exact ih _ _ _ _ _ _ _  h1 h
        · replace h := tl_in h c15
          obtain ⟨g16, h⟩ := tl_gi h
          refine tl_aload_n dX5_fullestLampBelow_45 rfl (tl_getr (f := 2) (o := 3) tl_ck5 dX5_fullestLampBelow_46 fl_X5_25 (Nat.le_of_ble_eq_true rfl) rfl h1 (tl_iload dX5_fullestLampBelow_49 rfl (tl_ald20 dX5_fullestLampBelow_51 (tt_5_2 h1) (x6.toNatClampNeg) g16 rfl (tl_geti (f := 3) tl_ck4 dX5_fullestLampBelow_52 fl_X5_96 (Nat.le_of_ble_eq_true rfl) rfl (ta_20 (tt_5_2 h1) (tl_inlt g16)) (tl_iload dX5_fullestLampBelow_55 rfl (tl_icmp_le (tgt := 75) dX5_fullestLampBelow_57 (by decide) (fun c17 => ?_) (fun c17 => ?_)))))))
          · replace h := tl_ip h c17
            refine tl_iincK dX5_fullestLampBelow_75 rfl (ii_1 _) (Nat.le_of_ble_eq_true rfl) (fun x18 e => ?_)
            have h := tl_leteq e h
            clear e
            refine tl_goto (tgt := 8) dX5_fullestLampBelow_78 (by decide) (?_)
            exact ih _ _ _ _ _ _ _  h1 h
          · replace h := tl_in h c17
            obtain ⟨g18, h⟩ := tl_gi h
            refine tl_iload dX5_fullestLampBelow_60 rfl (tl_istore_n dX5_fullestLampBelow_62 (Nat.le_of_ble_eq_true rfl) (tl_aload_n dX5_fullestLampBelow_63 rfl (tl_getr (f := 2) (o := 3) tl_ck5 dX5_fullestLampBelow_64 fl_X5_25 (Nat.le_of_ble_eq_true rfl) rfl h1 (tl_iload dX5_fullestLampBelow_67 rfl (tl_ald20 dX5_fullestLampBelow_69 (tt_5_2 h1) (x6.toNatClampNeg) g18 rfl (tl_geti (f := 3) tl_ck4 dX5_fullestLampBelow_70 fl_X5_96 (Nat.le_of_ble_eq_true rfl) rfl (ta_20 (tt_5_2 h1) (tl_inlt g18)) (tl_isto dX5_fullestLampBelow_73 (Nat.le_of_ble_eq_true rfl) (fun x19 e => ?_))))))))
            have h := tl_leteq e h
            clear e
            refine tl_iincK dX5_fullestLampBelow_75 rfl (ii_1 _) (Nat.le_of_ble_eq_true rfl) (fun x20 e => ?_)
            have h := tl_leteq e h
            clear e
            refine tl_goto (tgt := 8) dX5_fullestLampBelow_78 (by decide) (?_)
            exact ih _ _ _ _ _ _ _  h1 h

theorem l5_fullestLampBelow {E : tl_E} {a0 : Nat} {x1 : Int32} {x2 : Int32}  {u : tl_S} {r : Int32} {v : tl_S} (h0 : tl_T E.2.1 a0 = some 5) (h : f5_fullestLampBelow a0 x1 x2 u = some (r, v)) : tl_MB E mX5_fullestLampBelow [.ref a0, .int x1, .int x2] u (fun q w => q = some (.int r) ∧ w = v) := by
  unfold f5_fullestLampBelow at h
  refine tl_start [some (.ref a0), some (.int x1), some (.int x2), none, none, none] rfl rfl rfl (Nat.le_of_ble_eq_true rfl) ?_
  refine tl_iconst (v := (-1)) dX5_fullestLampBelow_0 ic_m1 (tl_istore_n dX5_fullestLampBelow_1 (Nat.le_of_ble_eq_true rfl) (tl_iconst (v := 0) dX5_fullestLampBelow_2 ic_0 (tl_istore dX5_fullestLampBelow_3 (Nat.le_of_ble_eq_true rfl) (tl_iconst (v := 0) dX5_fullestLampBelow_5 ic_0 (tl_istore dX5_fullestLampBelow_6 (Nat.le_of_ble_eq_true rfl) (?_))))))
  exact l5_fullestLampBelow_p8 tl_F _ _ _ _ _ _ _  h0 h

theorem cs_X5_isLit_18 : tl_cV mX5_isLit mX4_lights 103 2 := ⟨cd_X4_lights, ml_X5_103, im_X4_lights, se_X4_lights, in_X4, ⟨by decide, by decide, by decide +kernel⟩, Nat.le_of_ble_eq_true rfl, Nat.le_of_ble_eq_true rfl⟩
def f5_isLit_p2 : Nat → Nat → Int32 → Int32 → Int32 → tl_S → Option (Int32 × tl_S)
  | 0, _, _, _, _, _ => none
  | fu + 1, a1, x2, x3, x4, u =>
  (if (u.1 a1 6) ≤ x4 then some (0, u) else tl_g (¬ (x4 < 0 ∨ 8 ≤ x4.toNatClampNeg)) (tl_b2 (f4_lights ((a1 + 3) + (18 + x4.toNatClampNeg)) x2 x3 u) (fun x10 u9 => (if x10 = 0 then tl_let (x4 + 1) (fun x12 => f5_isLit_p2 fu a1 x2 x3 x12 u9) else some (1, u9)))))

def f5_isLit (a0 : Nat) (x1 : Int32) (x2 : Int32) (u : tl_S) : Option (Int32 × tl_S) :=
  f5_isLit_p2 tl_F a0 x1 x2 0 u

theorem l5_isLit_p2 {E : tl_E}  {r : Int32} {v : tl_S} : ∀ (n : Nat) (a1 : Nat) (x2 : Int32) (x3 : Int32) (x4 : Int32) (u : tl_S) , tl_T E.2.1 a1 = some 5 → f5_isLit_p2 n a1 x2 x3 x4 u = some (r, v) → tl_R E mX5_isLit tl_X0 (tl_ZB E mX5_isLit (fun q w => q = some (.int r) ∧ w = v)) 0 0 (tl_HB E u) 2 [some (.ref a1), some (.int x2), some (.int x3), some (.int x4)] [] := by
  intro n
  induction n with
  | zero => intro a1 x2 x3 x4 u  h1 h; exact absurd h (by simp [f5_isLit_p2])
  | succ n ih =>
    intro a1 x2 x3 x4 u  h1 h
    rw [f5_isLit_p2] at h
    refine tl_iload_n dX5_isLit_2 rfl (tl_aload_n dX5_isLit_3 rfl (tl_geti (f := 6) tl_ck5 dX5_isLit_4 fl_X5_62 (Nat.le_of_ble_eq_true rfl) rfl h1 (tl_icmp_ge (tgt := 32) dX5_isLit_7 (by decide) (fun c6 => ?_) (fun c6 => ?_))))
    · replace h := tl_ip h c6
      exact tl_iconst (v := 0) dX5_isLit_32 ic_0 (tl_iretE dX5_isLit_33 rfl rfl h)
    · replace h := tl_in h c6
      obtain ⟨g7, h⟩ := tl_gi h
      obtain ⟨x10, u9, e8, h⟩ := tl_b2i h
      refine tl_aload_n dX5_isLit_10 rfl (tl_getr (f := 2) (o := 3) tl_ck5 dX5_isLit_11 fl_X5_25 (Nat.le_of_ble_eq_true rfl) rfl h1 (tl_iload_n dX5_isLit_14 rfl (tl_ald20 dX5_isLit_15 (tt_5_2 h1) (x4.toNatClampNeg) g7 rfl (tl_iload_n dX5_isLit_16 rfl (tl_iload_n dX5_isLit_17 rfl (tl_iV2 tl_ck4 rfl (ta_20 (tt_5_2 h1) (tl_inlt g7)) (l4_lights (ta_20 (tt_5_2 h1) (tl_inlt g7)) e8) dX5_isLit_18 cs_X5_isLit_18 ⟨rfl, rfl⟩ ⟨Nat.zero_le _, Nat.zero_le _⟩ (Nat.le_of_ble_eq_true rfl) (tl_if_eq (tgt := 26) dX5_isLit_21 (by decide) (fun c11 => ?_) (fun c11 => ?_))))))))
      · replace h := tl_ip h c11
        refine tl_iincK dX5_isLit_26 rfl (ii_1 _) (Nat.le_of_ble_eq_true rfl) (fun x12 e => ?_)
        have h := tl_leteq e h
        clear e
        refine tl_goto (tgt := 2) dX5_isLit_29 (by decide) (?_)
        exact ih _ _ _ _ _  h1 h
      · replace h := tl_in h c11
        exact tl_iconst (v := 1) dX5_isLit_24 ic_1 (tl_iretE dX5_isLit_25 rfl rfl h)

theorem l5_isLit {E : tl_E} {a0 : Nat} {x1 : Int32} {x2 : Int32}  {u : tl_S} {r : Int32} {v : tl_S} (h0 : tl_T E.2.1 a0 = some 5) (h : f5_isLit a0 x1 x2 u = some (r, v)) : tl_MB E mX5_isLit [.ref a0, .int x1, .int x2] u (fun q w => q = some (.int r) ∧ w = v) := by
  unfold f5_isLit at h
  refine tl_start [some (.ref a0), some (.int x1), some (.int x2), none] rfl rfl rfl (Nat.le_of_ble_eq_true rfl) ?_
  refine tl_iconst (v := 0) dX5_isLit_0 ic_0 (tl_istore_n dX5_isLit_1 (Nat.le_of_ble_eq_true rfl) (?_))
  exact l5_isLit_p2 tl_F _ _ _ _ _  h0 h


def f5_minersIn_p4 : Nat → Nat → Int32 → Int32 → Int32 → tl_S → Option (Int32 × tl_S)
  | 0, _, _, _, _, _ => none
  | fu + 1, a1, x2, x3, x4, u =>
  (if (u.1 a1 5) ≤ x4 then some (x3, u) else tl_g (¬ (x4 < 0 ∨ 6 ≤ x4.toNatClampNeg)) ((if (u.1 ((a1 + 2) + (13 + x4.toNatClampNeg)) 0) = x2 then tl_let (x3 + 1) (fun x9 => tl_let (x4 + 1) (fun x10 => f5_minersIn_p4 fu a1 x2 x9 x10 u)) else tl_let (x4 + 1) (fun x9 => f5_minersIn_p4 fu a1 x2 x3 x9 u))))

def f5_minersIn (a0 : Nat) (x1 : Int32) (u : tl_S) : Option (Int32 × tl_S) :=
  f5_minersIn_p4 tl_F a0 x1 0 0 u

theorem l5_minersIn_p4 {E : tl_E}  {r : Int32} {v : tl_S} : ∀ (n : Nat) (a1 : Nat) (x2 : Int32) (x3 : Int32) (x4 : Int32) (u : tl_S) , tl_T E.2.1 a1 = some 5 → f5_minersIn_p4 n a1 x2 x3 x4 u = some (r, v) → tl_R E mX5_minersIn tl_X0 (tl_ZB E mX5_minersIn (fun q w => q = some (.int r) ∧ w = v)) 0 0 (tl_HB E u) 4 [some (.ref a1), some (.int x2), some (.int x3), some (.int x4)] [] := by
  intro n
  induction n with
  | zero => intro a1 x2 x3 x4 u  h1 h; exact absurd h (by simp [f5_minersIn_p4])
  | succ n ih =>
    intro a1 x2 x3 x4 u  h1 h
    rw [f5_minersIn_p4] at h
    refine tl_iload_n dX5_minersIn_4 rfl (tl_aload_n dX5_minersIn_5 rfl (tl_geti (f := 5) tl_ck5 dX5_minersIn_6 fl_X5_59 (Nat.le_of_ble_eq_true rfl) rfl h1 (tl_icmp_ge (tgt := 34) dX5_minersIn_9 (by decide) (fun c6 => ?_) (fun c6 => ?_))))
    · replace h := tl_ip h c6
      exact tl_iload_n dX5_minersIn_34 rfl (tl_iretE dX5_minersIn_35 rfl rfl h)
    · replace h := tl_in h c6
      obtain ⟨g7, h⟩ := tl_gi h
      refine tl_aload_n dX5_minersIn_12 rfl (tl_getr (f := 1) (o := 2) tl_ck5 dX5_minersIn_13 fl_X5_19 (Nat.le_of_ble_eq_true rfl) rfl h1 (tl_iload_n dX5_minersIn_16 rfl (tl_ald19 dX5_minersIn_17 (tt_5_1 h1) (x4.toNatClampNeg) g7 rfl (tl_geti (f := 0) tl_ck7 dX5_minersIn_18 fl_X5_99 (Nat.le_of_ble_eq_true rfl) rfl (ta_19 (tt_5_1 h1) (tl_inlt g7)) (tl_iload_n dX5_minersIn_21 rfl (tl_icmp_ne (tgt := 28) dX5_minersIn_22 (by decide) (fun c8 => ?_) (fun c8 => ?_)))))))
      · replace h := tl_in h c8
        refine tl_iincK dX5_minersIn_28 rfl (ii_1 _) (Nat.le_of_ble_eq_true rfl) (fun x9 e => ?_)
        have h := tl_leteq e h
        clear e
        refine tl_goto (tgt := 4) dX5_minersIn_31 (by decide) (?_)
        exact ih _ _ _ _ _  h1 h
      · replace h := tl_ip h c8
        refine tl_iincK dX5_minersIn_25 rfl (ii_1 _) (Nat.le_of_ble_eq_true rfl) (fun x9 e => ?_)
        have h := tl_leteq e h
        clear e
        refine tl_iincK dX5_minersIn_28 rfl (ii_1 _) (Nat.le_of_ble_eq_true rfl) (fun x10 e => ?_)
        have h := tl_leteq e h
        clear e
        refine tl_goto (tgt := 4) dX5_minersIn_31 (by decide) (?_)
        exact ih _ _ _ _ _  h1 h

theorem l5_minersIn {E : tl_E} {a0 : Nat} {x1 : Int32}  {u : tl_S} {r : Int32} {v : tl_S} (h0 : tl_T E.2.1 a0 = some 5) (h : f5_minersIn a0 x1 u = some (r, v)) : tl_MB E mX5_minersIn [.ref a0, .int x1] u (fun q w => q = some (.int r) ∧ w = v) := by
  unfold f5_minersIn at h
  refine tl_start [some (.ref a0), some (.int x1), none, none] rfl rfl rfl (Nat.le_of_ble_eq_true rfl) ?_
  refine tl_iconst (v := 0) dX5_minersIn_0 ic_0 (tl_istore_n dX5_minersIn_1 (Nat.le_of_ble_eq_true rfl) (tl_iconst (v := 0) dX5_minersIn_2 ic_0 (tl_istore_n dX5_minersIn_3 (Nat.le_of_ble_eq_true rfl) (?_))))
  exact l5_minersIn_p4 tl_F _ _ _ _ _  h0 h

theorem cs_X5_ladSeesTheDark_33 : tl_cV mX5_ladSeesTheDark mX5_minersIn 294 1 := ⟨cd_X5_minersIn, ml_X5_294, im_X5_minersIn, se_X5_minersIn, in_X5, ⟨by decide, by decide, by decide +kernel⟩, Nat.le_of_ble_eq_true rfl, Nat.le_of_ble_eq_true rfl⟩
theorem cs_X5_ladSeesTheDark_42 : tl_cV mX5_ladSeesTheDark mX5_isLit 107 2 := ⟨cd_X5_isLit, ml_X5_107, im_X5_isLit, se_X5_isLit, in_X5, ⟨by decide, by decide, by decide +kernel⟩, Nat.le_of_ble_eq_true rfl, Nat.le_of_ble_eq_true rfl⟩
theorem cs_X5_ladSeesTheDark_53 : tl_cV mX5_ladSeesTheDark mX5_fullestLampBelow 297 2 := ⟨cd_X5_fullestLampBelow, ml_X5_297, im_X5_fullestLampBelow, se_X5_fullestLampBelow, in_X5, ⟨by decide, by decide, by decide +kernel⟩, Nat.le_of_ble_eq_true rfl, Nat.le_of_ble_eq_true rfl⟩
theorem cs_X5_ladSeesTheDark_71 : tl_cV mX5_ladSeesTheDark mX3_addHang 199 3 := ⟨cd_X3_addHang, ml_X5_199, im_X3_addHang, se_X3_addHang, in_X3, ⟨by decide, by decide, by decide +kernel⟩, Nat.le_of_ble_eq_true rfl, Nat.le_of_ble_eq_true rfl⟩
def f5_ladSeesTheDark_p2 : Nat → Nat → Int32 → tl_S → Option (tl_S)
  | 0, _, _, _ => none
  | fu + 1, a1, x2, u =>
  (if (u.1 a1 4) ≤ x2 then some u else tl_g (¬ (x2 < 0 ∨ 3 ≤ x2.toNatClampNeg)) (tl_let ((u.1 ((a1 + 1) + (11 + x2.toNatClampNeg)) 0)) (fun x6 => (if x6 ≤ 1 then tl_let (x2 + 1) (fun x8 => f5_ladSeesTheDark_p2 fu a1 x8 u) else (if 60 ≤ x6 then tl_let (x2 + 1) (fun x9 => f5_ladSeesTheDark_p2 fu a1 x9 u) else tl_b2 (f5_minersIn a1 x2 u) (fun x11 u10 => (if x11 ≤ 0 then tl_let (x2 + 1) (fun x13 => f5_ladSeesTheDark_p2 fu a1 x13 u10) else tl_b2 (f5_isLit a1 x2 x6 u10) (fun x15 u14 => (if x15 = 0 then tl_b2 (f5_fullestLampBelow a1 x2 (x6 - 1) u14) (fun x19 u18 => (if x19 = (-1) then tl_let (x2 + 1) (fun x21 => f5_ladSeesTheDark_p2 fu a1 x21 u18) else tl_b2 (f3_addHang (a1 + 4) x19 x2 (x6 - 1) u18) (fun x23 u22 => some u22))) else tl_let (x2 + 1) (fun x17 => f5_ladSeesTheDark_p2 fu a1 x17 u14))))))))))

def f5_ladSeesTheDark (a0 : Nat) (u : tl_S) : Option (tl_S) :=
  f5_ladSeesTheDark_p2 tl_F a0 0 u

theorem l5_ladSeesTheDark_p2 {E : tl_E}  {v : tl_S} : ∀ (n : Nat) (a1 : Nat) (x2 : Int32) (u : tl_S) (d2 : Option Value) (d3 : Option Value), tl_T E.2.1 a1 = some 5 → f5_ladSeesTheDark_p2 n a1 x2 u = some v → tl_R E mX5_ladSeesTheDark tl_X0 (tl_ZB E mX5_ladSeesTheDark (fun q w => q = none ∧ w = v)) 0 0 (tl_HB E u) 2 [some (.ref a1), some (.int x2), d2, d3] [] := by
  intro n
  induction n with
  | zero => intro a1 x2 u d2 d3 h1 h; exact absurd h (by simp [f5_ladSeesTheDark_p2])
  | succ n ih =>
    intro a1 x2 u d2 d3 h1 h
    rw [f5_ladSeesTheDark_p2] at h
    refine tl_iload_n dX5_ladSeesTheDark_2 rfl (tl_aload_n dX5_ladSeesTheDark_3 rfl (tl_geti (f := 4) tl_ck5 dX5_ladSeesTheDark_4 fl_X5_56 (Nat.le_of_ble_eq_true rfl) rfl h1 (tl_icmp_ge (tgt := 82) dX5_ladSeesTheDark_7 (by decide) (fun c4 => ?_) (fun c4 => ?_))))
    · replace h := tl_ip h c4
      exact tl_vretE dX5_ladSeesTheDark_82 rfl h
    · replace h := tl_in h c4
      obtain ⟨g5, h⟩ := tl_gi h
      refine tl_aload_n dX5_ladSeesTheDark_10 rfl (tl_getr (f := 0) (o := 1) tl_ck5 dX5_ladSeesTheDark_11 fl_X5_11 (Nat.le_of_ble_eq_true rfl) rfl h1 (tl_iload_n dX5_ladSeesTheDark_14 rfl (tl_ald18 dX5_ladSeesTheDark_15 (tt_5_0 h1) (x2.toNatClampNeg) g5 rfl (tl_geti (f := 0) tl_ck1 dX5_ladSeesTheDark_16 fl_X5_93 (Nat.le_of_ble_eq_true rfl) rfl (ta_18 (tt_5_0 h1) (tl_inlt g5)) (tl_isto_n dX5_ladSeesTheDark_19 (Nat.le_of_ble_eq_true rfl) (fun x6 e => ?_))))))
      have h := tl_leteq e h
      clear e
      refine tl_iload_n dX5_ladSeesTheDark_20 rfl (tl_iconst (v := 1) dX5_ladSeesTheDark_21 ic_1 (tl_icmp_le (tgt := 76) dX5_ladSeesTheDark_22 (by decide) (fun c7 => ?_) (fun c7 => ?_)))
      · replace h := tl_ip h c7
        refine tl_iincK dX5_ladSeesTheDark_76 rfl (ii_1 _) (Nat.le_of_ble_eq_true rfl) (fun x8 e => ?_)
        have h := tl_leteq e h
        clear e
        refine tl_goto (tgt := 2) dX5_ladSeesTheDark_79 (by decide) (?_)
        exact ih _ _ _ _ _ h1 h
      · replace h := tl_in h c7
        refine tl_iload_n dX5_ladSeesTheDark_25 rfl (tl_bipush (v := 60) dX5_ladSeesTheDark_26 bp_60 (tl_icmp_ge (tgt := 76) dX5_ladSeesTheDark_28 (by decide) (fun c8 => ?_) (fun c8 => ?_)))
        · replace h := tl_ip h c8
          refine tl_iincK dX5_ladSeesTheDark_76 rfl (ii_1 _) (Nat.le_of_ble_eq_true rfl) (fun x9 e => ?_)
          have h := tl_leteq e h
          clear e
          refine tl_goto (tgt := 2) dX5_ladSeesTheDark_79 (by decide) (?_)
          exact ih _ _ _ _ _ h1 h
        · replace h := tl_in h c8
          obtain ⟨x11, u10, e9, h⟩ := tl_b2i h
          refine tl_aload_n dX5_ladSeesTheDark_31 rfl (tl_iload_n dX5_ladSeesTheDark_32 rfl (tl_iV1 tl_ck5 rfl h1 (l5_minersIn h1 e9) dX5_ladSeesTheDark_33 cs_X5_ladSeesTheDark_33 ⟨rfl, rfl⟩ ⟨Nat.zero_le _, Nat.zero_le _⟩ (Nat.le_of_ble_eq_true rfl) (tl_if_le (tgt := 76) dX5_ladSeesTheDark_36 (by decide) (fun c12 => ?_) (fun c12 => ?_))))
          · replace h := tl_ip h c12
            refine tl_iincK dX5_ladSeesTheDark_76 rfl (ii_1 _) (Nat.le_of_ble_eq_true rfl) (fun x13 e => ?_)
            have h := tl_leteq e h
            clear e
            refine tl_goto (tgt := 2) dX5_ladSeesTheDark_79 (by decide) (?_)
            exact ih _ _ _ _ _ h1 h
          · replace h := tl_in h c12
            obtain ⟨x15, u14, e13, h⟩ := tl_b2i h
            refine tl_aload_n dX5_ladSeesTheDark_39 rfl (tl_iload_n dX5_ladSeesTheDark_40 rfl (tl_iload_n dX5_ladSeesTheDark_41 rfl (tl_iV2 tl_ck5 rfl h1 (l5_isLit h1 e13) dX5_ladSeesTheDark_42 cs_X5_ladSeesTheDark_42 ⟨rfl, rfl⟩ ⟨Nat.zero_le _, Nat.zero_le _⟩ (Nat.le_of_ble_eq_true rfl) (tl_if_ne (tgt := 76) dX5_ladSeesTheDark_45 (by decide) (fun c16 => ?_) (fun c16 => ?_)))))
            · replace h := tl_in h c16
              refine tl_iincK dX5_ladSeesTheDark_76 rfl (ii_1 _) (Nat.le_of_ble_eq_true rfl) (fun x17 e => ?_)
              have h := tl_leteq e h
              clear e
              refine tl_goto (tgt := 2) dX5_ladSeesTheDark_79 (by decide) (?_)
              exact ih _ _ _ _ _ h1 h
            · replace h := tl_ip h c16
              obtain ⟨x19, u18, e17, h⟩ := tl_b2i h
              refine tl_aload_n dX5_ladSeesTheDark_48 rfl (tl_iload_n dX5_ladSeesTheDark_49 rfl (tl_iload_n dX5_ladSeesTheDark_50 rfl (tl_iconst (v := 1) dX5_ladSeesTheDark_51 ic_1 (tl_isub dX5_ladSeesTheDark_52 (tl_iV2 tl_ck5 rfl h1 (l5_fullestLampBelow h1 e17) dX5_ladSeesTheDark_53 cs_X5_ladSeesTheDark_53 ⟨rfl, rfl⟩ ⟨Nat.zero_le _, Nat.zero_le _⟩ (Nat.le_of_ble_eq_true rfl) (tl_istore_n dX5_ladSeesTheDark_56 (Nat.le_of_ble_eq_true rfl) (tl_iload_n dX5_ladSeesTheDark_57 rfl (tl_iconst (v := (-1)) dX5_ladSeesTheDark_58 ic_m1 (tl_icmp_eq (tgt := 76) dX5_ladSeesTheDark_59 (by decide) (fun c20 => ?_) (fun c20 => ?_))))))))))
              · replace h := tl_ip h c20
                refine tl_iincK dX5_ladSeesTheDark_76 rfl (ii_1 _) (Nat.le_of_ble_eq_true rfl) (fun x21 e => ?_)
                have h := tl_leteq e h
                clear e
                refine tl_goto (tgt := 2) dX5_ladSeesTheDark_79 (by decide) (?_)
                exact ih _ _ _ _ _ h1 h
              · replace h := tl_in h c20
                obtain ⟨x23, u22, e21, h⟩ := tl_b2i h
                exact tl_aload_n dX5_ladSeesTheDark_62 rfl (tl_getr (f := 3) (o := 4) tl_ck5 dX5_ladSeesTheDark_63 fl_X5_32 (Nat.le_of_ble_eq_true rfl) rfl h1 (tl_iload_n dX5_ladSeesTheDark_66 rfl (tl_iload_n dX5_ladSeesTheDark_67 rfl (tl_iload_n dX5_ladSeesTheDark_68 rfl (tl_iconst (v := 1) dX5_ladSeesTheDark_69 ic_1 (tl_isub dX5_ladSeesTheDark_70 (tl_iV3 tl_ck3 rfl (tt_5_3 h1) (l3_addHang (tt_5_3 h1) e21) dX5_ladSeesTheDark_71 cs_X5_ladSeesTheDark_71 ⟨rfl, rfl⟩ ⟨Nat.zero_le _, Nat.zero_le _⟩ (Nat.le_of_ble_eq_true rfl) (tl_pop dX5_ladSeesTheDark_74 rfl (tl_vretE dX5_ladSeesTheDark_75 rfl h)))))))))

theorem l5_ladSeesTheDark {E : tl_E} {a0 : Nat}  {u : tl_S} {v : tl_S} (h0 : tl_T E.2.1 a0 = some 5) (h : f5_ladSeesTheDark a0 u = some v) : tl_MB E mX5_ladSeesTheDark [.ref a0] u (fun q w => q = none ∧ w = v) := by
  unfold f5_ladSeesTheDark at h
  refine tl_start [some (.ref a0), none, none, none] rfl rfl rfl (Nat.le_of_ble_eq_true rfl) ?_
  refine tl_iconst (v := 0) dX5_ladSeesTheDark_0 ic_0 (tl_istore_n dX5_ladSeesTheDark_1 (Nat.le_of_ble_eq_true rfl) (?_))
  exact l5_ladSeesTheDark_p2 tl_F _ _ _ _ _ h0 h


def f5_fetchesOil (a0 : Nat) (a1 : Nat) (u : tl_S) : Option (Int32 × tl_S) :=
  (if (u.1 (a0 + 4) 3) = 0 then tl_let ((tl_u u.1 (a0 + 4) 5 (if (u.1 a0 8) < (u.1 a1 4) then (u.1 a0 8) else (u.1 a1 4)), u.2) : tl_S) (fun u4 => tl_let ((tl_u u4.1 (a0 + 4) 6 1, u4.2) : tl_S) (fun u5 => tl_let ((tl_u u5.1 a0 8 ((u5.1 a0 8) - (u5.1 (a0 + 4) 5)), u5.2) : tl_S) (fun u6 => some (1, u6)))) else some (0, u))

theorem l5_fetchesOil {E : tl_E} {a0 : Nat} {a1 : Nat}  {u : tl_S} {r : Int32} {v : tl_S} (h0 : tl_T E.2.1 a0 = some 5) (h1 : tl_T E.2.1 a1 = some 8) (h : f5_fetchesOil a0 a1 u = some (r, v)) : tl_MB E mX5_fetchesOil [.ref a0, .ref a1] u (fun q w => q = some (.int r) ∧ w = v) := by
  unfold f5_fetchesOil at h
  refine tl_start [some (.ref a0), some (.ref a1)] rfl rfl rfl (Nat.le_of_ble_eq_true rfl) ?_
  refine tl_aload_n dX5_fetchesOil_0 rfl (tl_getr (f := 3) (o := 4) tl_ck5 dX5_fetchesOil_1 fl_X5_32 (Nat.le_of_ble_eq_true rfl) rfl h0 (tl_geti (f := 3) tl_ck3 dX5_fetchesOil_4 fl_X5_285 (Nat.le_of_ble_eq_true rfl) rfl (tt_5_3 h0) (tl_if_eq (tgt := 12) dX5_fetchesOil_7 (by decide) (fun c3 => ?_) (fun c3 => ?_))))
  · replace h := tl_ip h c3
    refine tl_aload_n dX5_fetchesOil_12 rfl (tl_getr (f := 3) (o := 4) tl_ck5 dX5_fetchesOil_13 fl_X5_32 (Nat.le_of_ble_eq_true rfl) rfl h0 (tl_aload_n dX5_fetchesOil_16 rfl (tl_geti (f := 4) tl_ck8 dX5_fetchesOil_17 fl_X5_286 (Nat.le_of_ble_eq_true rfl) rfl h1 (tl_aload_n dX5_fetchesOil_20 rfl (tl_geti (f := 8) tl_ck5 dX5_fetchesOil_21 fl_X5_68 (Nat.le_of_ble_eq_true rfl) rfl h0 (tl_mmin dX5_fetchesOil_24 ml_X5_122 ⟨Nat.zero_le _, Nat.zero_le _⟩ (Nat.le_of_ble_eq_true rfl) (Nat.le_of_ble_eq_true rfl) (Nat.le_of_ble_eq_true rfl) (tl_puti (f := 5) tl_ck3 dX5_fetchesOil_27 fl_X5_289 (Nat.le_of_ble_eq_true rfl) rfl rfl rfl (tt_5_3 h0) (fun u4 e => ?_))))))))
    have h := tl_leteq e h
    clear e
    refine tl_aload_n dX5_fetchesOil_30 rfl (tl_getr (f := 3) (o := 4) tl_ck5 dX5_fetchesOil_31 fl_X5_32 (Nat.le_of_ble_eq_true rfl) rfl h0 (tl_iconst (v := 1) dX5_fetchesOil_34 ic_1 (tl_putz (f := 6) tl_ck3 dX5_fetchesOil_35 fl_X5_267 (Nat.le_of_ble_eq_true rfl) rfl rfl rfl (Or.inr rfl) (tt_5_3 h0) (fun u5 e => ?_))))
    have h := tl_leteq e h
    clear e
    refine tl_aload_n dX5_fetchesOil_38 rfl (tl_dup dX5_fetchesOil_39 rfl (tl_geti (f := 8) tl_ck5 dX5_fetchesOil_40 fl_X5_68 (Nat.le_of_ble_eq_true rfl) rfl h0 (tl_aload_n dX5_fetchesOil_43 rfl (tl_getr (f := 3) (o := 4) tl_ck5 dX5_fetchesOil_44 fl_X5_32 (Nat.le_of_ble_eq_true rfl) rfl h0 (tl_geti (f := 5) tl_ck3 dX5_fetchesOil_47 fl_X5_289 (Nat.le_of_ble_eq_true rfl) rfl (tt_5_3 h0) (tl_isub dX5_fetchesOil_50 (tl_puti (f := 8) tl_ck5 dX5_fetchesOil_51 fl_X5_68 (Nat.le_of_ble_eq_true rfl) rfl rfl rfl h0 (fun u6 e => ?_))))))))
    have h := tl_leteq e h
    clear e
    exact tl_iconst (v := 1) dX5_fetchesOil_54 ic_1 (tl_iretE dX5_fetchesOil_55 rfl rfl h)
  · replace h := tl_in h c3
    exact tl_iconst (v := 0) dX5_fetchesOil_10 ic_0 (tl_iretE dX5_fetchesOil_11 rfl rfl h)

theorem cs_X5_hangsLamp_12 : tl_cV mX5_hangsLamp mX3_isAt 279 2 := ⟨cd_X3_isAt, ml_X5_279, im_X3_isAt, se_X3_isAt, in_X3, ⟨by decide, by decide, by decide +kernel⟩, Nat.le_of_ble_eq_true rfl, Nat.le_of_ble_eq_true rfl⟩
theorem cs_X5_hangsLamp_60 : tl_cV mX5_hangsLamp mX3_removeOrder 206 1 := ⟨cd_X3_removeOrder, ml_X5_206, im_X3_removeOrder, se_X3_removeOrder, in_X3, ⟨by decide, by decide, by decide +kernel⟩, Nat.le_of_ble_eq_true rfl, Nat.le_of_ble_eq_true rfl⟩
def f5_hangsLamp (a0 : Nat) (a1 : Nat) (a2 : Nat) (u : tl_S) : Option (Int32 × tl_S) :=
  tl_b2 (f3_isAt (a0 + 4) (u.1 a1 2) (u.1 a1 3) u) (fun x6 u5 => (if x6 = 0 then some (0, u5) else tl_let ((tl_u u5.1 (a0 + 4) 2 (u5.1 a1 2), u5.2) : tl_S) (fun u8 => tl_let ((tl_u u8.1 (a0 + 4) 4 (-1), u8.2) : tl_S) (fun u9 => tl_let ((tl_u u9.1 a2 0 (u9.1 a1 2), u9.2) : tl_S) (fun u10 => tl_let ((tl_u u10.1 a2 1 (u10.1 a1 3), u10.2) : tl_S) (fun u11 => tl_b2 (f3_removeOrder (a0 + 4) 0 u11) (fun x14 u13 => some (1, u13))))))))

theorem l5_hangsLamp {E : tl_E} {a0 : Nat} {a1 : Nat} {a2 : Nat}  {u : tl_S} {r : Int32} {v : tl_S} (h0 : tl_T E.2.1 a0 = some 5) (h1 : tl_T E.2.1 a1 = some 8) (h2 : tl_T E.2.1 a2 = some 4) (h : f5_hangsLamp a0 a1 a2 u = some (r, v)) : tl_MB E mX5_hangsLamp [.ref a0, .ref a1, .ref a2] u (fun q w => q = some (.int r) ∧ w = v) := by
  unfold f5_hangsLamp at h
  refine tl_start [some (.ref a0), some (.ref a1), some (.ref a2)] rfl rfl rfl (Nat.le_of_ble_eq_true rfl) ?_
  obtain ⟨x6, u5, e4, h⟩ := tl_b2i h
  refine tl_aload_n dX5_hangsLamp_0 rfl (tl_getr (f := 3) (o := 4) tl_ck5 dX5_hangsLamp_1 fl_X5_32 (Nat.le_of_ble_eq_true rfl) rfl h0 (tl_aload_n dX5_hangsLamp_4 rfl (tl_geti (f := 2) tl_ck8 dX5_hangsLamp_5 fl_X5_283 (Nat.le_of_ble_eq_true rfl) rfl h1 (tl_aload_n dX5_hangsLamp_8 rfl (tl_geti (f := 3) tl_ck8 dX5_hangsLamp_9 fl_X5_284 (Nat.le_of_ble_eq_true rfl) rfl h1 (tl_iV2 tl_ck3 rfl (tt_5_3 h0) (l3_isAt (tt_5_3 h0) e4) dX5_hangsLamp_12 cs_X5_hangsLamp_12 ⟨rfl, rfl⟩ ⟨Nat.zero_le _, Nat.zero_le _⟩ (Nat.le_of_ble_eq_true rfl) (tl_if_ne (tgt := 20) dX5_hangsLamp_15 (by decide) (fun c7 => ?_) (fun c7 => ?_))))))))
  · replace h := tl_in h c7
    refine tl_aload_n dX5_hangsLamp_20 rfl (tl_getr (f := 3) (o := 4) tl_ck5 dX5_hangsLamp_21 fl_X5_32 (Nat.le_of_ble_eq_true rfl) rfl h0 (tl_aload_n dX5_hangsLamp_24 rfl (tl_geti (f := 2) tl_ck8 dX5_hangsLamp_25 fl_X5_283 (Nat.le_of_ble_eq_true rfl) rfl h1 (tl_puti (f := 2) tl_ck3 dX5_hangsLamp_28 fl_X5_282 (Nat.le_of_ble_eq_true rfl) rfl rfl rfl (tt_5_3 h0) (fun u8 e => ?_)))))
    have h := tl_leteq e h
    clear e
    refine tl_aload_n dX5_hangsLamp_31 rfl (tl_getr (f := 3) (o := 4) tl_ck5 dX5_hangsLamp_32 fl_X5_32 (Nat.le_of_ble_eq_true rfl) rfl h0 (tl_iconst (v := (-1)) dX5_hangsLamp_35 ic_m1 (tl_puti (f := 4) tl_ck3 dX5_hangsLamp_36 fl_X5_259 (Nat.le_of_ble_eq_true rfl) rfl rfl rfl (tt_5_3 h0) (fun u9 e => ?_))))
    have h := tl_leteq e h
    clear e
    refine tl_aload_n dX5_hangsLamp_39 rfl (tl_aload_n dX5_hangsLamp_40 rfl (tl_geti (f := 2) tl_ck8 dX5_hangsLamp_41 fl_X5_283 (Nat.le_of_ble_eq_true rfl) rfl h1 (tl_puti (f := 0) tl_ck4 dX5_hangsLamp_44 fl_X5_102 (Nat.le_of_ble_eq_true rfl) rfl rfl rfl h2 (fun u10 e => ?_))))
    have h := tl_leteq e h
    clear e
    refine tl_aload_n dX5_hangsLamp_47 rfl (tl_aload_n dX5_hangsLamp_48 rfl (tl_geti (f := 3) tl_ck8 dX5_hangsLamp_49 fl_X5_284 (Nat.le_of_ble_eq_true rfl) rfl h1 (tl_puti (f := 1) tl_ck4 dX5_hangsLamp_52 fl_X5_110 (Nat.le_of_ble_eq_true rfl) rfl rfl rfl h2 (fun u11 e => ?_))))
    have h := tl_leteq e h
    clear e
    obtain ⟨x14, u13, e12, h⟩ := tl_b2i h
    exact tl_aload_n dX5_hangsLamp_55 rfl (tl_getr (f := 3) (o := 4) tl_ck5 dX5_hangsLamp_56 fl_X5_32 (Nat.le_of_ble_eq_true rfl) rfl h0 (tl_iconst (v := 0) dX5_hangsLamp_59 ic_0 (tl_iV1 tl_ck3 rfl (tt_5_3 h0) (l3_removeOrder (tt_5_3 h0) e12) dX5_hangsLamp_60 cs_X5_hangsLamp_60 ⟨rfl, rfl⟩ ⟨Nat.zero_le _, Nat.zero_le _⟩ (Nat.le_of_ble_eq_true rfl) (tl_pop dX5_hangsLamp_63 rfl (tl_iconst (v := 1) dX5_hangsLamp_64 ic_1 (tl_iretE dX5_hangsLamp_65 rfl rfl h))))))
  · replace h := tl_ip h c7
    exact tl_iconst (v := 0) dX5_hangsLamp_18 ic_0 (tl_iretE dX5_hangsLamp_19 rfl rfl h)


def f5_hasLamp (a0 : Nat) (x1 : Int32) (u : tl_S) : Option (Int32 × tl_S) :=
  (if x1 < 0 then some (0, u) else (if (u.1 a0 6) ≤ x1 then some (0, u) else some (1, u)))

theorem l5_hasLamp {E : tl_E} {a0 : Nat} {x1 : Int32}  {u : tl_S} {r : Int32} {v : tl_S} (h0 : tl_T E.2.1 a0 = some 5) (h : f5_hasLamp a0 x1 u = some (r, v)) : tl_MB E mX5_hasLamp [.ref a0, .int x1] u (fun q w => q = some (.int r) ∧ w = v) := by
  unfold f5_hasLamp at h
  refine tl_start [some (.ref a0), some (.int x1)] rfl rfl rfl (Nat.le_of_ble_eq_true rfl) ?_
  refine tl_iload_n dX5_hasLamp_0 rfl (tl_if_lt (tgt := 16) dX5_hasLamp_1 (by decide) (fun c3 => ?_) (fun c3 => ?_))
  · replace h := tl_ip h c3
    exact tl_iconst (v := 0) dX5_hasLamp_16 ic_0 (tl_iretE dX5_hasLamp_17 rfl rfl h)
  · replace h := tl_in h c3
    refine tl_iload_n dX5_hasLamp_4 rfl (tl_aload_n dX5_hasLamp_5 rfl (tl_geti (f := 6) tl_ck5 dX5_hasLamp_6 fl_X5_62 (Nat.le_of_ble_eq_true rfl) rfl h0 (tl_icmp_ge (tgt := 16) dX5_hasLamp_9 (by decide) (fun c4 => ?_) (fun c4 => ?_))))
    · replace h := tl_ip h c4
      exact tl_iconst (v := 0) dX5_hasLamp_16 ic_0 (tl_iretE dX5_hasLamp_17 rfl rfl h)
    · replace h := tl_in h c4
      exact tl_iconst (v := 1) dX5_hasLamp_12 ic_1 (tl_goto (tgt := 17) dX5_hasLamp_13 (by decide) (tl_iretE dX5_hasLamp_17 rfl rfl h))

theorem cs_X5_poursOil_12 : tl_cV mX5_poursOil mX3_isAt 279 2 := ⟨cd_X3_isAt, ml_X5_279, im_X3_isAt, se_X3_isAt, in_X3, ⟨by decide, by decide, by decide +kernel⟩, Nat.le_of_ble_eq_true rfl, Nat.le_of_ble_eq_true rfl⟩
theorem cs_X5_poursOil_90 : tl_cV mX5_poursOil mX3_removeOrder 206 1 := ⟨cd_X3_removeOrder, ml_X5_206, im_X3_removeOrder, se_X3_removeOrder, in_X3, ⟨by decide, by decide, by decide +kernel⟩, Nat.le_of_ble_eq_true rfl, Nat.le_of_ble_eq_true rfl⟩
def f5_poursOil (a0 : Nat) (a1 : Nat) (u : tl_S) : Option (Int32 × tl_S) :=
  tl_b2 (f3_isAt (a0 + 4) (u.1 a1 0) (u.1 a1 1) u) (fun x5 u4 => (if x5 = 0 then some (0, u4) else tl_let ((if (99 - (u4.1 a1 3)) < (u4.1 (a0 + 4) 5) then (99 - (u4.1 a1 3)) else (u4.1 (a0 + 4) 5))) (fun x7 => tl_let ((tl_u u4.1 (a0 + 4) 2 (u4.1 a1 0), u4.2) : tl_S) (fun u8 => tl_let ((tl_u u8.1 a1 3 ((u8.1 a1 3) + x7), u8.2) : tl_S) (fun u9 => tl_let ((tl_u u9.1 a0 10 ((u9.1 a0 10) + ((u9.1 (a0 + 4) 5) - x7)), u9.2) : tl_S) (fun u10 => tl_let ((tl_u u10.1 (a0 + 4) 5 0, u10.2) : tl_S) (fun u11 => tl_b2 (f3_removeOrder (a0 + 4) 0 u11) (fun x14 u13 => some (1, u13)))))))))

theorem l5_poursOil {E : tl_E} {a0 : Nat} {a1 : Nat}  {u : tl_S} {r : Int32} {v : tl_S} (h0 : tl_T E.2.1 a0 = some 5) (h1 : tl_T E.2.1 a1 = some 4) (h : f5_poursOil a0 a1 u = some (r, v)) : tl_MB E mX5_poursOil [.ref a0, .ref a1] u (fun q w => q = some (.int r) ∧ w = v) := by
  unfold f5_poursOil at h
  refine tl_start [some (.ref a0), some (.ref a1), none] rfl rfl rfl (Nat.le_of_ble_eq_true rfl) ?_
  obtain ⟨x5, u4, e3, h⟩ := tl_b2i h
  refine tl_aload_n dX5_poursOil_0 rfl (tl_getr (f := 3) (o := 4) tl_ck5 dX5_poursOil_1 fl_X5_32 (Nat.le_of_ble_eq_true rfl) rfl h0 (tl_aload_n dX5_poursOil_4 rfl (tl_geti (f := 0) tl_ck4 dX5_poursOil_5 fl_X5_102 (Nat.le_of_ble_eq_true rfl) rfl h1 (tl_aload_n dX5_poursOil_8 rfl (tl_geti (f := 1) tl_ck4 dX5_poursOil_9 fl_X5_110 (Nat.le_of_ble_eq_true rfl) rfl h1 (tl_iV2 tl_ck3 rfl (tt_5_3 h0) (l3_isAt (tt_5_3 h0) e3) dX5_poursOil_12 cs_X5_poursOil_12 ⟨rfl, rfl⟩ ⟨Nat.zero_le _, Nat.zero_le _⟩ (Nat.le_of_ble_eq_true rfl) (tl_if_ne (tgt := 20) dX5_poursOil_15 (by decide) (fun c6 => ?_) (fun c6 => ?_))))))))
  · replace h := tl_in h c6
    refine tl_aload_n dX5_poursOil_20 rfl (tl_getr (f := 3) (o := 4) tl_ck5 dX5_poursOil_21 fl_X5_32 (Nat.le_of_ble_eq_true rfl) rfl h0 (tl_geti (f := 5) tl_ck3 dX5_poursOil_24 fl_X5_289 (Nat.le_of_ble_eq_true rfl) rfl (tt_5_3 h0) (tl_bipush (v := 99) dX5_poursOil_27 bp_99 (tl_aload_n dX5_poursOil_29 rfl (tl_geti (f := 3) tl_ck4 dX5_poursOil_30 fl_X5_96 (Nat.le_of_ble_eq_true rfl) rfl h1 (tl_isub dX5_poursOil_33 (tl_mmin dX5_poursOil_34 ml_X5_122 ⟨Nat.zero_le _, Nat.zero_le _⟩ (Nat.le_of_ble_eq_true rfl) (Nat.le_of_ble_eq_true rfl) (Nat.le_of_ble_eq_true rfl) (tl_isto_n dX5_poursOil_37 (Nat.le_of_ble_eq_true rfl) (fun x7 e => ?_)))))))))
    have h := tl_leteq e h
    clear e
    refine tl_aload_n dX5_poursOil_38 rfl (tl_getr (f := 3) (o := 4) tl_ck5 dX5_poursOil_39 fl_X5_32 (Nat.le_of_ble_eq_true rfl) rfl h0 (tl_aload_n dX5_poursOil_42 rfl (tl_geti (f := 0) tl_ck4 dX5_poursOil_43 fl_X5_102 (Nat.le_of_ble_eq_true rfl) rfl h1 (tl_puti (f := 2) tl_ck3 dX5_poursOil_46 fl_X5_282 (Nat.le_of_ble_eq_true rfl) rfl rfl rfl (tt_5_3 h0) (fun u8 e => ?_)))))
    have h := tl_leteq e h
    clear e
    refine tl_aload_n dX5_poursOil_49 rfl (tl_dup dX5_poursOil_50 rfl (tl_geti (f := 3) tl_ck4 dX5_poursOil_51 fl_X5_96 (Nat.le_of_ble_eq_true rfl) rfl h1 (tl_iload_n dX5_poursOil_54 rfl (tl_iadd dX5_poursOil_55 (tl_puti (f := 3) tl_ck4 dX5_poursOil_56 fl_X5_96 (Nat.le_of_ble_eq_true rfl) rfl rfl rfl h1 (fun u9 e => ?_))))))
    have h := tl_leteq e h
    clear e
    refine tl_aload_n dX5_poursOil_59 rfl (tl_dup dX5_poursOil_60 rfl (tl_geti (f := 10) tl_ck5 dX5_poursOil_61 fl_X5_74 (Nat.le_of_ble_eq_true rfl) rfl h0 (tl_aload_n dX5_poursOil_64 rfl (tl_getr (f := 3) (o := 4) tl_ck5 dX5_poursOil_65 fl_X5_32 (Nat.le_of_ble_eq_true rfl) rfl h0 (tl_geti (f := 5) tl_ck3 dX5_poursOil_68 fl_X5_289 (Nat.le_of_ble_eq_true rfl) rfl (tt_5_3 h0) (tl_iload_n dX5_poursOil_71 rfl (tl_isub dX5_poursOil_72 (tl_iadd dX5_poursOil_73 (tl_puti (f := 10) tl_ck5 dX5_poursOil_74 fl_X5_74 (Nat.le_of_ble_eq_true rfl) rfl rfl rfl h0 (fun u10 e => ?_))))))))))
    have h := tl_leteq e h
    clear e
    refine tl_aload_n dX5_poursOil_77 rfl (tl_getr (f := 3) (o := 4) tl_ck5 dX5_poursOil_78 fl_X5_32 (Nat.le_of_ble_eq_true rfl) rfl h0 (tl_iconst (v := 0) dX5_poursOil_81 ic_0 (tl_puti (f := 5) tl_ck3 dX5_poursOil_82 fl_X5_289 (Nat.le_of_ble_eq_true rfl) rfl rfl rfl (tt_5_3 h0) (fun u11 e => ?_))))
    have h := tl_leteq e h
    clear e
    obtain ⟨x14, u13, e12, h⟩ := tl_b2i h
    exact tl_aload_n dX5_poursOil_85 rfl (tl_getr (f := 3) (o := 4) tl_ck5 dX5_poursOil_86 fl_X5_32 (Nat.le_of_ble_eq_true rfl) rfl h0 (tl_iconst (v := 0) dX5_poursOil_89 ic_0 (tl_iV1 tl_ck3 rfl (tt_5_3 h0) (l3_removeOrder (tt_5_3 h0) e12) dX5_poursOil_90 cs_X5_poursOil_90 ⟨rfl, rfl⟩ ⟨Nat.zero_le _, Nat.zero_le _⟩ (Nat.le_of_ble_eq_true rfl) (tl_pop dX5_poursOil_93 rfl (tl_iconst (v := 1) dX5_poursOil_94 ic_1 (tl_iretE dX5_poursOil_95 rfl rfl h))))))
  · replace h := tl_ip h c6
    exact tl_iconst (v := 0) dX5_poursOil_18 ic_0 (tl_iretE dX5_poursOil_19 rfl rfl h)

theorem cs_X5_takesLamp_12 : tl_cV mX5_takesLamp mX3_isAt 279 2 := ⟨cd_X3_isAt, ml_X5_279, im_X3_isAt, se_X3_isAt, in_X3, ⟨by decide, by decide, by decide +kernel⟩, Nat.le_of_ble_eq_true rfl, Nat.le_of_ble_eq_true rfl⟩
def f5_takesLamp (a0 : Nat) (a1 : Nat) (a2 : Nat) (u : tl_S) : Option (Int32 × tl_S) :=
  tl_b2 (f3_isAt (a0 + 4) (u.1 a2 0) (u.1 a2 1) u) (fun x6 u5 => (if x6 = 0 then some (0, u5) else tl_let ((tl_u u5.1 (a0 + 4) 2 (u5.1 a2 0), u5.2) : tl_S) (fun u8 => tl_let ((tl_u u8.1 (a0 + 4) 4 (u8.1 a1 1), u8.2) : tl_S) (fun u9 => tl_let ((tl_u u9.1 a2 0 (-1), u9.2) : tl_S) (fun u10 => tl_let ((tl_u u10.1 a2 1 (-1), u10.2) : tl_S) (fun u11 => some (1, u11)))))))

theorem l5_takesLamp {E : tl_E} {a0 : Nat} {a1 : Nat} {a2 : Nat}  {u : tl_S} {r : Int32} {v : tl_S} (h0 : tl_T E.2.1 a0 = some 5) (h1 : tl_T E.2.1 a1 = some 8) (h2 : tl_T E.2.1 a2 = some 4) (h : f5_takesLamp a0 a1 a2 u = some (r, v)) : tl_MB E mX5_takesLamp [.ref a0, .ref a1, .ref a2] u (fun q w => q = some (.int r) ∧ w = v) := by
  unfold f5_takesLamp at h
  refine tl_start [some (.ref a0), some (.ref a1), some (.ref a2)] rfl rfl rfl (Nat.le_of_ble_eq_true rfl) ?_
  obtain ⟨x6, u5, e4, h⟩ := tl_b2i h
  refine tl_aload_n dX5_takesLamp_0 rfl (tl_getr (f := 3) (o := 4) tl_ck5 dX5_takesLamp_1 fl_X5_32 (Nat.le_of_ble_eq_true rfl) rfl h0 (tl_aload_n dX5_takesLamp_4 rfl (tl_geti (f := 0) tl_ck4 dX5_takesLamp_5 fl_X5_102 (Nat.le_of_ble_eq_true rfl) rfl h2 (tl_aload_n dX5_takesLamp_8 rfl (tl_geti (f := 1) tl_ck4 dX5_takesLamp_9 fl_X5_110 (Nat.le_of_ble_eq_true rfl) rfl h2 (tl_iV2 tl_ck3 rfl (tt_5_3 h0) (l3_isAt (tt_5_3 h0) e4) dX5_takesLamp_12 cs_X5_takesLamp_12 ⟨rfl, rfl⟩ ⟨Nat.zero_le _, Nat.zero_le _⟩ (Nat.le_of_ble_eq_true rfl) (tl_if_ne (tgt := 20) dX5_takesLamp_15 (by decide) (fun c7 => ?_) (fun c7 => ?_))))))))
  · replace h := tl_in h c7
    refine tl_aload_n dX5_takesLamp_20 rfl (tl_getr (f := 3) (o := 4) tl_ck5 dX5_takesLamp_21 fl_X5_32 (Nat.le_of_ble_eq_true rfl) rfl h0 (tl_aload_n dX5_takesLamp_24 rfl (tl_geti (f := 0) tl_ck4 dX5_takesLamp_25 fl_X5_102 (Nat.le_of_ble_eq_true rfl) rfl h2 (tl_puti (f := 2) tl_ck3 dX5_takesLamp_28 fl_X5_282 (Nat.le_of_ble_eq_true rfl) rfl rfl rfl (tt_5_3 h0) (fun u8 e => ?_)))))
    have h := tl_leteq e h
    clear e
    refine tl_aload_n dX5_takesLamp_31 rfl (tl_getr (f := 3) (o := 4) tl_ck5 dX5_takesLamp_32 fl_X5_32 (Nat.le_of_ble_eq_true rfl) rfl h0 (tl_aload_n dX5_takesLamp_35 rfl (tl_geti (f := 1) tl_ck8 dX5_takesLamp_36 fl_X5_251 (Nat.le_of_ble_eq_true rfl) rfl h1 (tl_puti (f := 4) tl_ck3 dX5_takesLamp_39 fl_X5_259 (Nat.le_of_ble_eq_true rfl) rfl rfl rfl (tt_5_3 h0) (fun u9 e => ?_)))))
    have h := tl_leteq e h
    clear e
    refine tl_aload_n dX5_takesLamp_42 rfl (tl_iconst (v := (-1)) dX5_takesLamp_43 ic_m1 (tl_puti (f := 0) tl_ck4 dX5_takesLamp_44 fl_X5_102 (Nat.le_of_ble_eq_true rfl) rfl rfl rfl h2 (fun u10 e => ?_)))
    have h := tl_leteq e h
    clear e
    refine tl_aload_n dX5_takesLamp_47 rfl (tl_iconst (v := (-1)) dX5_takesLamp_48 ic_m1 (tl_puti (f := 1) tl_ck4 dX5_takesLamp_49 fl_X5_110 (Nat.le_of_ble_eq_true rfl) rfl rfl rfl h2 (fun u11 e => ?_)))
    have h := tl_leteq e h
    clear e
    exact tl_iconst (v := 1) dX5_takesLamp_52 ic_1 (tl_iretE dX5_takesLamp_53 rfl rfl h)
  · replace h := tl_ip h c7
    exact tl_iconst (v := 0) dX5_takesLamp_18 ic_0 (tl_iretE dX5_takesLamp_19 rfl rfl h)

theorem cs_X5_doesWhatNeedsNoStep_25 : tl_cV mX5_doesWhatNeedsNoStep mX5_hasLamp 166 1 := ⟨cd_X5_hasLamp, ml_X5_166, im_X5_hasLamp, se_X5_hasLamp, in_X5, ⟨by decide, by decide, by decide +kernel⟩, Nat.le_of_ble_eq_true rfl, Nat.le_of_ble_eq_true rfl⟩
theorem cs_X5_doesWhatNeedsNoStep_97 : tl_cV mX5_doesWhatNeedsNoStep mX5_fetchesOil 275 1 := ⟨cd_X5_fetchesOil, ml_X5_275, im_X5_fetchesOil, se_X5_fetchesOil, in_X5, ⟨by decide, by decide, by decide +kernel⟩, Nat.le_of_ble_eq_true rfl, Nat.le_of_ble_eq_true rfl⟩
theorem cs_X5_doesWhatNeedsNoStep_89 : tl_cV mX5_doesWhatNeedsNoStep mX5_poursOil 271 1 := ⟨cd_X5_poursOil, ml_X5_271, im_X5_poursOil, se_X5_poursOil, in_X5, ⟨by decide, by decide, by decide +kernel⟩, Nat.le_of_ble_eq_true rfl, Nat.le_of_ble_eq_true rfl⟩
theorem cs_X5_doesWhatNeedsNoStep_73 : tl_cV mX5_doesWhatNeedsNoStep mX5_hangsLamp 264 2 := ⟨cd_X5_hangsLamp, ml_X5_264, im_X5_hangsLamp, se_X5_hangsLamp, in_X5, ⟨by decide, by decide, by decide +kernel⟩, Nat.le_of_ble_eq_true rfl, Nat.le_of_ble_eq_true rfl⟩
theorem cs_X5_doesWhatNeedsNoStep_64 : tl_cV mX5_doesWhatNeedsNoStep mX5_takesLamp 260 2 := ⟨cd_X5_takesLamp, ml_X5_260, im_X5_takesLamp, se_X5_takesLamp, in_X5, ⟨by decide, by decide, by decide +kernel⟩, Nat.le_of_ble_eq_true rfl, Nat.le_of_ble_eq_true rfl⟩
def f5_doesWhatNeedsNoStep (a0 : Nat) (u : tl_S) : Option (Int32 × tl_S) :=
  tl_g (((a0 + 4) + 1) < (u.2.1 ((a0 + 4) + 1) 0) ∧ (u.2.1 ((a0 + 4) + 1) 0) < ((a0 + 4) + 1) + 7) ((if (u.1 (a0 + 4) 1) = 0 then some (0, u) else tl_b2 (f5_hasLamp a0 (u.1 (u.2.1 ((a0 + 4) + 1) 0) 1) u) (fun x6 u5 => (if x6 = 0 then some (0, u5) else tl_g (¬ ((u5.1 (u.2.1 ((a0 + 4) + 1) 0) 1) < 0 ∨ 8 ≤ (u5.1 (u.2.1 ((a0 + 4) + 1) 0) 1).toNatClampNeg)) ((if (u5.1 (u.2.1 ((a0 + 4) + 1) 0) 0) = 0 then (if (u5.1 (a0 + 4) 4) = (-1) then tl_b2 (f5_takesLamp a0 (u.2.1 ((a0 + 4) + 1) 0) ((a0 + 3) + (18 + (u5.1 (u.2.1 ((a0 + 4) + 1) 0) 1).toNatClampNeg)) u5) (fun x13 u12 => tl_g (x13 = 0 ∨ x13 = 1) (some (x13, u12))) else tl_b2 (f5_hangsLamp a0 (u.2.1 ((a0 + 4) + 1) 0) ((a0 + 3) + (18 + (u5.1 (u.2.1 ((a0 + 4) + 1) 0) 1).toNatClampNeg)) u5) (fun x13 u12 => tl_g (x13 = 0 ∨ x13 = 1) (some (x13, u12)))) else (if (u5.1 (a0 + 4) 6) = 0 then tl_b2 (f5_fetchesOil a0 (u.2.1 ((a0 + 4) + 1) 0) u5) (fun x13 u12 => tl_g (x13 = 0 ∨ x13 = 1) (some (x13, u12))) else tl_b2 (f5_poursOil a0 ((a0 + 3) + (18 + (u5.1 (u.2.1 ((a0 + 4) + 1) 0) 1).toNatClampNeg)) u5) (fun x13 u12 => tl_g (x13 = 0 ∨ x13 = 1) (some (x13, u12))))))))))

theorem l5_doesWhatNeedsNoStep {E : tl_E} {a0 : Nat}  {u : tl_S} {r : Int32} {v : tl_S} (h0 : tl_T E.2.1 a0 = some 5) (h : f5_doesWhatNeedsNoStep a0 u = some (r, v)) : tl_MB E mX5_doesWhatNeedsNoStep [.ref a0] u (fun q w => q = some (.int r) ∧ w = v) := by
  unfold f5_doesWhatNeedsNoStep at h
  refine tl_start [some (.ref a0), none, none] rfl rfl rfl (Nat.le_of_ble_eq_true rfl) ?_
  obtain ⟨g2, h⟩ := tl_gi h
  refine tl_aload_n dX5_doesWhatNeedsNoStep_0 rfl (tl_getr (f := 3) (o := 4) tl_ck5 dX5_doesWhatNeedsNoStep_1 fl_X5_32 (Nat.le_of_ble_eq_true rfl) rfl h0 (tl_getr (f := 0) (o := 1) tl_ck3 dX5_doesWhatNeedsNoStep_4 fl_X5_247 (Nat.le_of_ble_eq_true rfl) rfl (tt_5_3 h0) (tl_iconst (v := 0) dX5_doesWhatNeedsNoStep_7 ic_0 (tl_ald21 dX5_doesWhatNeedsNoStep_8 (tt_3_0 (tt_5_3 h0)) (0) (li_0 6 rfl) lx_0 (tl_astore_n dX5_doesWhatNeedsNoStep_9 (Nat.le_of_ble_eq_true rfl) (tl_aload_n dX5_doesWhatNeedsNoStep_10 rfl (tl_getr (f := 3) (o := 4) tl_ck5 dX5_doesWhatNeedsNoStep_11 fl_X5_32 (Nat.le_of_ble_eq_true rfl) rfl h0 (tl_geti (f := 1) tl_ck3 dX5_doesWhatNeedsNoStep_14 fl_X5_223 (Nat.le_of_ble_eq_true rfl) rfl (tt_5_3 h0) (tl_if_eq (tgt := 31) dX5_doesWhatNeedsNoStep_17 (by decide) (fun c3 => ?_) (fun c3 => ?_))))))))))
  · replace h := tl_ip h c3
    exact tl_iconst (v := 0) dX5_doesWhatNeedsNoStep_31 ic_0 (tl_iretE dX5_doesWhatNeedsNoStep_32 rfl rfl h)
  · replace h := tl_in h c3
    obtain ⟨x6, u5, e4, h⟩ := tl_b2i h
    refine tl_aload_n dX5_doesWhatNeedsNoStep_20 rfl (tl_aload_n dX5_doesWhatNeedsNoStep_21 rfl (tl_geti (f := 1) tl_ck8 dX5_doesWhatNeedsNoStep_22 fl_X5_251 (Nat.le_of_ble_eq_true rfl) rfl (ta_21b (tt_3_0 (tt_5_3 h0)) g2) (tl_iV1 tl_ck5 rfl h0 (l5_hasLamp h0 e4) dX5_doesWhatNeedsNoStep_25 cs_X5_doesWhatNeedsNoStep_25 ⟨rfl, rfl⟩ ⟨Nat.zero_le _, Nat.zero_le _⟩ (Nat.le_of_ble_eq_true rfl) (tl_if_ne (tgt := 33) dX5_doesWhatNeedsNoStep_28 (by decide) (fun c7 => ?_) (fun c7 => ?_)))))
    · replace h := tl_in h c7
      obtain ⟨g8, h⟩ := tl_gi h
      refine tl_aload_n dX5_doesWhatNeedsNoStep_33 rfl (tl_getr (f := 2) (o := 3) tl_ck5 dX5_doesWhatNeedsNoStep_34 fl_X5_25 (Nat.le_of_ble_eq_true rfl) rfl h0 (tl_aload_n dX5_doesWhatNeedsNoStep_37 rfl (tl_geti (f := 1) tl_ck8 dX5_doesWhatNeedsNoStep_38 fl_X5_251 (Nat.le_of_ble_eq_true rfl) rfl (ta_21b (tt_3_0 (tt_5_3 h0)) g2) (tl_ald20 dX5_doesWhatNeedsNoStep_41 (tt_5_2 h0) ((u5.1 (u.2.1 ((a0 + 4) + 1) 0) 1).toNatClampNeg) g8 rfl (tl_astore_n dX5_doesWhatNeedsNoStep_42 (Nat.le_of_ble_eq_true rfl) (tl_aload_n dX5_doesWhatNeedsNoStep_43 rfl (tl_geti (f := 0) tl_ck8 dX5_doesWhatNeedsNoStep_44 fl_X5_256 (Nat.le_of_ble_eq_true rfl) rfl (ta_21b (tt_3_0 (tt_5_3 h0)) g2) (tl_if_ne (tgt := 77) dX5_doesWhatNeedsNoStep_47 (by decide) (fun c9 => ?_) (fun c9 => ?_)))))))))
      · replace h := tl_in h c9
        refine tl_aload_n dX5_doesWhatNeedsNoStep_77 rfl (tl_getr (f := 3) (o := 4) tl_ck5 dX5_doesWhatNeedsNoStep_78 fl_X5_32 (Nat.le_of_ble_eq_true rfl) rfl h0 (tl_geti (f := 6) tl_ck3 dX5_doesWhatNeedsNoStep_81 fl_X5_267 (Nat.le_of_ble_eq_true rfl) rfl (tt_5_3 h0) (tl_if_eq (tgt := 95) dX5_doesWhatNeedsNoStep_84 (by decide) (fun c10 => ?_) (fun c10 => ?_))))
        · replace h := tl_ip h c10
          obtain ⟨x13, u12, e11, h⟩ := tl_b2i h
          obtain ⟨g14, h⟩ := tl_gi h
          exact tl_aload_n dX5_doesWhatNeedsNoStep_95 rfl (tl_aload_n dX5_doesWhatNeedsNoStep_96 rfl (tl_iV1 tl_ck5 rfl h0 (l5_fetchesOil h0 (ta_21b (tt_3_0 (tt_5_3 h0)) g2) e11) dX5_doesWhatNeedsNoStep_97 cs_X5_doesWhatNeedsNoStep_97 ⟨rfl, rfl⟩ ⟨Nat.zero_le _, Nat.zero_le _⟩ (Nat.le_of_ble_eq_true rfl) (tl_iretE dX5_doesWhatNeedsNoStep_100 rfl (tl_nB g14).1 h)))
        · replace h := tl_in h c10
          obtain ⟨x13, u12, e11, h⟩ := tl_b2i h
          obtain ⟨g14, h⟩ := tl_gi h
          exact tl_aload_n dX5_doesWhatNeedsNoStep_87 rfl (tl_aload_n dX5_doesWhatNeedsNoStep_88 rfl (tl_iV1 tl_ck5 rfl h0 (l5_poursOil h0 (ta_20 (tt_5_2 h0) (tl_inlt g8)) e11) dX5_doesWhatNeedsNoStep_89 cs_X5_doesWhatNeedsNoStep_89 ⟨rfl, rfl⟩ ⟨Nat.zero_le _, Nat.zero_le _⟩ (Nat.le_of_ble_eq_true rfl) (tl_goto (tgt := 100) dX5_doesWhatNeedsNoStep_92 (by decide) (tl_iretE dX5_doesWhatNeedsNoStep_100 rfl (tl_nB g14).1 h))))
      · replace h := tl_ip h c9
        refine tl_aload_n dX5_doesWhatNeedsNoStep_50 rfl (tl_getr (f := 3) (o := 4) tl_ck5 dX5_doesWhatNeedsNoStep_51 fl_X5_32 (Nat.le_of_ble_eq_true rfl) rfl h0 (tl_geti (f := 4) tl_ck3 dX5_doesWhatNeedsNoStep_54 fl_X5_259 (Nat.le_of_ble_eq_true rfl) rfl (tt_5_3 h0) (tl_iconst (v := (-1)) dX5_doesWhatNeedsNoStep_57 ic_m1 (tl_icmp_ne (tgt := 70) dX5_doesWhatNeedsNoStep_58 (by decide) (fun c10 => ?_) (fun c10 => ?_)))))
        · replace h := tl_in h c10
          obtain ⟨x13, u12, e11, h⟩ := tl_b2i h
          obtain ⟨g14, h⟩ := tl_gi h
          exact tl_aload_n dX5_doesWhatNeedsNoStep_70 rfl (tl_aload_n dX5_doesWhatNeedsNoStep_71 rfl (tl_aload_n dX5_doesWhatNeedsNoStep_72 rfl (tl_iV2 tl_ck5 rfl h0 (l5_hangsLamp h0 (ta_21b (tt_3_0 (tt_5_3 h0)) g2) (ta_20 (tt_5_2 h0) (tl_inlt g8)) e11) dX5_doesWhatNeedsNoStep_73 cs_X5_doesWhatNeedsNoStep_73 ⟨rfl, rfl⟩ ⟨Nat.zero_le _, Nat.zero_le _⟩ (Nat.le_of_ble_eq_true rfl) (tl_iretE dX5_doesWhatNeedsNoStep_76 rfl (tl_nB g14).1 h))))
        · replace h := tl_ip h c10
          obtain ⟨x13, u12, e11, h⟩ := tl_b2i h
          obtain ⟨g14, h⟩ := tl_gi h
          exact tl_aload_n dX5_doesWhatNeedsNoStep_61 rfl (tl_aload_n dX5_doesWhatNeedsNoStep_62 rfl (tl_aload_n dX5_doesWhatNeedsNoStep_63 rfl (tl_iV2 tl_ck5 rfl h0 (l5_takesLamp h0 (ta_21b (tt_3_0 (tt_5_3 h0)) g2) (ta_20 (tt_5_2 h0) (tl_inlt g8)) e11) dX5_doesWhatNeedsNoStep_64 cs_X5_doesWhatNeedsNoStep_64 ⟨rfl, rfl⟩ ⟨Nat.zero_le _, Nat.zero_le _⟩ (Nat.le_of_ble_eq_true rfl) (tl_goto (tgt := 76) dX5_doesWhatNeedsNoStep_67 (by decide) (tl_iretE dX5_doesWhatNeedsNoStep_76 rfl (tl_nB g14).1 h)))))
    · replace h := tl_ip h c7
      exact tl_iconst (v := 0) dX5_doesWhatNeedsNoStep_31 ic_0 (tl_iretE dX5_doesWhatNeedsNoStep_32 rfl rfl h)

theorem cs_X5_makesStep_87 : tl_cV mX5_makesStep mX5_hasLamp 166 1 := ⟨cd_X5_hasLamp, ml_X5_166, im_X5_hasLamp, se_X5_hasLamp, in_X5, ⟨by decide, by decide, by decide +kernel⟩, Nat.le_of_ble_eq_true rfl, Nat.le_of_ble_eq_true rfl⟩
theorem cs_X5_makesStep_121 : tl_cV mX5_makesStep mX3_stepTowards 290 2 := ⟨cd_X3_stepTowards, ml_X5_290, im_X3_stepTowards, se_X3_stepTowards, in_X3, ⟨by decide, by decide, by decide +kernel⟩, Nat.le_of_ble_eq_true rfl, Nat.le_of_ble_eq_true rfl⟩
theorem cs_X5_makesStep_76 : tl_cV mX5_makesStep mX3_stepTowards 290 2 := ⟨cd_X3_stepTowards, ml_X5_290, im_X3_stepTowards, se_X3_stepTowards, in_X3, ⟨by decide, by decide, by decide +kernel⟩, Nat.le_of_ble_eq_true rfl, Nat.le_of_ble_eq_true rfl⟩
theorem cs_X5_makesStep_40 : tl_cV mX5_makesStep mX3_stepTowards 290 2 := ⟨cd_X3_stepTowards, ml_X5_290, im_X3_stepTowards, se_X3_stepTowards, in_X3, ⟨by decide, by decide, by decide +kernel⟩, Nat.le_of_ble_eq_true rfl, Nat.le_of_ble_eq_true rfl⟩
def f5_makesStep_p82 (a1 : Nat) (a2 : Nat) (u : tl_S) : Option (tl_S) :=
  tl_b2 (f5_hasLamp a1 (u.1 a2 1) u) (fun x6 u5 => (if x6 = 0 then some u5 else tl_g (¬ ((u5.1 a2 1) < 0 ∨ 8 ≤ (u5.1 a2 1).toNatClampNeg)) (tl_g (¬ ((u5.1 a2 1) < 0 ∨ 8 ≤ (u5.1 a2 1).toNatClampNeg)) (tl_b (f3_stepTowards (a1 + 4) (u5.1 ((a1 + 3) + (18 + (u5.1 a2 1).toNatClampNeg)) 0) (u5.1 ((a1 + 3) + (18 + (u5.1 a2 1).toNatClampNeg)) 1) u5) (fun u11 => some u11)))))

def f5_makesStep_p46 (a1 : Nat) (a2 : Nat) (u : tl_S) : Option (tl_S) :=
  (if (u.1 a2 0) = 0 then (if (u.1 (a1 + 4) 4) = (-1) then f5_makesStep_p82 a1 a2 u else tl_b (f3_stepTowards (a1 + 4) (u.1 a2 2) (u.1 a2 3) u) (fun u7 => some u7)) else f5_makesStep_p82 a1 a2 u)

def f5_makesStep (a0 : Nat) (u : tl_S) : Option (tl_S) :=
  tl_g (((a0 + 4) + 1) < (u.2.1 ((a0 + 4) + 1) 0) ∧ (u.2.1 ((a0 + 4) + 1) 0) < ((a0 + 4) + 1) + 7) ((if (u.1 (u.2.1 ((a0 + 4) + 1) 0) 0) = 1 then (if (u.1 (a0 + 4) 6) = 0 then tl_b (f3_stepTowards (a0 + 4) (u.1 (a0 + 4) 2) 0 u) (fun u6 => some u6) else f5_makesStep_p46 a0 ((u.2.1 ((a0 + 4) + 1) 0)) u) else f5_makesStep_p46 a0 ((u.2.1 ((a0 + 4) + 1) 0)) u))

theorem l5_makesStep_p82 {E : tl_E} {a1 : Nat} {a2 : Nat}   {u : tl_S} {v : tl_S} (h1 : tl_T E.2.1 a1 = some 5) (h2 : tl_T E.2.1 a2 = some 8) (h : f5_makesStep_p82 a1 a2 u = some v) : tl_R E mX5_makesStep tl_X0 (tl_ZB E mX5_makesStep (fun q w => q = none ∧ w = v)) 0 0 (tl_HB E u) 82 [some (.ref a1), some (.ref a2)] [] := by
  unfold f5_makesStep_p82 at h
  obtain ⟨x6, u5, e4, h⟩ := tl_b2i h
  refine tl_aload_n dX5_makesStep_82 rfl (tl_aload_n dX5_makesStep_83 rfl (tl_geti (f := 1) tl_ck8 dX5_makesStep_84 fl_X5_251 (Nat.le_of_ble_eq_true rfl) rfl h2 (tl_iV1 tl_ck5 rfl h1 (l5_hasLamp h1 e4) dX5_makesStep_87 cs_X5_makesStep_87 ⟨rfl, rfl⟩ ⟨Nat.zero_le _, Nat.zero_le _⟩ (Nat.le_of_ble_eq_true rfl) (tl_if_eq (tgt := 124) dX5_makesStep_90 (by decide) (fun c7 => ?_) (fun c7 => ?_)))))
  · replace h := tl_ip h c7
    exact tl_vretE dX5_makesStep_124 rfl h
  · replace h := tl_in h c7
    obtain ⟨g8, h⟩ := tl_gi h
    obtain ⟨g9, h⟩ := tl_gi h
    obtain ⟨u11, e10, h⟩ := tl_bi h
    exact tl_aload_n dX5_makesStep_93 rfl (tl_getr (f := 3) (o := 4) tl_ck5 dX5_makesStep_94 fl_X5_32 (Nat.le_of_ble_eq_true rfl) rfl h1 (tl_aload_n dX5_makesStep_97 rfl (tl_getr (f := 2) (o := 3) tl_ck5 dX5_makesStep_98 fl_X5_25 (Nat.le_of_ble_eq_true rfl) rfl h1 (tl_aload_n dX5_makesStep_101 rfl (tl_geti (f := 1) tl_ck8 dX5_makesStep_102 fl_X5_251 (Nat.le_of_ble_eq_true rfl) rfl h2 (tl_ald20 dX5_makesStep_105 (tt_5_2 h1) ((u5.1 a2 1).toNatClampNeg) g8 rfl (tl_geti (f := 0) tl_ck4 dX5_makesStep_106 fl_X5_102 (Nat.le_of_ble_eq_true rfl) rfl (ta_20 (tt_5_2 h1) (tl_inlt g8)) (tl_aload_n dX5_makesStep_109 rfl (tl_getr (f := 2) (o := 3) tl_ck5 dX5_makesStep_110 fl_X5_25 (Nat.le_of_ble_eq_true rfl) rfl h1 (tl_aload_n dX5_makesStep_113 rfl (tl_geti (f := 1) tl_ck8 dX5_makesStep_114 fl_X5_251 (Nat.le_of_ble_eq_true rfl) rfl h2 (tl_ald20 dX5_makesStep_117 (tt_5_2 h1) ((u5.1 a2 1).toNatClampNeg) g9 rfl (tl_geti (f := 1) tl_ck4 dX5_makesStep_118 fl_X5_110 (Nat.le_of_ble_eq_true rfl) rfl (ta_20 (tt_5_2 h1) (tl_inlt g9)) (tl_vV2 tl_ck3 rfl (tt_5_3 h1) (l3_stepTowards (tt_5_3 h1) e10) dX5_makesStep_121 cs_X5_makesStep_121 ⟨rfl, rfl⟩ ⟨Nat.zero_le _, Nat.zero_le _⟩ (Nat.le_of_ble_eq_true rfl) (tl_vretE dX5_makesStep_124 rfl h)))))))))))))))

theorem l5_makesStep_p46 {E : tl_E} {a1 : Nat} {a2 : Nat}   {u : tl_S} {v : tl_S} (h1 : tl_T E.2.1 a1 = some 5) (h2 : tl_T E.2.1 a2 = some 8) (h : f5_makesStep_p46 a1 a2 u = some v) : tl_R E mX5_makesStep tl_X0 (tl_ZB E mX5_makesStep (fun q w => q = none ∧ w = v)) 0 0 (tl_HB E u) 46 [some (.ref a1), some (.ref a2)] [] := by
  unfold f5_makesStep_p46 at h
  refine tl_aload_n dX5_makesStep_46 rfl (tl_geti (f := 0) tl_ck8 dX5_makesStep_47 fl_X5_256 (Nat.le_of_ble_eq_true rfl) rfl h2 (tl_if_ne (tgt := 82) dX5_makesStep_50 (by decide) (fun c4 => ?_) (fun c4 => ?_)))
  · replace h := tl_in h c4
    exact l5_makesStep_p82 h1 h2 h
  · replace h := tl_ip h c4
    refine tl_aload_n dX5_makesStep_53 rfl (tl_getr (f := 3) (o := 4) tl_ck5 dX5_makesStep_54 fl_X5_32 (Nat.le_of_ble_eq_true rfl) rfl h1 (tl_geti (f := 4) tl_ck3 dX5_makesStep_57 fl_X5_259 (Nat.le_of_ble_eq_true rfl) rfl (tt_5_3 h1) (tl_iconst (v := (-1)) dX5_makesStep_60 ic_m1 (tl_icmp_eq (tgt := 82) dX5_makesStep_61 (by decide) (fun c5 => ?_) (fun c5 => ?_)))))
    · replace h := tl_ip h c5
      exact l5_makesStep_p82 h1 h2 h
    · replace h := tl_in h c5
      obtain ⟨u7, e6, h⟩ := tl_bi h
      exact tl_aload_n dX5_makesStep_64 rfl (tl_getr (f := 3) (o := 4) tl_ck5 dX5_makesStep_65 fl_X5_32 (Nat.le_of_ble_eq_true rfl) rfl h1 (tl_aload_n dX5_makesStep_68 rfl (tl_geti (f := 2) tl_ck8 dX5_makesStep_69 fl_X5_283 (Nat.le_of_ble_eq_true rfl) rfl h2 (tl_aload_n dX5_makesStep_72 rfl (tl_geti (f := 3) tl_ck8 dX5_makesStep_73 fl_X5_284 (Nat.le_of_ble_eq_true rfl) rfl h2 (tl_vV2 tl_ck3 rfl (tt_5_3 h1) (l3_stepTowards (tt_5_3 h1) e6) dX5_makesStep_76 cs_X5_makesStep_76 ⟨rfl, rfl⟩ ⟨Nat.zero_le _, Nat.zero_le _⟩ (Nat.le_of_ble_eq_true rfl) (tl_goto (tgt := 124) dX5_makesStep_79 (by decide) (tl_vretE dX5_makesStep_124 rfl h))))))))

theorem l5_makesStep {E : tl_E} {a0 : Nat}  {u : tl_S} {v : tl_S} (h0 : tl_T E.2.1 a0 = some 5) (h : f5_makesStep a0 u = some v) : tl_MB E mX5_makesStep [.ref a0] u (fun q w => q = none ∧ w = v) := by
  unfold f5_makesStep at h
  refine tl_start [some (.ref a0), none] rfl rfl rfl (Nat.le_of_ble_eq_true rfl) ?_
  obtain ⟨g2, h⟩ := tl_gi h
  refine tl_aload_n dX5_makesStep_0 rfl (tl_getr (f := 3) (o := 4) tl_ck5 dX5_makesStep_1 fl_X5_32 (Nat.le_of_ble_eq_true rfl) rfl h0 (tl_getr (f := 0) (o := 1) tl_ck3 dX5_makesStep_4 fl_X5_247 (Nat.le_of_ble_eq_true rfl) rfl (tt_5_3 h0) (tl_iconst (v := 0) dX5_makesStep_7 ic_0 (tl_ald21 dX5_makesStep_8 (tt_3_0 (tt_5_3 h0)) (0) (li_0 6 rfl) lx_0 (tl_astore_n dX5_makesStep_9 (Nat.le_of_ble_eq_true rfl) (tl_aload_n dX5_makesStep_10 rfl (tl_geti (f := 0) tl_ck8 dX5_makesStep_11 fl_X5_256 (Nat.le_of_ble_eq_true rfl) rfl (ta_21b (tt_3_0 (tt_5_3 h0)) g2) (tl_iconst (v := 1) dX5_makesStep_14 ic_1 (tl_icmp_ne (tgt := 46) dX5_makesStep_15 (by decide) (fun c3 => ?_) (fun c3 => ?_))))))))))
  · replace h := tl_in h c3
    exact l5_makesStep_p46 h0 (ta_21b (tt_3_0 (tt_5_3 h0)) g2) h
  · replace h := tl_ip h c3
    refine tl_aload_n dX5_makesStep_18 rfl (tl_getr (f := 3) (o := 4) tl_ck5 dX5_makesStep_19 fl_X5_32 (Nat.le_of_ble_eq_true rfl) rfl h0 (tl_geti (f := 6) tl_ck3 dX5_makesStep_22 fl_X5_267 (Nat.le_of_ble_eq_true rfl) rfl (tt_5_3 h0) (tl_if_ne (tgt := 46) dX5_makesStep_25 (by decide) (fun c4 => ?_) (fun c4 => ?_))))
    · replace h := tl_in h c4
      exact l5_makesStep_p46 h0 (ta_21b (tt_3_0 (tt_5_3 h0)) g2) h
    · replace h := tl_ip h c4
      obtain ⟨u6, e5, h⟩ := tl_bi h
      exact tl_aload_n dX5_makesStep_28 rfl (tl_getr (f := 3) (o := 4) tl_ck5 dX5_makesStep_29 fl_X5_32 (Nat.le_of_ble_eq_true rfl) rfl h0 (tl_aload_n dX5_makesStep_32 rfl (tl_getr (f := 3) (o := 4) tl_ck5 dX5_makesStep_33 fl_X5_32 (Nat.le_of_ble_eq_true rfl) rfl h0 (tl_geti (f := 2) tl_ck3 dX5_makesStep_36 fl_X5_282 (Nat.le_of_ble_eq_true rfl) rfl (tt_5_3 h0) (tl_iconst (v := 0) dX5_makesStep_39 ic_0 (tl_vV2 tl_ck3 rfl (tt_5_3 h0) (l3_stepTowards (tt_5_3 h0) e5) dX5_makesStep_40 cs_X5_makesStep_40 ⟨rfl, rfl⟩ ⟨Nat.zero_le _, Nat.zero_le _⟩ (Nat.le_of_ble_eq_true rfl) (tl_goto (tgt := 124) dX5_makesStep_43 (by decide) (tl_vretE dX5_makesStep_124 rfl h))))))))

theorem cs_X5_ladWorks_23 : tl_cV mX5_ladWorks mX5_doesWhatNeedsNoStep 241 0 := ⟨cd_X5_doesWhatNeedsNoStep, ml_X5_241, im_X5_doesWhatNeedsNoStep, se_X5_doesWhatNeedsNoStep, in_X5, ⟨by decide, by decide, by decide +kernel⟩, Nat.le_of_ble_eq_true rfl, Nat.le_of_ble_eq_true rfl⟩
theorem cs_X5_ladWorks_37 : tl_cV mX5_ladWorks mX5_makesStep 244 0 := ⟨cd_X5_makesStep, ml_X5_244, im_X5_makesStep, se_X5_makesStep, in_X5, ⟨by decide, by decide, by decide +kernel⟩, Nat.le_of_ble_eq_true rfl, Nat.le_of_ble_eq_true rfl⟩
def f5_ladWorks_p4 : Nat → Nat → Int32 → Int32 → Int32 → tl_S → Option (Int32 × tl_S)
  | 0, _, _, _, _, _ => none
  | fu + 1, a1, x2, x3, x4, u =>
  (if (x2 + 12) < x4 then some (x3, u) else (if (u.1 (a1 + 4) 1) ≤ 0 then some (x3, u) else tl_b2 (f5_doesWhatNeedsNoStep a1 u) (fun x10 u9 => (if x10 = 0 then (if x3 = x2 then some (x3, u9) else tl_b (f5_makesStep a1 u9) (fun u14 => tl_let (x3 + 1) (fun x15 => tl_let (x4 + 1) (fun x16 => f5_ladWorks_p4 fu a1 x2 x15 x16 u14)))) else tl_let (x4 + 1) (fun x12 => f5_ladWorks_p4 fu a1 x2 x3 x12 u9)))))

def f5_ladWorks (a0 : Nat) (x1 : Int32) (u : tl_S) : Option (Int32 × tl_S) :=
  f5_ladWorks_p4 tl_F a0 x1 0 0 u

theorem l5_ladWorks_p4 {E : tl_E}  {r : Int32} {v : tl_S} : ∀ (n : Nat) (a1 : Nat) (x2 : Int32) (x3 : Int32) (x4 : Int32) (u : tl_S) , tl_T E.2.1 a1 = some 5 → f5_ladWorks_p4 n a1 x2 x3 x4 u = some (r, v) → tl_R E mX5_ladWorks tl_X0 (tl_ZB E mX5_ladWorks (fun q w => q = some (.int r) ∧ w = v)) 0 0 (tl_HB E u) 4 [some (.ref a1), some (.int x2), some (.int x3), some (.int x4)] [] := by
  intro n
  induction n with
  | zero => intro a1 x2 x3 x4 u  h1 h; exact absurd h (by simp [f5_ladWorks_p4])
  | succ n ih =>
    intro a1 x2 x3 x4 u  h1 h
    rw [f5_ladWorks_p4] at h
    refine tl_iload_n dX5_ladWorks_4 rfl (tl_iload_n dX5_ladWorks_5 rfl (tl_bipush (v := 12) dX5_ladWorks_6 bp_12 (tl_iadd dX5_ladWorks_8 (tl_icmp_gt (tgt := 49) dX5_ladWorks_9 (by decide) (fun c6 => ?_) (fun c6 => ?_)))))
    · replace h := tl_ip h c6
      exact tl_iload_n dX5_ladWorks_49 rfl (tl_iretE dX5_ladWorks_50 rfl rfl h)
    · replace h := tl_in h c6
      refine tl_aload_n dX5_ladWorks_12 rfl (tl_getr (f := 3) (o := 4) tl_ck5 dX5_ladWorks_13 fl_X5_32 (Nat.le_of_ble_eq_true rfl) rfl h1 (tl_geti (f := 1) tl_ck3 dX5_ladWorks_16 fl_X5_223 (Nat.le_of_ble_eq_true rfl) rfl (tt_5_3 h1) (tl_if_le (tgt := 49) dX5_ladWorks_19 (by decide) (fun c7 => ?_) (fun c7 => ?_))))
      · replace h := tl_ip h c7
        exact tl_iload_n dX5_ladWorks_49 rfl (tl_iretE dX5_ladWorks_50 rfl rfl h)
      · replace h := tl_in h c7
        obtain ⟨x10, u9, e8, h⟩ := tl_b2i h
        refine tl_aload_n dX5_ladWorks_22 rfl (tl_iV0 tl_ck5 rfl h1 (l5_doesWhatNeedsNoStep h1 e8) dX5_ladWorks_23 cs_X5_ladWorks_23 ⟨rfl, rfl⟩ ⟨Nat.zero_le _, Nat.zero_le _⟩ (Nat.le_of_ble_eq_true rfl) (tl_if_ne (tgt := 43) dX5_ladWorks_26 (by decide) (fun c11 => ?_) (fun c11 => ?_)))
        · replace h := tl_in h c11
          refine tl_iincK dX5_ladWorks_43 rfl (ii_1 _) (Nat.le_of_ble_eq_true rfl) (fun x12 e => ?_)
          have h := tl_leteq e h
          clear e
          refine tl_goto (tgt := 4) dX5_ladWorks_46 (by decide) (?_)
          exact ih _ _ _ _ _  h1 h
        · replace h := tl_ip h c11
          refine tl_iload_n dX5_ladWorks_29 rfl (tl_iload_n dX5_ladWorks_30 rfl (tl_icmp_ne (tgt := 36) dX5_ladWorks_31 (by decide) (fun c12 => ?_) (fun c12 => ?_)))
          · replace h := tl_in h c12
            obtain ⟨u14, e13, h⟩ := tl_bi h
            refine tl_aload_n dX5_ladWorks_36 rfl (tl_vV0 tl_ck5 rfl h1 (l5_makesStep h1 e13) dX5_ladWorks_37 cs_X5_ladWorks_37 ⟨rfl, rfl⟩ ⟨Nat.zero_le _, Nat.zero_le _⟩ (Nat.le_of_ble_eq_true rfl) (tl_iincK dX5_ladWorks_40 rfl (ii_1 _) (Nat.le_of_ble_eq_true rfl) (fun x15 e => ?_)))
            have h := tl_leteq e h
            clear e
            refine tl_iincK dX5_ladWorks_43 rfl (ii_1 _) (Nat.le_of_ble_eq_true rfl) (fun x16 e => ?_)
            have h := tl_leteq e h
            clear e
            refine tl_goto (tgt := 4) dX5_ladWorks_46 (by decide) (?_)
            exact ih _ _ _ _ _  h1 h
          · replace h := tl_ip h c12
            exact tl_iload_n dX5_ladWorks_34 rfl (tl_iretE dX5_ladWorks_35 rfl rfl h)

theorem l5_ladWorks {E : tl_E} {a0 : Nat} {x1 : Int32}  {u : tl_S} {r : Int32} {v : tl_S} (h0 : tl_T E.2.1 a0 = some 5) (h : f5_ladWorks a0 x1 u = some (r, v)) : tl_MB E mX5_ladWorks [.ref a0, .int x1] u (fun q w => q = some (.int r) ∧ w = v) := by
  unfold f5_ladWorks at h
  refine tl_start [some (.ref a0), some (.int x1), none, none] rfl rfl rfl (Nat.le_of_ble_eq_true rfl) ?_
  refine tl_iconst (v := 0) dX5_ladWorks_0 ic_0 (tl_istore_n dX5_ladWorks_1 (Nat.le_of_ble_eq_true rfl) (tl_iconst (v := 0) dX5_ladWorks_2 ic_0 (tl_istore_n dX5_ladWorks_3 (Nat.le_of_ble_eq_true rfl) (?_))))
  exact l5_ladWorks_p4 tl_F _ _ _ _ _  h0 h


def f5_lampsBurn_p2 : Nat → Nat → Int32 → tl_S → Option (tl_S)
  | 0, _, _, _ => none
  | fu + 1, a1, x2, u =>
  (if (u.1 a1 6) ≤ x2 then some u else tl_g (¬ (x2 < 0 ∨ 8 ≤ x2.toNatClampNeg)) ((if (u.1 ((a1 + 3) + (18 + x2.toNatClampNeg)) 3) ≤ 0 then tl_let (x2 + 1) (fun x7 => f5_lampsBurn_p2 fu a1 x7 u) else tl_g (¬ (x2 < 0 ∨ 8 ≤ x2.toNatClampNeg)) (tl_let ((tl_u u.1 ((a1 + 3) + (18 + x2.toNatClampNeg)) 3 ((u.1 ((a1 + 3) + (18 + x2.toNatClampNeg)) 3) - 1), u.2) : tl_S) (fun u8 => tl_let ((tl_u u8.1 a1 9 ((u8.1 a1 9) + 1), u8.2) : tl_S) (fun u9 => tl_let (x2 + 1) (fun x10 => f5_lampsBurn_p2 fu a1 x10 u9)))))))

def f5_lampsBurn (a0 : Nat) (u : tl_S) : Option (tl_S) :=
  f5_lampsBurn_p2 tl_F a0 0 u

theorem l5_lampsBurn_p2 {E : tl_E}  {v : tl_S} : ∀ (n : Nat) (a1 : Nat) (x2 : Int32) (u : tl_S) , tl_T E.2.1 a1 = some 5 → f5_lampsBurn_p2 n a1 x2 u = some v → tl_R E mX5_lampsBurn tl_X0 (tl_ZB E mX5_lampsBurn (fun q w => q = none ∧ w = v)) 0 0 (tl_HB E u) 2 [some (.ref a1), some (.int x2)] [] := by
  intro n
  induction n with
  | zero => intro a1 x2 u  h1 h; exact absurd h (by simp [f5_lampsBurn_p2])
  | succ n ih =>
    intro a1 x2 u  h1 h
    rw [f5_lampsBurn_p2] at h
    refine tl_iload_n dX5_lampsBurn_2 rfl (tl_aload_n dX5_lampsBurn_3 rfl (tl_geti (f := 6) tl_ck5 dX5_lampsBurn_4 fl_X5_62 (Nat.le_of_ble_eq_true rfl) rfl h1 (tl_icmp_ge (tgt := 53) dX5_lampsBurn_7 (by decide) (fun c4 => ?_) (fun c4 => ?_))))
    · replace h := tl_ip h c4
      exact tl_vretE dX5_lampsBurn_53 rfl h
    · replace h := tl_in h c4
      obtain ⟨g5, h⟩ := tl_gi h
      refine tl_aload_n dX5_lampsBurn_10 rfl (tl_getr (f := 2) (o := 3) tl_ck5 dX5_lampsBurn_11 fl_X5_25 (Nat.le_of_ble_eq_true rfl) rfl h1 (tl_iload_n dX5_lampsBurn_14 rfl (tl_ald20 dX5_lampsBurn_15 (tt_5_2 h1) (x2.toNatClampNeg) g5 rfl (tl_geti (f := 3) tl_ck4 dX5_lampsBurn_16 fl_X5_96 (Nat.le_of_ble_eq_true rfl) rfl (ta_20 (tt_5_2 h1) (tl_inlt g5)) (tl_if_le (tgt := 47) dX5_lampsBurn_19 (by decide) (fun c6 => ?_) (fun c6 => ?_))))))
      · replace h := tl_ip h c6
        refine tl_iincK dX5_lampsBurn_47 rfl (ii_1 _) (Nat.le_of_ble_eq_true rfl) (fun x7 e => ?_)
        have h := tl_leteq e h
        clear e
        refine tl_goto (tgt := 2) dX5_lampsBurn_50 (by decide) (?_)
        exact ih _ _ _  h1 h
      · replace h := tl_in h c6
        obtain ⟨g7, h⟩ := tl_gi h
        refine tl_aload_n dX5_lampsBurn_22 rfl (tl_getr (f := 2) (o := 3) tl_ck5 dX5_lampsBurn_23 fl_X5_25 (Nat.le_of_ble_eq_true rfl) rfl h1 (tl_iload_n dX5_lampsBurn_26 rfl (tl_ald20 dX5_lampsBurn_27 (tt_5_2 h1) (x2.toNatClampNeg) g7 rfl (tl_dup dX5_lampsBurn_28 rfl (tl_geti (f := 3) tl_ck4 dX5_lampsBurn_29 fl_X5_96 (Nat.le_of_ble_eq_true rfl) rfl (ta_20 (tt_5_2 h1) (tl_inlt g7)) (tl_iconst (v := 1) dX5_lampsBurn_32 ic_1 (tl_isub dX5_lampsBurn_33 (tl_puti (f := 3) tl_ck4 dX5_lampsBurn_34 fl_X5_96 (Nat.le_of_ble_eq_true rfl) rfl rfl rfl (ta_20 (tt_5_2 h1) (tl_inlt g7)) (fun u8 e => ?_)))))))))
        have h := tl_leteq e h
        clear e
        refine tl_aload_n dX5_lampsBurn_37 rfl (tl_dup dX5_lampsBurn_38 rfl (tl_geti (f := 9) tl_ck5 dX5_lampsBurn_39 fl_X5_71 (Nat.le_of_ble_eq_true rfl) rfl h1 (tl_iconst (v := 1) dX5_lampsBurn_42 ic_1 (tl_iadd dX5_lampsBurn_43 (tl_puti (f := 9) tl_ck5 dX5_lampsBurn_44 fl_X5_71 (Nat.le_of_ble_eq_true rfl) rfl rfl rfl h1 (fun u9 e => ?_))))))
        have h := tl_leteq e h
        clear e
        refine tl_iincK dX5_lampsBurn_47 rfl (ii_1 _) (Nat.le_of_ble_eq_true rfl) (fun x10 e => ?_)
        have h := tl_leteq e h
        clear e
        refine tl_goto (tgt := 2) dX5_lampsBurn_50 (by decide) (?_)
        exact ih _ _ _  h1 h

theorem l5_lampsBurn {E : tl_E} {a0 : Nat}  {u : tl_S} {v : tl_S} (h0 : tl_T E.2.1 a0 = some 5) (h : f5_lampsBurn a0 u = some v) : tl_MB E mX5_lampsBurn [.ref a0] u (fun q w => q = none ∧ w = v) := by
  unfold f5_lampsBurn at h
  refine tl_start [some (.ref a0), none] rfl rfl rfl (Nat.le_of_ble_eq_true rfl) ?_
  refine tl_iconst (v := 0) dX5_lampsBurn_0 ic_0 (tl_istore_n dX5_lampsBurn_1 (Nat.le_of_ble_eq_true rfl) (?_))
  exact l5_lampsBurn_p2 tl_F _ _ _  h0 h


def f5_hasGallery (a0 : Nat) (x1 : Int32) (u : tl_S) : Option (Int32 × tl_S) :=
  (if x1 < 0 then some (0, u) else (if (u.1 a0 4) ≤ x1 then some (0, u) else some (1, u)))

theorem l5_hasGallery {E : tl_E} {a0 : Nat} {x1 : Int32}  {u : tl_S} {r : Int32} {v : tl_S} (h0 : tl_T E.2.1 a0 = some 5) (h : f5_hasGallery a0 x1 u = some (r, v)) : tl_MB E mX5_hasGallery [.ref a0, .int x1] u (fun q w => q = some (.int r) ∧ w = v) := by
  unfold f5_hasGallery at h
  refine tl_start [some (.ref a0), some (.int x1)] rfl rfl rfl (Nat.le_of_ble_eq_true rfl) ?_
  refine tl_iload_n dX5_hasGallery_0 rfl (tl_if_lt (tgt := 16) dX5_hasGallery_1 (by decide) (fun c3 => ?_) (fun c3 => ?_))
  · replace h := tl_ip h c3
    exact tl_iconst (v := 0) dX5_hasGallery_16 ic_0 (tl_iretE dX5_hasGallery_17 rfl rfl h)
  · replace h := tl_in h c3
    refine tl_iload_n dX5_hasGallery_4 rfl (tl_aload_n dX5_hasGallery_5 rfl (tl_geti (f := 4) tl_ck5 dX5_hasGallery_6 fl_X5_56 (Nat.le_of_ble_eq_true rfl) rfl h0 (tl_icmp_ge (tgt := 16) dX5_hasGallery_9 (by decide) (fun c4 => ?_) (fun c4 => ?_))))
    · replace h := tl_ip h c4
      exact tl_iconst (v := 0) dX5_hasGallery_16 ic_0 (tl_iretE dX5_hasGallery_17 rfl rfl h)
    · replace h := tl_in h c4
      exact tl_iconst (v := 1) dX5_hasGallery_12 ic_1 (tl_goto (tgt := 17) dX5_hasGallery_13 (by decide) (tl_iretE dX5_hasGallery_17 rfl rfl h))

theorem cs_X5_minersWork_24 : tl_cV mX5_minersWork mX5_hasGallery 89 1 := ⟨cd_X5_hasGallery, ml_X5_89, im_X5_hasGallery, se_X5_hasGallery, in_X5, ⟨by decide, by decide, by decide +kernel⟩, Nat.le_of_ble_eq_true rfl, Nat.le_of_ble_eq_true rfl⟩
theorem cs_X5_minersWork_55 : tl_cV mX5_minersWork mX5_isLit 107 2 := ⟨cd_X5_isLit, ml_X5_107, im_X5_isLit, se_X5_isLit, in_X5, ⟨by decide, by decide, by decide +kernel⟩, Nat.le_of_ble_eq_true rfl, Nat.le_of_ble_eq_true rfl⟩
theorem cs_X5_minersWork_90 : tl_cV mX5_minersWork mX1_strike 238 2 := ⟨cd_X1_strike, ml_X5_238, im_X1_strike, se_X1_strike, in_X1, ⟨by decide, by decide, by decide +kernel⟩, Nat.le_of_ble_eq_true rfl, Nat.le_of_ble_eq_true rfl⟩
def f5_minersWork_p2 : Nat → Nat → Int32 → tl_S → Option (tl_S)
  | 0, _, _, _ => none
  | fu + 1, a1, x2, u =>
  (if (u.1 a1 5) ≤ x2 then some u else tl_g (¬ (x2 < 0 ∨ 6 ≤ x2.toNatClampNeg)) (tl_let ((u.1 ((a1 + 2) + (13 + x2.toNatClampNeg)) 0)) (fun x6 => tl_b2 (f5_hasGallery a1 x6 u) (fun x9 u8 => (if x9 = 0 then tl_let (x2 + 1) (fun x11 => f5_minersWork_p2 fu a1 x11 u8) else tl_g (¬ (x6 < 0 ∨ 3 ≤ x6.toNatClampNeg)) ((if 60 ≤ (u8.1 ((a1 + 1) + (11 + x6.toNatClampNeg)) 0) then tl_let (x2 + 1) (fun x13 => f5_minersWork_p2 fu a1 x13 u8) else tl_g (¬ (x6 < 0 ∨ 3 ≤ x6.toNatClampNeg)) (tl_b2 (f5_isLit a1 x6 (u8.1 ((a1 + 1) + (11 + x6.toNatClampNeg)) 0) u8) (fun x16 u15 => (if x16 = 0 then tl_let ((tl_u u15.1 ((a1 + 2) + (13 + x2.toNatClampNeg)) 3 ((u15.1 ((a1 + 2) + (13 + x2.toNatClampNeg)) 3) + 1), u15.2) : tl_S) (fun u18 => tl_let ((tl_u u18.1 a1 12 ((u18.1 a1 12) + 1), u18.2) : tl_S) (fun u19 => tl_let (x2 + 1) (fun x20 => f5_minersWork_p2 fu a1 x20 u19))) else tl_let ((tl_u u15.1 ((a1 + 2) + (13 + x2.toNatClampNeg)) 2 ((u15.1 ((a1 + 2) + (13 + x2.toNatClampNeg)) 2) + (u15.1 ((a1 + 2) + (13 + x2.toNatClampNeg)) 1)), u15.2) : tl_S) (fun u18 => tl_g (¬ (x6 < 0 ∨ 3 ≤ x6.toNatClampNeg)) (tl_b2 (f1_strike ((a1 + 1) + (11 + x6.toNatClampNeg)) x6 (u18.1 ((a1 + 2) + (13 + x2.toNatClampNeg)) 1) u18) (fun x22 u21 => tl_let ((tl_u u21.1 a1 13 ((u18.1 a1 13) + x22), u21.2) : tl_S) (fun u23 => tl_let (x2 + 1) (fun x24 => f5_minersWork_p2 fu a1 x24 u23)))))))))))))))

def f5_minersWork (a0 : Nat) (u : tl_S) : Option (tl_S) :=
  f5_minersWork_p2 tl_F a0 0 u

theorem l5_minersWork_p2 {E : tl_E}  {v : tl_S} : ∀ (n : Nat) (a1 : Nat) (x2 : Int32) (u : tl_S) (d2 : Option Value) (d3 : Option Value), tl_T E.2.1 a1 = some 5 → f5_minersWork_p2 n a1 x2 u = some v → tl_R E mX5_minersWork tl_X0 (tl_ZB E mX5_minersWork (fun q w => q = none ∧ w = v)) 0 0 (tl_HB E u) 2 [some (.ref a1), some (.int x2), d2, d3] [] := by
  intro n
  induction n with
  | zero => intro a1 x2 u d2 d3 h1 h; exact absurd h (by simp [f5_minersWork_p2])
  | succ n ih =>
    intro a1 x2 u d2 d3 h1 h
    rw [f5_minersWork_p2] at h
    refine tl_iload_n dX5_minersWork_2 rfl (tl_aload_n dX5_minersWork_3 rfl (tl_geti (f := 5) tl_ck5 dX5_minersWork_4 fl_X5_59 (Nat.le_of_ble_eq_true rfl) rfl h1 (tl_icmp_ge (tgt := 126) dX5_minersWork_7 (by decide) (fun c4 => ?_) (fun c4 => ?_))))
    · replace h := tl_ip h c4
      exact tl_vretE dX5_minersWork_126 rfl h
    · replace h := tl_in h c4
      obtain ⟨g5, h⟩ := tl_gi h
      refine tl_aload_n dX5_minersWork_10 rfl (tl_getr (f := 1) (o := 2) tl_ck5 dX5_minersWork_11 fl_X5_19 (Nat.le_of_ble_eq_true rfl) rfl h1 (tl_iload_n dX5_minersWork_14 rfl (tl_ald19 dX5_minersWork_15 (tt_5_1 h1) (x2.toNatClampNeg) g5 rfl (tl_astore_n dX5_minersWork_16 (Nat.le_of_ble_eq_true rfl) (tl_aload_n dX5_minersWork_17 rfl (tl_geti (f := 0) tl_ck7 dX5_minersWork_18 fl_X5_99 (Nat.le_of_ble_eq_true rfl) rfl (ta_19 (tt_5_1 h1) (tl_inlt g5)) (tl_isto_n dX5_minersWork_21 (Nat.le_of_ble_eq_true rfl) (fun x6 e => ?_))))))))
      have h := tl_leteq e h
      clear e
      obtain ⟨x9, u8, e7, h⟩ := tl_b2i h
      refine tl_aload_n dX5_minersWork_22 rfl (tl_iload_n dX5_minersWork_23 rfl (tl_iV1 tl_ck5 rfl h1 (l5_hasGallery h1 e7) dX5_minersWork_24 cs_X5_minersWork_24 ⟨rfl, rfl⟩ ⟨Nat.zero_le _, Nat.zero_le _⟩ (Nat.le_of_ble_eq_true rfl) (tl_if_eq (tgt := 120) dX5_minersWork_27 (by decide) (fun c10 => ?_) (fun c10 => ?_))))
      · replace h := tl_ip h c10
        refine tl_iincK dX5_minersWork_120 rfl (ii_1 _) (Nat.le_of_ble_eq_true rfl) (fun x11 e => ?_)
        have h := tl_leteq e h
        clear e
        refine tl_goto (tgt := 2) dX5_minersWork_123 (by decide) (?_)
        exact ih _ _ _ _ _ h1 h
      · replace h := tl_in h c10
        obtain ⟨g11, h⟩ := tl_gi h
        refine tl_aload_n dX5_minersWork_30 rfl (tl_getr (f := 0) (o := 1) tl_ck5 dX5_minersWork_31 fl_X5_11 (Nat.le_of_ble_eq_true rfl) rfl h1 (tl_iload_n dX5_minersWork_34 rfl (tl_ald18 dX5_minersWork_35 (tt_5_0 h1) (x6.toNatClampNeg) g11 rfl (tl_geti (f := 0) tl_ck1 dX5_minersWork_36 fl_X5_93 (Nat.le_of_ble_eq_true rfl) rfl (ta_18 (tt_5_0 h1) (tl_inlt g11)) (tl_bipush (v := 60) dX5_minersWork_39 bp_60 (tl_icmp_ge (tgt := 120) dX5_minersWork_41 (by decide) (fun c12 => ?_) (fun c12 => ?_)))))))
        · replace h := tl_ip h c12
          refine tl_iincK dX5_minersWork_120 rfl (ii_1 _) (Nat.le_of_ble_eq_true rfl) (fun x13 e => ?_)
          have h := tl_leteq e h
          clear e
          refine tl_goto (tgt := 2) dX5_minersWork_123 (by decide) (?_)
          exact ih _ _ _ _ _ h1 h
        · replace h := tl_in h c12
          obtain ⟨g13, h⟩ := tl_gi h
          obtain ⟨x16, u15, e14, h⟩ := tl_b2i h
          refine tl_aload_n dX5_minersWork_44 rfl (tl_iload_n dX5_minersWork_45 rfl (tl_aload_n dX5_minersWork_46 rfl (tl_getr (f := 0) (o := 1) tl_ck5 dX5_minersWork_47 fl_X5_11 (Nat.le_of_ble_eq_true rfl) rfl h1 (tl_iload_n dX5_minersWork_50 rfl (tl_ald18 dX5_minersWork_51 (tt_5_0 h1) (x6.toNatClampNeg) g13 rfl (tl_geti (f := 0) tl_ck1 dX5_minersWork_52 fl_X5_93 (Nat.le_of_ble_eq_true rfl) rfl (ta_18 (tt_5_0 h1) (tl_inlt g13)) (tl_iV2 tl_ck5 rfl h1 (l5_isLit h1 e14) dX5_minersWork_55 cs_X5_minersWork_55 ⟨rfl, rfl⟩ ⟨Nat.zero_le _, Nat.zero_le _⟩ (Nat.le_of_ble_eq_true rfl) (tl_if_eq (tgt := 100) dX5_minersWork_58 (by decide) (fun c17 => ?_) (fun c17 => ?_)))))))))
          · replace h := tl_ip h c17
            refine tl_aload_n dX5_minersWork_100 rfl (tl_dup dX5_minersWork_101 rfl (tl_geti (f := 3) tl_ck7 dX5_minersWork_102 fl_X5_222 (Nat.le_of_ble_eq_true rfl) rfl (ta_19 (tt_5_1 h1) (tl_inlt g5)) (tl_iconst (v := 1) dX5_minersWork_105 ic_1 (tl_iadd dX5_minersWork_106 (tl_puti (f := 3) tl_ck7 dX5_minersWork_107 fl_X5_222 (Nat.le_of_ble_eq_true rfl) rfl rfl rfl (ta_19 (tt_5_1 h1) (tl_inlt g5)) (fun u18 e => ?_))))))
            have h := tl_leteq e h
            clear e
            refine tl_aload_n dX5_minersWork_110 rfl (tl_dup dX5_minersWork_111 rfl (tl_geti (f := 12) tl_ck5 dX5_minersWork_112 fl_X5_80 (Nat.le_of_ble_eq_true rfl) rfl h1 (tl_iconst (v := 1) dX5_minersWork_115 ic_1 (tl_iadd dX5_minersWork_116 (tl_puti (f := 12) tl_ck5 dX5_minersWork_117 fl_X5_80 (Nat.le_of_ble_eq_true rfl) rfl rfl rfl h1 (fun u19 e => ?_))))))
            have h := tl_leteq e h
            clear e
            refine tl_iincK dX5_minersWork_120 rfl (ii_1 _) (Nat.le_of_ble_eq_true rfl) (fun x20 e => ?_)
            have h := tl_leteq e h
            clear e
            refine tl_goto (tgt := 2) dX5_minersWork_123 (by decide) (?_)
            exact ih _ _ _ _ _ h1 h
          · replace h := tl_in h c17
            refine tl_aload_n dX5_minersWork_61 rfl (tl_dup dX5_minersWork_62 rfl (tl_geti (f := 2) tl_ck7 dX5_minersWork_63 fl_X5_221 (Nat.le_of_ble_eq_true rfl) rfl (ta_19 (tt_5_1 h1) (tl_inlt g5)) (tl_aload_n dX5_minersWork_66 rfl (tl_geti (f := 1) tl_ck7 dX5_minersWork_67 fl_X5_218 (Nat.le_of_ble_eq_true rfl) rfl (ta_19 (tt_5_1 h1) (tl_inlt g5)) (tl_iadd dX5_minersWork_70 (tl_puti (f := 2) tl_ck7 dX5_minersWork_71 fl_X5_221 (Nat.le_of_ble_eq_true rfl) rfl rfl rfl (ta_19 (tt_5_1 h1) (tl_inlt g5)) (fun u18 e => ?_)))))))
            have h := tl_leteq e h
            clear e
            obtain ⟨g19, h⟩ := tl_gi h
            obtain ⟨x22, u21, e20, h⟩ := tl_b2i h
            refine tl_aload_n dX5_minersWork_74 rfl (tl_dup dX5_minersWork_75 rfl (tl_geti (f := 13) tl_ck5 dX5_minersWork_76 fl_X5_83 (Nat.le_of_ble_eq_true rfl) rfl h1 (tl_aload_n dX5_minersWork_79 rfl (tl_getr (f := 0) (o := 1) tl_ck5 dX5_minersWork_80 fl_X5_11 (Nat.le_of_ble_eq_true rfl) rfl h1 (tl_iload_n dX5_minersWork_83 rfl (tl_ald18 dX5_minersWork_84 (tt_5_0 h1) (x6.toNatClampNeg) g19 rfl (tl_iload_n dX5_minersWork_85 rfl (tl_aload_n dX5_minersWork_86 rfl (tl_geti (f := 1) tl_ck7 dX5_minersWork_87 fl_X5_218 (Nat.le_of_ble_eq_true rfl) rfl (ta_19 (tt_5_1 h1) (tl_inlt g5)) (tl_iV2 tl_ck1 rfl (ta_18 (tt_5_0 h1) (tl_inlt g19)) (l1_strike (ta_18 (tt_5_0 h1) (tl_inlt g19)) e20) dX5_minersWork_90 cs_X5_minersWork_90 ⟨rfl, rfl⟩ ⟨Nat.zero_le _, Nat.zero_le _⟩ (Nat.le_of_ble_eq_true rfl) (tl_iadd dX5_minersWork_93 (tl_puti (f := 13) tl_ck5 dX5_minersWork_94 fl_X5_83 (Nat.le_of_ble_eq_true rfl) rfl rfl rfl h1 (fun u23 e => ?_)))))))))))))
            have h := tl_leteq e h
            clear e
            refine tl_goto (tgt := 120) dX5_minersWork_97 (by decide) (tl_iincK dX5_minersWork_120 rfl (ii_1 _) (Nat.le_of_ble_eq_true rfl) (fun x24 e => ?_))
            have h := tl_leteq e h
            clear e
            refine tl_goto (tgt := 2) dX5_minersWork_123 (by decide) (?_)
            exact ih _ _ _ _ _ h1 h

theorem l5_minersWork {E : tl_E} {a0 : Nat}  {u : tl_S} {v : tl_S} (h0 : tl_T E.2.1 a0 = some 5) (h : f5_minersWork a0 u = some v) : tl_MB E mX5_minersWork [.ref a0] u (fun q w => q = none ∧ w = v) := by
  unfold f5_minersWork at h
  refine tl_start [some (.ref a0), none, none, none] rfl rfl rfl (Nat.le_of_ble_eq_true rfl) ?_
  refine tl_iconst (v := 0) dX5_minersWork_0 ic_0 (tl_istore_n dX5_minersWork_1 (Nat.le_of_ble_eq_true rfl) (?_))
  exact l5_minersWork_p2 tl_F _ _ _ _ _ h0 h

theorem cs_X5_letHoursGo_23 : tl_cV mX5_letHoursGo mX5_minersWork 226 0 := ⟨cd_X5_minersWork, ml_X5_226, im_X5_minersWork, se_X5_minersWork, in_X5, ⟨by decide, by decide, by decide +kernel⟩, Nat.le_of_ble_eq_true rfl, Nat.le_of_ble_eq_true rfl⟩
theorem cs_X5_letHoursGo_27 : tl_cV mX5_letHoursGo mX5_lampsBurn 229 0 := ⟨cd_X5_lampsBurn, ml_X5_229, im_X5_lampsBurn, se_X5_lampsBurn, in_X5, ⟨by decide, by decide, by decide +kernel⟩, Nat.le_of_ble_eq_true rfl, Nat.le_of_ble_eq_true rfl⟩
theorem cs_X5_letHoursGo_35 : tl_cV mX5_letHoursGo mX5_ladWorks 232 1 := ⟨cd_X5_ladWorks, ml_X5_232, im_X5_ladWorks, se_X5_ladWorks, in_X5, ⟨by decide, by decide, by decide +kernel⟩, Nat.le_of_ble_eq_true rfl, Nat.le_of_ble_eq_true rfl⟩
theorem cs_X5_letHoursGo_58 : tl_cV mX5_letHoursGo mX5_ladSeesTheDark 235 0 := ⟨cd_X5_ladSeesTheDark, ml_X5_235, im_X5_ladSeesTheDark, se_X5_ladSeesTheDark, in_X5, ⟨by decide, by decide, by decide +kernel⟩, Nat.le_of_ble_eq_true rfl, Nat.le_of_ble_eq_true rfl⟩
def f5_letHoursGo_p7 : Nat → Nat → Int32 → Int32 → Int32 → tl_S → Option (Int32 × tl_S)
  | 0, _, _, _, _, _ => none
  | fu + 1, a1, x2, x3, x4, u =>
  (if x2 ≤ x4 then some (((u.1 a1 13) - x3), u) else tl_let ((tl_u u.1 a1 7 ((u.1 a1 7) + 1), u.2) : tl_S) (fun u7 => tl_b (f5_minersWork a1 u7) (fun u9 => tl_b (f5_lampsBurn a1 u9) (fun u11 => tl_b2 (f5_ladWorks a1 (u11.1 a1 14) u11) (fun x14 u13 => (if (u13.1 a1 15) = 1 then (if (u13.1 (a1 + 4) 1) = 0 then tl_b (f5_ladSeesTheDark a1 u13) (fun u18 => tl_let (x4 + 1) (fun x19 => f5_letHoursGo_p7 fu a1 x2 x3 x19 u18)) else tl_let (x4 + 1) (fun x17 => f5_letHoursGo_p7 fu a1 x2 x3 x17 u13)) else tl_let (x4 + 1) (fun x16 => f5_letHoursGo_p7 fu a1 x2 x3 x16 u13)))))))

def f5_letHoursGo (a0 : Nat) (x1 : Int32) (u : tl_S) : Option (Int32 × tl_S) :=
  tl_let ((u.1 a0 13)) (fun x3 => f5_letHoursGo_p7 tl_F a0 x1 x3 0 u)

theorem l5_letHoursGo_p7 {E : tl_E}  {r : Int32} {v : tl_S} : ∀ (n : Nat) (a1 : Nat) (x2 : Int32) (x3 : Int32) (x4 : Int32) (u : tl_S) , tl_T E.2.1 a1 = some 5 → f5_letHoursGo_p7 n a1 x2 x3 x4 u = some (r, v) → tl_R E mX5_letHoursGo tl_X0 (tl_ZB E mX5_letHoursGo (fun q w => q = some (.int r) ∧ w = v)) 0 0 (tl_HB E u) 7 [some (.ref a1), some (.int x2), some (.int x3), some (.int x4)] [] := by
  intro n
  induction n with
  | zero => intro a1 x2 x3 x4 u  h1 h; exact absurd h (by simp [f5_letHoursGo_p7])
  | succ n ih =>
    intro a1 x2 x3 x4 u  h1 h
    rw [f5_letHoursGo_p7] at h
    refine tl_iload_n dX5_letHoursGo_7 rfl (tl_iload_n dX5_letHoursGo_8 rfl (tl_icmp_ge (tgt := 67) dX5_letHoursGo_9 (by decide) (fun c6 => ?_) (fun c6 => ?_)))
    · replace h := tl_ip h c6
      exact tl_aload_n dX5_letHoursGo_67 rfl (tl_geti (f := 13) tl_ck5 dX5_letHoursGo_68 fl_X5_83 (Nat.le_of_ble_eq_true rfl) rfl h1 (tl_iload_n dX5_letHoursGo_71 rfl (tl_isub dX5_letHoursGo_72 (tl_iretE dX5_letHoursGo_73 rfl rfl h))))
    · replace h := tl_in h c6
      refine tl_aload_n dX5_letHoursGo_12 rfl (tl_dup dX5_letHoursGo_13 rfl (tl_geti (f := 7) tl_ck5 dX5_letHoursGo_14 fl_X5_65 (Nat.le_of_ble_eq_true rfl) rfl h1 (tl_iconst (v := 1) dX5_letHoursGo_17 ic_1 (tl_iadd dX5_letHoursGo_18 (tl_puti (f := 7) tl_ck5 dX5_letHoursGo_19 fl_X5_65 (Nat.le_of_ble_eq_true rfl) rfl rfl rfl h1 (fun u7 e => ?_))))))
      have h := tl_leteq e h
      clear e
      obtain ⟨u9, e8, h⟩ := tl_bi h
      obtain ⟨u11, e10, h⟩ := tl_bi h
      obtain ⟨x14, u13, e12, h⟩ := tl_b2i h
      refine tl_aload_n dX5_letHoursGo_22 rfl (tl_vV0 tl_ck5 rfl h1 (l5_minersWork h1 e8) dX5_letHoursGo_23 cs_X5_letHoursGo_23 ⟨rfl, rfl⟩ ⟨Nat.zero_le _, Nat.zero_le _⟩ (Nat.le_of_ble_eq_true rfl) (tl_aload_n dX5_letHoursGo_26 rfl (tl_vV0 tl_ck5 rfl h1 (l5_lampsBurn h1 e10) dX5_letHoursGo_27 cs_X5_letHoursGo_27 ⟨rfl, rfl⟩ ⟨Nat.zero_le _, Nat.zero_le _⟩ (Nat.le_of_ble_eq_true rfl) (tl_aload_n dX5_letHoursGo_30 rfl (tl_aload_n dX5_letHoursGo_31 rfl (tl_geti (f := 14) tl_ck5 dX5_letHoursGo_32 fl_X5_36 (Nat.le_of_ble_eq_true rfl) rfl h1 (tl_iV1 tl_ck5 rfl h1 (l5_ladWorks h1 e12) dX5_letHoursGo_35 cs_X5_letHoursGo_35 ⟨rfl, rfl⟩ ⟨Nat.zero_le _, Nat.zero_le _⟩ (Nat.le_of_ble_eq_true rfl) (tl_pop dX5_letHoursGo_38 rfl (tl_aload_n dX5_letHoursGo_39 rfl (tl_geti (f := 15) tl_ck5 dX5_letHoursGo_40 fl_X5_86 (Nat.le_of_ble_eq_true rfl) rfl h1 (tl_iconst (v := 1) dX5_letHoursGo_43 ic_1 (tl_icmp_ne (tgt := 61) dX5_letHoursGo_44 (by decide) (fun c15 => ?_) (fun c15 => ?_)))))))))))))
      · replace h := tl_in h c15
        refine tl_iincK dX5_letHoursGo_61 rfl (ii_1 _) (Nat.le_of_ble_eq_true rfl) (fun x16 e => ?_)
        have h := tl_leteq e h
        clear e
        refine tl_goto (tgt := 7) dX5_letHoursGo_64 (by decide) (?_)
        exact ih _ _ _ _ _  h1 h
      · replace h := tl_ip h c15
        refine tl_aload_n dX5_letHoursGo_47 rfl (tl_getr (f := 3) (o := 4) tl_ck5 dX5_letHoursGo_48 fl_X5_32 (Nat.le_of_ble_eq_true rfl) rfl h1 (tl_geti (f := 1) tl_ck3 dX5_letHoursGo_51 fl_X5_223 (Nat.le_of_ble_eq_true rfl) rfl (tt_5_3 h1) (tl_if_ne (tgt := 61) dX5_letHoursGo_54 (by decide) (fun c16 => ?_) (fun c16 => ?_))))
        · replace h := tl_in h c16
          refine tl_iincK dX5_letHoursGo_61 rfl (ii_1 _) (Nat.le_of_ble_eq_true rfl) (fun x17 e => ?_)
          have h := tl_leteq e h
          clear e
          refine tl_goto (tgt := 7) dX5_letHoursGo_64 (by decide) (?_)
          exact ih _ _ _ _ _  h1 h
        · replace h := tl_ip h c16
          obtain ⟨u18, e17, h⟩ := tl_bi h
          refine tl_aload_n dX5_letHoursGo_57 rfl (tl_vV0 tl_ck5 rfl h1 (l5_ladSeesTheDark h1 e17) dX5_letHoursGo_58 cs_X5_letHoursGo_58 ⟨rfl, rfl⟩ ⟨Nat.zero_le _, Nat.zero_le _⟩ (Nat.le_of_ble_eq_true rfl) (tl_iincK dX5_letHoursGo_61 rfl (ii_1 _) (Nat.le_of_ble_eq_true rfl) (fun x19 e => ?_)))
          have h := tl_leteq e h
          clear e
          refine tl_goto (tgt := 7) dX5_letHoursGo_64 (by decide) (?_)
          exact ih _ _ _ _ _  h1 h

theorem l5_letHoursGo {E : tl_E} {a0 : Nat} {x1 : Int32}  {u : tl_S} {r : Int32} {v : tl_S} (h0 : tl_T E.2.1 a0 = some 5) (h : f5_letHoursGo a0 x1 u = some (r, v)) : tl_MB E mX5_letHoursGo [.ref a0, .int x1] u (fun q w => q = some (.int r) ∧ w = v) := by
  unfold f5_letHoursGo at h
  refine tl_start [some (.ref a0), some (.int x1), none, none] rfl rfl rfl (Nat.le_of_ble_eq_true rfl) ?_
  refine tl_aload_n dX5_letHoursGo_0 rfl (tl_geti (f := 13) tl_ck5 dX5_letHoursGo_1 fl_X5_83 (Nat.le_of_ble_eq_true rfl) rfl h0 (tl_isto_n dX5_letHoursGo_4 (Nat.le_of_ble_eq_true rfl) (fun x3 e => ?_)))
  have h := tl_leteq e h
  clear e
  refine tl_iconst (v := 0) dX5_letHoursGo_5 ic_0 (tl_istore_n dX5_letHoursGo_6 (Nat.le_of_ble_eq_true rfl) (?_))
  exact l5_letHoursGo_p7 tl_F _ _ _ _ _  h0 h


def f5_hasMiner (a0 : Nat) (x1 : Int32) (u : tl_S) : Option (Int32 × tl_S) :=
  (if x1 < 0 then some (0, u) else (if (u.1 a0 5) ≤ x1 then some (0, u) else some (1, u)))

theorem l5_hasMiner {E : tl_E} {a0 : Nat} {x1 : Int32}  {u : tl_S} {r : Int32} {v : tl_S} (h0 : tl_T E.2.1 a0 = some 5) (h : f5_hasMiner a0 x1 u = some (r, v)) : tl_MB E mX5_hasMiner [.ref a0, .int x1] u (fun q w => q = some (.int r) ∧ w = v) := by
  unfold f5_hasMiner at h
  refine tl_start [some (.ref a0), some (.int x1)] rfl rfl rfl (Nat.le_of_ble_eq_true rfl) ?_
  refine tl_iload_n dX5_hasMiner_0 rfl (tl_if_lt (tgt := 16) dX5_hasMiner_1 (by decide) (fun c3 => ?_) (fun c3 => ?_))
  · replace h := tl_ip h c3
    exact tl_iconst (v := 0) dX5_hasMiner_16 ic_0 (tl_iretE dX5_hasMiner_17 rfl rfl h)
  · replace h := tl_in h c3
    refine tl_iload_n dX5_hasMiner_4 rfl (tl_aload_n dX5_hasMiner_5 rfl (tl_geti (f := 5) tl_ck5 dX5_hasMiner_6 fl_X5_59 (Nat.le_of_ble_eq_true rfl) rfl h0 (tl_icmp_ge (tgt := 16) dX5_hasMiner_9 (by decide) (fun c4 => ?_) (fun c4 => ?_))))
    · replace h := tl_ip h c4
      exact tl_iconst (v := 0) dX5_hasMiner_16 ic_0 (tl_iretE dX5_hasMiner_17 rfl rfl h)
    · replace h := tl_in h c4
      exact tl_iconst (v := 1) dX5_hasMiner_12 ic_1 (tl_goto (tgt := 17) dX5_hasMiner_13 (by decide) (tl_iretE dX5_hasMiner_17 rfl rfl h))

theorem cs_X5_sendMiner_2 : tl_cV mX5_sendMiner mX5_hasMiner 154 1 := ⟨cd_X5_hasMiner, ml_X5_154, im_X5_hasMiner, se_X5_hasMiner, in_X5, ⟨by decide, by decide, by decide +kernel⟩, Nat.le_of_ble_eq_true rfl, Nat.le_of_ble_eq_true rfl⟩
def f5_sendMiner (a0 : Nat) (x1 : Int32) (x2 : Int32) (u : tl_S) : Option (Int32 × tl_S) :=
  tl_b2 (f5_hasMiner a0 x1 u) (fun x6 u5 => (if x6 = 0 then some ((-1), u5) else tl_g (¬ (x1 < 0 ∨ 6 ≤ x1.toNatClampNeg)) (tl_let ((u5.1 ((a0 + 2) + (13 + x1.toNatClampNeg)) 0)) (fun x9 => tl_g (¬ (x1 < 0 ∨ 6 ≤ x1.toNatClampNeg)) (tl_let ((tl_u u5.1 ((a0 + 2) + (13 + x1.toNatClampNeg)) 0 x2, u5.2) : tl_S) (fun u11 => some (x9, u11)))))))

theorem l5_sendMiner {E : tl_E} {a0 : Nat} {x1 : Int32} {x2 : Int32}  {u : tl_S} {r : Int32} {v : tl_S} (h0 : tl_T E.2.1 a0 = some 5) (h : f5_sendMiner a0 x1 x2 u = some (r, v)) : tl_MB E mX5_sendMiner [.ref a0, .int x1, .int x2] u (fun q w => q = some (.int r) ∧ w = v) := by
  unfold f5_sendMiner at h
  refine tl_start [some (.ref a0), some (.int x1), some (.int x2), none] rfl rfl rfl (Nat.le_of_ble_eq_true rfl) ?_
  obtain ⟨x6, u5, e4, h⟩ := tl_b2i h
  refine tl_aload_n dX5_sendMiner_0 rfl (tl_iload_n dX5_sendMiner_1 rfl (tl_iV1 tl_ck5 rfl h0 (l5_hasMiner h0 e4) dX5_sendMiner_2 cs_X5_sendMiner_2 ⟨rfl, rfl⟩ ⟨Nat.zero_le _, Nat.zero_le _⟩ (Nat.le_of_ble_eq_true rfl) (tl_if_ne (tgt := 10) dX5_sendMiner_5 (by decide) (fun c7 => ?_) (fun c7 => ?_))))
  · replace h := tl_in h c7
    obtain ⟨g8, h⟩ := tl_gi h
    refine tl_aload_n dX5_sendMiner_10 rfl (tl_getr (f := 1) (o := 2) tl_ck5 dX5_sendMiner_11 fl_X5_19 (Nat.le_of_ble_eq_true rfl) rfl h0 (tl_iload_n dX5_sendMiner_14 rfl (tl_ald19 dX5_sendMiner_15 (tt_5_1 h0) (x1.toNatClampNeg) g8 rfl (tl_geti (f := 0) tl_ck7 dX5_sendMiner_16 fl_X5_99 (Nat.le_of_ble_eq_true rfl) rfl (ta_19 (tt_5_1 h0) (tl_inlt g8)) (tl_isto_n dX5_sendMiner_19 (Nat.le_of_ble_eq_true rfl) (fun x9 e => ?_))))))
    have h := tl_leteq e h
    clear e
    obtain ⟨g10, h⟩ := tl_gi h
    refine tl_aload_n dX5_sendMiner_20 rfl (tl_getr (f := 1) (o := 2) tl_ck5 dX5_sendMiner_21 fl_X5_19 (Nat.le_of_ble_eq_true rfl) rfl h0 (tl_iload_n dX5_sendMiner_24 rfl (tl_ald19 dX5_sendMiner_25 (tt_5_1 h0) (x1.toNatClampNeg) g10 rfl (tl_iload_n dX5_sendMiner_26 rfl (tl_puti (f := 0) tl_ck7 dX5_sendMiner_27 fl_X5_99 (Nat.le_of_ble_eq_true rfl) rfl rfl rfl (ta_19 (tt_5_1 h0) (tl_inlt g10)) (fun u11 e => ?_))))))
    have h := tl_leteq e h
    clear e
    exact tl_iload_n dX5_sendMiner_30 rfl (tl_iretE dX5_sendMiner_31 rfl rfl h)
  · replace h := tl_ip h c7
    exact tl_iconst (v := (-1)) dX5_sendMiner_8 ic_m1 (tl_iretE dX5_sendMiner_9 rfl rfl h)

theorem cs_X5_perform_187 : tl_cV mX5_perform mX5_letHoursGo 212 1 := ⟨cd_X5_letHoursGo, ml_X5_212, im_X5_letHoursGo, se_X5_letHoursGo, in_X5, ⟨by decide, by decide, by decide +kernel⟩, Nat.le_of_ble_eq_true rfl, Nat.le_of_ble_eq_true rfl⟩
theorem cs_X5_perform_61 : tl_cV mX5_perform mX5_addGallery 182 1 := ⟨cd_X5_addGallery, ml_X5_182, im_X5_addGallery, se_X5_addGallery, in_X5, ⟨by decide, by decide, by decide +kernel⟩, Nat.le_of_ble_eq_true rfl, Nat.le_of_ble_eq_true rfl⟩
theorem cs_X5_perform_74 : tl_cV mX5_perform mX5_addMiner 186 2 := ⟨cd_X5_addMiner, ml_X5_186, im_X5_addMiner, se_X5_addMiner, in_X5, ⟨by decide, by decide, by decide +kernel⟩, Nat.le_of_ble_eq_true rfl, Nat.le_of_ble_eq_true rfl⟩
theorem cs_X5_perform_87 : tl_cV mX5_perform mX5_sendMiner 189 2 := ⟨cd_X5_sendMiner, ml_X5_189, im_X5_sendMiner, se_X5_sendMiner, in_X5, ⟨by decide, by decide, by decide +kernel⟩, Nat.le_of_ble_eq_true rfl, Nat.le_of_ble_eq_true rfl⟩
theorem cs_X5_perform_108 : tl_cV mX5_perform mX5_addLamp 192 4 := ⟨cd_X5_addLamp, ml_X5_192, im_X5_addLamp, se_X5_addLamp, in_X5, ⟨by decide, by decide, by decide +kernel⟩, Nat.le_of_ble_eq_true rfl, Nat.le_of_ble_eq_true rfl⟩
theorem cs_X5_perform_117 : tl_cV mX5_perform mX5_bringOil 196 1 := ⟨cd_X5_bringOil, ml_X5_196, im_X5_bringOil, se_X5_bringOil, in_X5, ⟨by decide, by decide, by decide +kernel⟩, Nat.le_of_ble_eq_true rfl, Nat.le_of_ble_eq_true rfl⟩
theorem cs_X5_perform_137 : tl_cV mX5_perform mX3_addHang 199 3 := ⟨cd_X3_addHang, ml_X5_199, im_X3_addHang, se_X3_addHang, in_X3, ⟨by decide, by decide, by decide +kernel⟩, Nat.le_of_ble_eq_true rfl, Nat.le_of_ble_eq_true rfl⟩
theorem cs_X5_perform_153 : tl_cV mX5_perform mX3_addFill 203 2 := ⟨cd_X3_addFill, ml_X5_203, im_X3_addFill, se_X3_addFill, in_X3, ⟨by decide, by decide, by decide +kernel⟩, Nat.le_of_ble_eq_true rfl, Nat.le_of_ble_eq_true rfl⟩
theorem cs_X5_perform_165 : tl_cV mX5_perform mX3_removeOrder 206 1 := ⟨cd_X3_removeOrder, ml_X5_206, im_X3_removeOrder, se_X3_removeOrder, in_X3, ⟨by decide, by decide, by decide +kernel⟩, Nat.le_of_ble_eq_true rfl, Nat.le_of_ble_eq_true rfl⟩
theorem cs_X5_perform_178 : tl_cV mX5_perform mX5_changeSetting 209 2 := ⟨cd_X5_changeSetting, ml_X5_209, im_X5_changeSetting, se_X5_changeSetting, in_X5, ⟨by decide, by decide, by decide +kernel⟩, Nat.le_of_ble_eq_true rfl, Nat.le_of_ble_eq_true rfl⟩
def f5_perform (a0 : Nat) (a1 : Nat) (u : tl_S) : Option (Int32 × tl_S) :=
  (if ((u.1 a1 0)).toInt < 1 ∨ 9 < ((u.1 a1 0)).toInt then tl_b2 (f5_letHoursGo a0 (u.1 a1 1) u) (fun x7 u6 => some (x7, u6)) else (if ((u.1 a1 0)).toInt = 1 then tl_b2 (f5_addGallery a0 (u.1 a1 1) u) (fun x7 u6 => some (x7, u6)) else (if ((u.1 a1 0)).toInt = 2 then tl_b2 (f5_addMiner a0 (u.1 a1 1) (u.1 a1 2) u) (fun x7 u6 => some (x7, u6)) else (if ((u.1 a1 0)).toInt = 3 then tl_b2 (f5_sendMiner a0 (u.1 a1 1) (u.1 a1 2) u) (fun x7 u6 => some (x7, u6)) else (if ((u.1 a1 0)).toInt = 4 then tl_b2 (f5_addLamp a0 (u.1 a1 1) (u.1 a1 2) (u.1 a1 3) (u.1 a1 4) u) (fun x7 u6 => some (x7, u6)) else (if ((u.1 a1 0)).toInt = 5 then tl_b2 (f5_bringOil a0 (u.1 a1 1) u) (fun x7 u6 => some (x7, u6)) else (if ((u.1 a1 0)).toInt = 6 then tl_b2 (f3_addHang (a0 + 4) (u.1 a1 1) (u.1 a1 2) (u.1 a1 3) u) (fun x7 u6 => some (x7, u6)) else (if ((u.1 a1 0)).toInt = 7 then tl_b2 (f3_addFill (a0 + 4) (u.1 a1 1) (u.1 a1 2) u) (fun x7 u6 => some (x7, u6)) else (if ((u.1 a1 0)).toInt = 8 then tl_b2 (f3_removeOrder (a0 + 4) (u.1 a1 1) u) (fun x7 u6 => some (x7, u6)) else tl_b2 (f5_changeSetting a0 (u.1 a1 1) (u.1 a1 2) u) (fun x7 u6 => some (x7, u6)))))))))))

theorem l5_perform {E : tl_E} {a0 : Nat} {a1 : Nat}  {u : tl_S} {r : Int32} {v : tl_S} (h0 : tl_T E.2.1 a0 = some 5) (h1 : tl_T E.2.1 a1 = some 0) (h : f5_perform a0 a1 u = some (r, v)) : tl_MB E mX5_perform [.ref a0, .ref a1] u (fun q w => q = some (.int r) ∧ w = v) := by
  unfold f5_perform at h
  refine tl_start [some (.ref a0), some (.ref a1)] rfl rfl rfl (Nat.le_of_ble_eq_true rfl) ?_
  refine tl_aload_n dX5_perform_0 rfl (tl_geti (f := 0) tl_ck0 dX5_perform_1 fl_X5_135 (Nat.le_of_ble_eq_true rfl) rfl h1 (?_))
  by_cases c3 : ((u.1 a1 0)).toInt < 1 ∨ 9 < ((u.1 a1 0)).toInt
  · replace h := tl_ip h c3
    refine tl_tableOut (tgt := 182) dX5_perform_4 c3 (by decide) ?_
    obtain ⟨x7, u6, e5, h⟩ := tl_b2i h
    exact tl_aload_n dX5_perform_182 rfl (tl_aload_n dX5_perform_183 rfl (tl_geti (f := 1) tl_ck0 dX5_perform_184 fl_X5_140 (Nat.le_of_ble_eq_true rfl) rfl h1 (tl_iV1 tl_ck5 rfl h0 (l5_letHoursGo h0 e5) dX5_perform_187 cs_X5_perform_187 ⟨rfl, rfl⟩ ⟨Nat.zero_le _, Nat.zero_le _⟩ (Nat.le_of_ble_eq_true rfl) (tl_iretE dX5_perform_190 rfl rfl h))))
  replace h := tl_in h c3
  by_cases c4_1 : ((u.1 a1 0)).toInt = 1
  · replace h := tl_ip h c4_1
    refine tl_tableIn (off := 52) (tgt := 56) dX5_perform_4 (by omega) (by omega) (by rw [c4_1]; rfl) (by decide) ?_
    obtain ⟨x7, u6, e5, h⟩ := tl_b2i h
    exact tl_aload_n dX5_perform_56 rfl (tl_aload_n dX5_perform_57 rfl (tl_geti (f := 1) tl_ck0 dX5_perform_58 fl_X5_140 (Nat.le_of_ble_eq_true rfl) rfl h1 (tl_iV1 tl_ck5 rfl h0 (l5_addGallery h0 e5) dX5_perform_61 cs_X5_perform_61 ⟨rfl, rfl⟩ ⟨Nat.zero_le _, Nat.zero_le _⟩ (Nat.le_of_ble_eq_true rfl) (tl_iretE dX5_perform_64 rfl rfl h))))
  replace h := tl_in h c4_1
  by_cases c4_2 : ((u.1 a1 0)).toInt = 2
  · replace h := tl_ip h c4_2
    refine tl_tableIn (off := 61) (tgt := 65) dX5_perform_4 (by omega) (by omega) (by rw [c4_2]; rfl) (by decide) ?_
    obtain ⟨x7, u6, e5, h⟩ := tl_b2i h
    exact tl_aload_n dX5_perform_65 rfl (tl_aload_n dX5_perform_66 rfl (tl_geti (f := 1) tl_ck0 dX5_perform_67 fl_X5_140 (Nat.le_of_ble_eq_true rfl) rfl h1 (tl_aload_n dX5_perform_70 rfl (tl_geti (f := 2) tl_ck0 dX5_perform_71 fl_X5_151 (Nat.le_of_ble_eq_true rfl) rfl h1 (tl_iV2 tl_ck5 rfl h0 (l5_addMiner h0 e5) dX5_perform_74 cs_X5_perform_74 ⟨rfl, rfl⟩ ⟨Nat.zero_le _, Nat.zero_le _⟩ (Nat.le_of_ble_eq_true rfl) (tl_iretE dX5_perform_77 rfl rfl h))))))
  replace h := tl_in h c4_2
  by_cases c4_3 : ((u.1 a1 0)).toInt = 3
  · replace h := tl_ip h c4_3
    refine tl_tableIn (off := 74) (tgt := 78) dX5_perform_4 (by omega) (by omega) (by rw [c4_3]; rfl) (by decide) ?_
    obtain ⟨x7, u6, e5, h⟩ := tl_b2i h
    exact tl_aload_n dX5_perform_78 rfl (tl_aload_n dX5_perform_79 rfl (tl_geti (f := 1) tl_ck0 dX5_perform_80 fl_X5_140 (Nat.le_of_ble_eq_true rfl) rfl h1 (tl_aload_n dX5_perform_83 rfl (tl_geti (f := 2) tl_ck0 dX5_perform_84 fl_X5_151 (Nat.le_of_ble_eq_true rfl) rfl h1 (tl_iV2 tl_ck5 rfl h0 (l5_sendMiner h0 e5) dX5_perform_87 cs_X5_perform_87 ⟨rfl, rfl⟩ ⟨Nat.zero_le _, Nat.zero_le _⟩ (Nat.le_of_ble_eq_true rfl) (tl_iretE dX5_perform_90 rfl rfl h))))))
  replace h := tl_in h c4_3
  by_cases c4_4 : ((u.1 a1 0)).toInt = 4
  · replace h := tl_ip h c4_4
    refine tl_tableIn (off := 87) (tgt := 91) dX5_perform_4 (by omega) (by omega) (by rw [c4_4]; rfl) (by decide) ?_
    obtain ⟨x7, u6, e5, h⟩ := tl_b2i h
    exact tl_aload_n dX5_perform_91 rfl (tl_aload_n dX5_perform_92 rfl (tl_geti (f := 1) tl_ck0 dX5_perform_93 fl_X5_140 (Nat.le_of_ble_eq_true rfl) rfl h1 (tl_aload_n dX5_perform_96 rfl (tl_geti (f := 2) tl_ck0 dX5_perform_97 fl_X5_151 (Nat.le_of_ble_eq_true rfl) rfl h1 (tl_aload_n dX5_perform_100 rfl (tl_geti (f := 3) tl_ck0 dX5_perform_101 fl_X5_160 (Nat.le_of_ble_eq_true rfl) rfl h1 (tl_aload_n dX5_perform_104 rfl (tl_geti (f := 4) tl_ck0 dX5_perform_105 fl_X5_163 (Nat.le_of_ble_eq_true rfl) rfl h1 (tl_iV4 tl_ck5 rfl h0 (l5_addLamp h0 e5) dX5_perform_108 cs_X5_perform_108 ⟨rfl, rfl⟩ ⟨Nat.zero_le _, Nat.zero_le _⟩ (Nat.le_of_ble_eq_true rfl) (tl_iretE dX5_perform_111 rfl rfl h))))))))))
  replace h := tl_in h c4_4
  by_cases c4_5 : ((u.1 a1 0)).toInt = 5
  · replace h := tl_ip h c4_5
    refine tl_tableIn (off := 108) (tgt := 112) dX5_perform_4 (by omega) (by omega) (by rw [c4_5]; rfl) (by decide) ?_
    obtain ⟨x7, u6, e5, h⟩ := tl_b2i h
    exact tl_aload_n dX5_perform_112 rfl (tl_aload_n dX5_perform_113 rfl (tl_geti (f := 1) tl_ck0 dX5_perform_114 fl_X5_140 (Nat.le_of_ble_eq_true rfl) rfl h1 (tl_iV1 tl_ck5 rfl h0 (l5_bringOil h0 e5) dX5_perform_117 cs_X5_perform_117 ⟨rfl, rfl⟩ ⟨Nat.zero_le _, Nat.zero_le _⟩ (Nat.le_of_ble_eq_true rfl) (tl_iretE dX5_perform_120 rfl rfl h))))
  replace h := tl_in h c4_5
  by_cases c4_6 : ((u.1 a1 0)).toInt = 6
  · replace h := tl_ip h c4_6
    refine tl_tableIn (off := 117) (tgt := 121) dX5_perform_4 (by omega) (by omega) (by rw [c4_6]; rfl) (by decide) ?_
    obtain ⟨x7, u6, e5, h⟩ := tl_b2i h
    exact tl_aload_n dX5_perform_121 rfl (tl_getr (f := 3) (o := 4) tl_ck5 dX5_perform_122 fl_X5_32 (Nat.le_of_ble_eq_true rfl) rfl h0 (tl_aload_n dX5_perform_125 rfl (tl_geti (f := 1) tl_ck0 dX5_perform_126 fl_X5_140 (Nat.le_of_ble_eq_true rfl) rfl h1 (tl_aload_n dX5_perform_129 rfl (tl_geti (f := 2) tl_ck0 dX5_perform_130 fl_X5_151 (Nat.le_of_ble_eq_true rfl) rfl h1 (tl_aload_n dX5_perform_133 rfl (tl_geti (f := 3) tl_ck0 dX5_perform_134 fl_X5_160 (Nat.le_of_ble_eq_true rfl) rfl h1 (tl_iV3 tl_ck3 rfl (tt_5_3 h0) (l3_addHang (tt_5_3 h0) e5) dX5_perform_137 cs_X5_perform_137 ⟨rfl, rfl⟩ ⟨Nat.zero_le _, Nat.zero_le _⟩ (Nat.le_of_ble_eq_true rfl) (tl_iretE dX5_perform_140 rfl rfl h)))))))))
  replace h := tl_in h c4_6
  by_cases c4_7 : ((u.1 a1 0)).toInt = 7
  · replace h := tl_ip h c4_7
    refine tl_tableIn (off := 137) (tgt := 141) dX5_perform_4 (by omega) (by omega) (by rw [c4_7]; rfl) (by decide) ?_
    obtain ⟨x7, u6, e5, h⟩ := tl_b2i h
    exact tl_aload_n dX5_perform_141 rfl (tl_getr (f := 3) (o := 4) tl_ck5 dX5_perform_142 fl_X5_32 (Nat.le_of_ble_eq_true rfl) rfl h0 (tl_aload_n dX5_perform_145 rfl (tl_geti (f := 1) tl_ck0 dX5_perform_146 fl_X5_140 (Nat.le_of_ble_eq_true rfl) rfl h1 (tl_aload_n dX5_perform_149 rfl (tl_geti (f := 2) tl_ck0 dX5_perform_150 fl_X5_151 (Nat.le_of_ble_eq_true rfl) rfl h1 (tl_iV2 tl_ck3 rfl (tt_5_3 h0) (l3_addFill (tt_5_3 h0) e5) dX5_perform_153 cs_X5_perform_153 ⟨rfl, rfl⟩ ⟨Nat.zero_le _, Nat.zero_le _⟩ (Nat.le_of_ble_eq_true rfl) (tl_iretE dX5_perform_156 rfl rfl h)))))))
  replace h := tl_in h c4_7
  by_cases c4_8 : ((u.1 a1 0)).toInt = 8
  · replace h := tl_ip h c4_8
    refine tl_tableIn (off := 153) (tgt := 157) dX5_perform_4 (by omega) (by omega) (by rw [c4_8]; rfl) (by decide) ?_
    obtain ⟨x7, u6, e5, h⟩ := tl_b2i h
    exact tl_aload_n dX5_perform_157 rfl (tl_getr (f := 3) (o := 4) tl_ck5 dX5_perform_158 fl_X5_32 (Nat.le_of_ble_eq_true rfl) rfl h0 (tl_aload_n dX5_perform_161 rfl (tl_geti (f := 1) tl_ck0 dX5_perform_162 fl_X5_140 (Nat.le_of_ble_eq_true rfl) rfl h1 (tl_iV1 tl_ck3 rfl (tt_5_3 h0) (l3_removeOrder (tt_5_3 h0) e5) dX5_perform_165 cs_X5_perform_165 ⟨rfl, rfl⟩ ⟨Nat.zero_le _, Nat.zero_le _⟩ (Nat.le_of_ble_eq_true rfl) (tl_iretE dX5_perform_168 rfl rfl h)))))
  replace h := tl_in h c4_8
  have c4_9 : ((u.1 a1 0)).toInt = 9 := by omega
  refine tl_tableIn (off := 165) (tgt := 169) dX5_perform_4 (by omega) (by omega) (by rw [c4_9]; rfl) (by decide) ?_
  obtain ⟨x7, u6, e5, h⟩ := tl_b2i h
  exact tl_aload_n dX5_perform_169 rfl (tl_aload_n dX5_perform_170 rfl (tl_geti (f := 1) tl_ck0 dX5_perform_171 fl_X5_140 (Nat.le_of_ble_eq_true rfl) rfl h1 (tl_aload_n dX5_perform_174 rfl (tl_geti (f := 2) tl_ck0 dX5_perform_175 fl_X5_151 (Nat.le_of_ble_eq_true rfl) rfl h1 (tl_iV2 tl_ck5 rfl h0 (l5_changeSetting h0 e5) dX5_perform_178 cs_X5_perform_178 ⟨rfl, rfl⟩ ⟨Nat.zero_le _, Nat.zero_le _⟩ (Nat.le_of_ble_eq_true rfl) (tl_iretE dX5_perform_181 rfl rfl h))))))

theorem cs_X5_hasCell_2 : tl_cV mX5_hasCell mX5_hasGallery 89 1 := ⟨cd_X5_hasGallery, ml_X5_89, im_X5_hasGallery, se_X5_hasGallery, in_X5, ⟨by decide, by decide, by decide +kernel⟩, Nat.le_of_ble_eq_true rfl, Nat.le_of_ble_eq_true rfl⟩
def f5_hasCell (a0 : Nat) (x1 : Int32) (x2 : Int32) (u : tl_S) : Option (Int32 × tl_S) :=
  tl_b2 (f5_hasGallery a0 x1 u) (fun x6 u5 => (if x6 = 0 then some (0, u5) else (if x2 < 0 then some (0, u5) else tl_g (¬ (x1 < 0 ∨ 3 ≤ x1.toNatClampNeg)) ((if (u5.1 ((a0 + 1) + (11 + x1.toNatClampNeg)) 0) ≤ x2 then some (0, u5) else some (1, u5))))))

theorem l5_hasCell {E : tl_E} {a0 : Nat} {x1 : Int32} {x2 : Int32}  {u : tl_S} {r : Int32} {v : tl_S} (h0 : tl_T E.2.1 a0 = some 5) (h : f5_hasCell a0 x1 x2 u = some (r, v)) : tl_MB E mX5_hasCell [.ref a0, .int x1, .int x2] u (fun q w => q = some (.int r) ∧ w = v) := by
  unfold f5_hasCell at h
  refine tl_start [some (.ref a0), some (.int x1), some (.int x2)] rfl rfl rfl (Nat.le_of_ble_eq_true rfl) ?_
  obtain ⟨x6, u5, e4, h⟩ := tl_b2i h
  refine tl_aload_n dX5_hasCell_0 rfl (tl_iload_n dX5_hasCell_1 rfl (tl_iV1 tl_ck5 rfl h0 (l5_hasGallery h0 e4) dX5_hasCell_2 cs_X5_hasCell_2 ⟨rfl, rfl⟩ ⟨Nat.zero_le _, Nat.zero_le _⟩ (Nat.le_of_ble_eq_true rfl) (tl_if_eq (tgt := 29) dX5_hasCell_5 (by decide) (fun c7 => ?_) (fun c7 => ?_))))
  · replace h := tl_ip h c7
    exact tl_iconst (v := 0) dX5_hasCell_29 ic_0 (tl_iretE dX5_hasCell_30 rfl rfl h)
  · replace h := tl_in h c7
    refine tl_iload_n dX5_hasCell_8 rfl (tl_if_lt (tgt := 29) dX5_hasCell_9 (by decide) (fun c8 => ?_) (fun c8 => ?_))
    · replace h := tl_ip h c8
      exact tl_iconst (v := 0) dX5_hasCell_29 ic_0 (tl_iretE dX5_hasCell_30 rfl rfl h)
    · replace h := tl_in h c8
      obtain ⟨g9, h⟩ := tl_gi h
      refine tl_iload_n dX5_hasCell_12 rfl (tl_aload_n dX5_hasCell_13 rfl (tl_getr (f := 0) (o := 1) tl_ck5 dX5_hasCell_14 fl_X5_11 (Nat.le_of_ble_eq_true rfl) rfl h0 (tl_iload_n dX5_hasCell_17 rfl (tl_ald18 dX5_hasCell_18 (tt_5_0 h0) (x1.toNatClampNeg) g9 rfl (tl_geti (f := 0) tl_ck1 dX5_hasCell_19 fl_X5_93 (Nat.le_of_ble_eq_true rfl) rfl (ta_18 (tt_5_0 h0) (tl_inlt g9)) (tl_icmp_ge (tgt := 29) dX5_hasCell_22 (by decide) (fun c10 => ?_) (fun c10 => ?_)))))))
      · replace h := tl_ip h c10
        exact tl_iconst (v := 0) dX5_hasCell_29 ic_0 (tl_iretE dX5_hasCell_30 rfl rfl h)
      · replace h := tl_in h c10
        exact tl_iconst (v := 1) dX5_hasCell_25 ic_1 (tl_goto (tgt := 30) dX5_hasCell_26 (by decide) (tl_iretE dX5_hasCell_30 rfl rfl h))

theorem cs_X5_isSetting_22 : tl_cN mX5_isSetting mX9_isWithin 143 3 := ⟨cd_X9_isWithin, by decide +kernel, sm_X9_isWithin, in_X9, ⟨by decide, by decide, by decide +kernel⟩, Nat.le_of_ble_eq_true rfl, Nat.le_of_ble_eq_true rfl⟩
theorem cs_X5_isSetting_8 : tl_cN mX5_isSetting mX9_isWithin 143 3 := ⟨cd_X9_isWithin, by decide +kernel, sm_X9_isWithin, in_X9, ⟨by decide, by decide, by decide +kernel⟩, Nat.le_of_ble_eq_true rfl, Nat.le_of_ble_eq_true rfl⟩
def f5_isSetting (x1 : Int32) (x2 : Int32) (u : tl_S) : Option (Int32 × tl_S) :=
  (if x1 = 0 then tl_b2 (f9_isWithin x2 0 12 u) (fun x7 u6 => (if x7 = 0 then (if x1 = 1 then tl_b2 (f9_isWithin x2 0 1 u6) (fun x12 u11 => (if x12 = 0 then some (0, u11) else some (1, u11))) else some (0, u6)) else some (1, u6))) else (if x1 = 1 then tl_b2 (f9_isWithin x2 0 1 u) (fun x8 u7 => (if x8 = 0 then some (0, u7) else some (1, u7))) else some (0, u)))

theorem l5_isSetting {E : tl_E} {x1 : Int32} {x2 : Int32}  {u : tl_S} {r : Int32} {v : tl_S}  (h : f5_isSetting x1 x2 u = some (r, v)) : tl_MB E mX5_isSetting [.int x1, .int x2] u (fun q w => q = some (.int r) ∧ w = v) := by
  unfold f5_isSetting at h
  refine tl_start [some (.int x1), some (.int x2)] rfl rfl rfl (Nat.le_of_ble_eq_true rfl) ?_
  refine tl_iload_n dX5_isSetting_0 rfl (tl_if_ne (tgt := 14) dX5_isSetting_1 (by decide) (fun c4 => ?_) (fun c4 => ?_))
  · replace h := tl_in h c4
    refine tl_iload_n dX5_isSetting_14 rfl (tl_iconst (v := 1) dX5_isSetting_15 ic_1 (tl_icmp_ne (tgt := 32) dX5_isSetting_16 (by decide) (fun c5 => ?_) (fun c5 => ?_)))
    · replace h := tl_in h c5
      exact tl_iconst (v := 0) dX5_isSetting_32 ic_0 (tl_iretE dX5_isSetting_33 rfl rfl h)
    · replace h := tl_ip h c5
      obtain ⟨x8, u7, e6, h⟩ := tl_b2i h
      refine tl_iload_n dX5_isSetting_19 rfl (tl_iconst (v := 0) dX5_isSetting_20 ic_0 (tl_iconst (v := 1) dX5_isSetting_21 ic_1 (tl_iN3 (l9_isWithin  e6) dX5_isSetting_22 cs_X5_isSetting_22 ⟨rfl, rfl⟩ ⟨Nat.zero_le _, Nat.zero_le _⟩ (Nat.le_of_ble_eq_true rfl) (tl_if_eq (tgt := 32) dX5_isSetting_25 (by decide) (fun c9 => ?_) (fun c9 => ?_)))))
      · replace h := tl_ip h c9
        exact tl_iconst (v := 0) dX5_isSetting_32 ic_0 (tl_iretE dX5_isSetting_33 rfl rfl h)
      · replace h := tl_in h c9
        exact tl_iconst (v := 1) dX5_isSetting_28 ic_1 (tl_goto (tgt := 33) dX5_isSetting_29 (by decide) (tl_iretE dX5_isSetting_33 rfl rfl h))
  · replace h := tl_ip h c4
    obtain ⟨x7, u6, e5, h⟩ := tl_b2i h
    refine tl_iload_n dX5_isSetting_4 rfl (tl_iconst (v := 0) dX5_isSetting_5 ic_0 (tl_bipush (v := 12) dX5_isSetting_6 bp_12 (tl_iN3 (l9_isWithin  e5) dX5_isSetting_8 cs_X5_isSetting_8 ⟨rfl, rfl⟩ ⟨Nat.zero_le _, Nat.zero_le _⟩ (Nat.le_of_ble_eq_true rfl) (tl_if_ne (tgt := 28) dX5_isSetting_11 (by decide) (fun c8 => ?_) (fun c8 => ?_)))))
    · replace h := tl_in h c8
      exact tl_iconst (v := 1) dX5_isSetting_28 ic_1 (tl_goto (tgt := 33) dX5_isSetting_29 (by decide) (tl_iretE dX5_isSetting_33 rfl rfl h))
    · replace h := tl_ip h c8
      refine tl_iload_n dX5_isSetting_14 rfl (tl_iconst (v := 1) dX5_isSetting_15 ic_1 (tl_icmp_ne (tgt := 32) dX5_isSetting_16 (by decide) (fun c9 => ?_) (fun c9 => ?_)))
      · replace h := tl_in h c9
        exact tl_iconst (v := 0) dX5_isSetting_32 ic_0 (tl_iretE dX5_isSetting_33 rfl rfl h)
      · replace h := tl_ip h c9
        obtain ⟨x12, u11, e10, h⟩ := tl_b2i h
        refine tl_iload_n dX5_isSetting_19 rfl (tl_iconst (v := 0) dX5_isSetting_20 ic_0 (tl_iconst (v := 1) dX5_isSetting_21 ic_1 (tl_iN3 (l9_isWithin  e10) dX5_isSetting_22 cs_X5_isSetting_22 ⟨rfl, rfl⟩ ⟨Nat.zero_le _, Nat.zero_le _⟩ (Nat.le_of_ble_eq_true rfl) (tl_if_eq (tgt := 32) dX5_isSetting_25 (by decide) (fun c13 => ?_) (fun c13 => ?_)))))
        · replace h := tl_ip h c13
          exact tl_iconst (v := 0) dX5_isSetting_32 ic_0 (tl_iretE dX5_isSetting_33 rfl rfl h)
        · replace h := tl_in h c13
          exact tl_iconst (v := 1) dX5_isSetting_28 ic_1 (tl_goto (tgt := 33) dX5_isSetting_29 (by decide) (tl_iretE dX5_isSetting_33 rfl rfl h))

theorem cs_X5_refusal_384 : tl_cN mX5_refusal mX9_isWithin 143 3 := ⟨cd_X9_isWithin, by decide +kernel, sm_X9_isWithin, in_X9, ⟨by decide, by decide, by decide +kernel⟩, Nat.le_of_ble_eq_true rfl, Nat.le_of_ble_eq_true rfl⟩
theorem cs_X5_refusal_388 : tl_cN mX5_refusal mX9_refusalOf 147 3 := ⟨cd_X9_refusalOf, by decide +kernel, sm_X9_refusalOf, in_X9, ⟨by decide, by decide, by decide +kernel⟩, Nat.le_of_ble_eq_true rfl, Nat.le_of_ble_eq_true rfl⟩
theorem cs_X5_refusal_64 : tl_cN mX5_refusal mX9_isWithin 143 3 := ⟨cd_X9_isWithin, by decide +kernel, sm_X9_isWithin, in_X9, ⟨by decide, by decide, by decide +kernel⟩, Nat.le_of_ble_eq_true rfl, Nat.le_of_ble_eq_true rfl⟩
theorem cs_X5_refusal_80 : tl_cN mX5_refusal mX9_refusalOf 147 3 := ⟨cd_X9_refusalOf, by decide +kernel, sm_X9_refusalOf, in_X9, ⟨by decide, by decide, by decide +kernel⟩, Nat.le_of_ble_eq_true rfl, Nat.le_of_ble_eq_true rfl⟩
theorem cs_X5_refusal_89 : tl_cV mX5_refusal mX5_hasGallery 89 1 := ⟨cd_X5_hasGallery, ml_X5_89, im_X5_hasGallery, se_X5_hasGallery, in_X5, ⟨by decide, by decide, by decide +kernel⟩, Nat.le_of_ble_eq_true rfl, Nat.le_of_ble_eq_true rfl⟩
theorem cs_X5_refusal_98 : tl_cN mX5_refusal mX9_isWithin 143 3 := ⟨cd_X9_isWithin, by decide +kernel, sm_X9_isWithin, in_X9, ⟨by decide, by decide, by decide +kernel⟩, Nat.le_of_ble_eq_true rfl, Nat.le_of_ble_eq_true rfl⟩
theorem cs_X5_refusal_115 : tl_cN mX5_refusal mX9_refusalOf 147 3 := ⟨cd_X9_refusalOf, by decide +kernel, sm_X9_refusalOf, in_X9, ⟨by decide, by decide, by decide +kernel⟩, Nat.le_of_ble_eq_true rfl, Nat.le_of_ble_eq_true rfl⟩
theorem cs_X5_refusal_124 : tl_cV mX5_refusal mX5_hasMiner 154 1 := ⟨cd_X5_hasMiner, ml_X5_154, im_X5_hasMiner, se_X5_hasMiner, in_X5, ⟨by decide, by decide, by decide +kernel⟩, Nat.le_of_ble_eq_true rfl, Nat.le_of_ble_eq_true rfl⟩
theorem cs_X5_refusal_148 : tl_cN mX5_refusal mX9_refusalOf 147 3 := ⟨cd_X9_refusalOf, by decide +kernel, sm_X9_refusalOf, in_X9, ⟨by decide, by decide, by decide +kernel⟩, Nat.le_of_ble_eq_true rfl, Nat.le_of_ble_eq_true rfl⟩
theorem cs_X5_refusal_135 : tl_cV mX5_refusal mX5_hasGallery 89 1 := ⟨cd_X5_hasGallery, ml_X5_89, im_X5_hasGallery, se_X5_hasGallery, in_X5, ⟨by decide, by decide, by decide +kernel⟩, Nat.le_of_ble_eq_true rfl, Nat.le_of_ble_eq_true rfl⟩
theorem cs_X5_refusal_161 : tl_cV mX5_refusal mX5_hasCell 157 2 := ⟨cd_X5_hasCell, ml_X5_157, im_X5_hasCell, se_X5_hasCell, in_X5, ⟨by decide, by decide, by decide +kernel⟩, Nat.le_of_ble_eq_true rfl, Nat.le_of_ble_eq_true rfl⟩
theorem cs_X5_refusal_171 : tl_cN mX5_refusal mX9_isWithin 143 3 := ⟨cd_X9_isWithin, by decide +kernel, sm_X9_isWithin, in_X9, ⟨by decide, by decide, by decide +kernel⟩, Nat.le_of_ble_eq_true rfl, Nat.le_of_ble_eq_true rfl⟩
theorem cs_X5_refusal_209 : tl_cN mX5_refusal mX9_refusalOf 147 3 := ⟨cd_X9_refusalOf, by decide +kernel, sm_X9_refusalOf, in_X9, ⟨by decide, by decide, by decide +kernel⟩, Nat.le_of_ble_eq_true rfl, Nat.le_of_ble_eq_true rfl⟩
theorem cs_X5_refusal_184 : tl_cN mX5_refusal mX9_isWithin 143 3 := ⟨cd_X9_isWithin, by decide +kernel, sm_X9_isWithin, in_X9, ⟨by decide, by decide, by decide +kernel⟩, Nat.le_of_ble_eq_true rfl, Nat.le_of_ble_eq_true rfl⟩
theorem cs_X5_refusal_222 : tl_cN mX5_refusal mX9_isWithin 143 3 := ⟨cd_X9_isWithin, by decide +kernel, sm_X9_isWithin, in_X9, ⟨by decide, by decide, by decide +kernel⟩, Nat.le_of_ble_eq_true rfl, Nat.le_of_ble_eq_true rfl⟩
theorem cs_X5_refusal_245 : tl_cN mX5_refusal mX9_refusalOf 147 3 := ⟨cd_X9_refusalOf, by decide +kernel, sm_X9_refusalOf, in_X9, ⟨by decide, by decide, by decide +kernel⟩, Nat.le_of_ble_eq_true rfl, Nat.le_of_ble_eq_true rfl⟩
theorem cs_X5_refusal_254 : tl_cV mX5_refusal mX5_hasLamp 166 1 := ⟨cd_X5_hasLamp, ml_X5_166, im_X5_hasLamp, se_X5_hasLamp, in_X5, ⟨by decide, by decide, by decide +kernel⟩, Nat.le_of_ble_eq_true rfl, Nat.le_of_ble_eq_true rfl⟩
theorem cs_X5_refusal_285 : tl_cV mX5_refusal mX3_hasRoomForOrder 169 0 := ⟨cd_X3_hasRoomForOrder, ml_X5_169, im_X3_hasRoomForOrder, se_X3_hasRoomForOrder, in_X3, ⟨by decide, by decide, by decide +kernel⟩, Nat.le_of_ble_eq_true rfl, Nat.le_of_ble_eq_true rfl⟩
theorem cs_X5_refusal_288 : tl_cN mX5_refusal mX9_refusalOf 147 3 := ⟨cd_X9_refusalOf, by decide +kernel, sm_X9_refusalOf, in_X9, ⟨by decide, by decide, by decide +kernel⟩, Nat.le_of_ble_eq_true rfl, Nat.le_of_ble_eq_true rfl⟩
theorem cs_X5_refusal_269 : tl_cV mX5_refusal mX5_hasCell 157 2 := ⟨cd_X5_hasCell, ml_X5_157, im_X5_hasCell, se_X5_hasCell, in_X5, ⟨by decide, by decide, by decide +kernel⟩, Nat.le_of_ble_eq_true rfl, Nat.le_of_ble_eq_true rfl⟩
theorem cs_X5_refusal_297 : tl_cV mX5_refusal mX5_hasLamp 166 1 := ⟨cd_X5_hasLamp, ml_X5_166, im_X5_hasLamp, se_X5_hasLamp, in_X5, ⟨by decide, by decide, by decide +kernel⟩, Nat.le_of_ble_eq_true rfl, Nat.le_of_ble_eq_true rfl⟩
theorem cs_X5_refusal_307 : tl_cN mX5_refusal mX9_isWithin 143 3 := ⟨cd_X9_isWithin, by decide +kernel, sm_X9_isWithin, in_X9, ⟨by decide, by decide, by decide +kernel⟩, Nat.le_of_ble_eq_true rfl, Nat.le_of_ble_eq_true rfl⟩
theorem cs_X5_refusal_314 : tl_cV mX5_refusal mX3_hasRoomForOrder 169 0 := ⟨cd_X3_hasRoomForOrder, ml_X5_169, im_X3_hasRoomForOrder, se_X3_hasRoomForOrder, in_X3, ⟨by decide, by decide, by decide +kernel⟩, Nat.le_of_ble_eq_true rfl, Nat.le_of_ble_eq_true rfl⟩
theorem cs_X5_refusal_317 : tl_cN mX5_refusal mX9_refusalOf 147 3 := ⟨cd_X9_refusalOf, by decide +kernel, sm_X9_refusalOf, in_X9, ⟨by decide, by decide, by decide +kernel⟩, Nat.le_of_ble_eq_true rfl, Nat.le_of_ble_eq_true rfl⟩
theorem cs_X5_refusal_329 : tl_cV mX5_refusal mX3_hasOrder 173 1 := ⟨cd_X3_hasOrder, ml_X5_173, im_X3_hasOrder, se_X3_hasOrder, in_X3, ⟨by decide, by decide, by decide +kernel⟩, Nat.le_of_ble_eq_true rfl, Nat.le_of_ble_eq_true rfl⟩
theorem cs_X5_refusal_355 : tl_cN mX5_refusal mX9_refusalOf 147 3 := ⟨cd_X9_refusalOf, by decide +kernel, sm_X9_refusalOf, in_X9, ⟨by decide, by decide, by decide +kernel⟩, Nat.le_of_ble_eq_true rfl, Nat.le_of_ble_eq_true rfl⟩
theorem cs_X5_refusal_344 : tl_cV mX5_refusal mX3_handsAreFree 176 0 := ⟨cd_X3_handsAreFree, ml_X5_176, im_X3_handsAreFree, se_X3_handsAreFree, in_X3, ⟨by decide, by decide, by decide +kernel⟩, Nat.le_of_ble_eq_true rfl, Nat.le_of_ble_eq_true rfl⟩
theorem cs_X5_refusal_368 : tl_cS mX5_refusal mX5_isSetting 179 2 := ⟨cd_X5_isSetting, ml_X5_179, sm_X5_isSetting, in_X5, ⟨by decide, by decide, by decide +kernel⟩, Nat.le_of_ble_eq_true rfl, Nat.le_of_ble_eq_true rfl⟩
theorem cs_X5_refusal_372 : tl_cN mX5_refusal mX9_refusalOf 147 3 := ⟨cd_X9_refusalOf, by decide +kernel, sm_X9_refusalOf, in_X9, ⟨by decide, by decide, by decide +kernel⟩, Nat.le_of_ble_eq_true rfl, Nat.le_of_ble_eq_true rfl⟩
def f5_refusal (a0 : Nat) (a1 : Nat) (u : tl_S) : Option (Int32 × tl_S) :=
  (if ((u.1 a1 0)).toInt < 1 ∨ 9 < ((u.1 a1 0)).toInt then tl_b2 (f9_isWithin (u.1 a1 1) 1 60 u) (fun x7 u6 => tl_b2 (f9_refusalOf 1 x7 1 u6) (fun x10 u9 => some (x10, u9))) else (if ((u.1 a1 0)).toInt = 1 then tl_b2 (f9_isWithin (u.1 a1 1) 1 60 u) (fun x7 u6 => (if 3 ≤ (u6.1 a0 4) then tl_b2 (f9_refusalOf 1 x7 0 u6) (fun x11 u10 => some (x11, u10)) else tl_b2 (f9_refusalOf 1 x7 1 u6) (fun x11 u10 => some (x11, u10)))) else (if ((u.1 a1 0)).toInt = 2 then tl_b2 (f5_hasGallery a0 (u.1 a1 1) u) (fun x7 u6 => tl_b2 (f9_isWithin (u6.1 a1 2) 1 5 u6) (fun x10 u9 => (if 6 ≤ (u9.1 a0 5) then tl_b2 (f9_refusalOf x7 x10 0 u9) (fun x14 u13 => some (x14, u13)) else tl_b2 (f9_refusalOf x7 x10 1 u9) (fun x14 u13 => some (x14, u13))))) else (if ((u.1 a1 0)).toInt = 3 then tl_b2 (f5_hasMiner a0 (u.1 a1 1) u) (fun x7 u6 => (if x7 = 0 then tl_b2 (f9_refusalOf 0 1 1 u6) (fun x11 u10 => some (x11, u10)) else tl_b2 (f5_hasGallery a0 (u6.1 a1 2) u6) (fun x11 u10 => (if x11 = 0 then tl_b2 (f9_refusalOf 0 1 1 u10) (fun x15 u14 => some (x15, u14)) else tl_b2 (f9_refusalOf 1 1 1 u10) (fun x15 u14 => some (x15, u14)))))) else (if ((u.1 a1 0)).toInt = 4 then tl_b2 (f5_hasCell a0 (u.1 a1 1) (u.1 a1 2) u) (fun x7 u6 => tl_b2 (f9_isWithin (u6.1 a1 3) 1 9 u6) (fun x10 u9 => (if x10 = 0 then (if 8 ≤ (u9.1 a0 6) then tl_b2 (f9_refusalOf x7 0 0 u9) (fun x15 u14 => some (x15, u14)) else tl_b2 (f9_refusalOf x7 0 1 u9) (fun x15 u14 => some (x15, u14))) else tl_b2 (f9_isWithin (u9.1 a1 4) 0 99 u9) (fun x14 u13 => (if x14 = 0 then (if 8 ≤ (u13.1 a0 6) then tl_b2 (f9_refusalOf x7 0 0 u13) (fun x19 u18 => some (x19, u18)) else tl_b2 (f9_refusalOf x7 0 1 u13) (fun x19 u18 => some (x19, u18))) else (if 8 ≤ (u13.1 a0 6) then tl_b2 (f9_refusalOf x7 1 0 u13) (fun x19 u18 => some (x19, u18)) else tl_b2 (f9_refusalOf x7 1 1 u13) (fun x19 u18 => some (x19, u18)))))))) else (if ((u.1 a1 0)).toInt = 5 then tl_b2 (f9_isWithin (u.1 a1 1) 0 999 u) (fun x7 u6 => (if (9999 - (u6.1 a0 8)) < (u6.1 a1 1) then tl_b2 (f9_refusalOf 1 x7 0 u6) (fun x11 u10 => some (x11, u10)) else tl_b2 (f9_refusalOf 1 x7 1 u6) (fun x11 u10 => some (x11, u10)))) else (if ((u.1 a1 0)).toInt = 6 then tl_b2 (f5_hasLamp a0 (u.1 a1 1) u) (fun x7 u6 => (if x7 = 0 then tl_b2 (f3_hasRoomForOrder (a0 + 4) u6) (fun x11 u10 => tl_b2 (f9_refusalOf 0 1 x11 u10) (fun x14 u13 => some (x14, u13))) else tl_b2 (f5_hasCell a0 (u6.1 a1 2) (u6.1 a1 3) u6) (fun x11 u10 => (if x11 = 0 then tl_b2 (f3_hasRoomForOrder (a0 + 4) u10) (fun x15 u14 => tl_b2 (f9_refusalOf 0 1 x15 u14) (fun x18 u17 => some (x18, u17))) else tl_b2 (f3_hasRoomForOrder (a0 + 4) u10) (fun x15 u14 => tl_b2 (f9_refusalOf 1 1 x15 u14) (fun x18 u17 => some (x18, u17))))))) else (if ((u.1 a1 0)).toInt = 7 then tl_b2 (f5_hasLamp a0 (u.1 a1 1) u) (fun x7 u6 => tl_b2 (f9_isWithin (u6.1 a1 2) 1 99 u6) (fun x10 u9 => tl_b2 (f3_hasRoomForOrder (a0 + 4) u9) (fun x13 u12 => tl_b2 (f9_refusalOf x7 x10 x13 u12) (fun x16 u15 => some (x16, u15))))) else (if ((u.1 a1 0)).toInt = 8 then tl_b2 (f3_hasOrder (a0 + 4) (u.1 a1 1) u) (fun x7 u6 => (if (u6.1 a1 1) = 0 then tl_b2 (f3_handsAreFree (a0 + 4) u6) (fun x11 u10 => (if x11 = 0 then tl_b2 (f9_refusalOf x7 1 0 u10) (fun x15 u14 => some (x15, u14)) else tl_b2 (f9_refusalOf x7 1 1 u10) (fun x15 u14 => some (x15, u14)))) else tl_b2 (f9_refusalOf x7 1 1 u6) (fun x11 u10 => some (x11, u10)))) else tl_b2 (f5_isSetting (u.1 a1 1) (u.1 a1 2) u) (fun x7 u6 => tl_b2 (f9_refusalOf 1 x7 1 u6) (fun x10 u9 => some (x10, u9))))))))))))

theorem l5_refusal {E : tl_E} {a0 : Nat} {a1 : Nat}  {u : tl_S} {r : Int32} {v : tl_S} (h0 : tl_T E.2.1 a0 = some 5) (h1 : tl_T E.2.1 a1 = some 0) (h : f5_refusal a0 a1 u = some (r, v)) : tl_MB E mX5_refusal [.ref a0, .ref a1] u (fun q w => q = some (.int r) ∧ w = v) := by
  unfold f5_refusal at h
  refine tl_start [some (.ref a0), some (.ref a1)] rfl rfl rfl (Nat.le_of_ble_eq_true rfl) ?_
  refine tl_aload_n dX5_refusal_0 rfl (tl_geti (f := 0) tl_ck0 dX5_refusal_1 fl_X5_135 (Nat.le_of_ble_eq_true rfl) rfl h1 (?_))
  by_cases c3 : ((u.1 a1 0)).toInt < 1 ∨ 9 < ((u.1 a1 0)).toInt
  · replace h := tl_ip h c3
    refine tl_tableOut (tgt := 376) dX5_refusal_4 c3 (by decide) ?_
    obtain ⟨x7, u6, e5, h⟩ := tl_b2i h
    obtain ⟨x10, u9, e8, h⟩ := tl_b2i h
    exact tl_iconst (v := 1) dX5_refusal_376 ic_1 (tl_aload_n dX5_refusal_377 rfl (tl_geti (f := 1) tl_ck0 dX5_refusal_378 fl_X5_140 (Nat.le_of_ble_eq_true rfl) rfl h1 (tl_iconst (v := 1) dX5_refusal_381 ic_1 (tl_bipush (v := 60) dX5_refusal_382 bp_60 (tl_iN3 (l9_isWithin  e5) dX5_refusal_384 cs_X5_refusal_384 ⟨rfl, rfl⟩ ⟨Nat.zero_le _, Nat.zero_le _⟩ (Nat.le_of_ble_eq_true rfl) (tl_iconst (v := 1) dX5_refusal_387 ic_1 (tl_iN3 (l9_refusalOf  e8) dX5_refusal_388 cs_X5_refusal_388 ⟨rfl, rfl⟩ ⟨Nat.zero_le _, Nat.zero_le _⟩ (Nat.le_of_ble_eq_true rfl) (tl_iretE dX5_refusal_391 rfl rfl h))))))))
  replace h := tl_in h c3
  by_cases c4_1 : ((u.1 a1 0)).toInt = 1
  · replace h := tl_ip h c4_1
    refine tl_tableIn (off := 52) (tgt := 56) dX5_refusal_4 (by omega) (by omega) (by rw [c4_1]; rfl) (by decide) ?_
    obtain ⟨x7, u6, e5, h⟩ := tl_b2i h
    refine tl_iconst (v := 1) dX5_refusal_56 ic_1 (tl_aload_n dX5_refusal_57 rfl (tl_geti (f := 1) tl_ck0 dX5_refusal_58 fl_X5_140 (Nat.le_of_ble_eq_true rfl) rfl h1 (tl_iconst (v := 1) dX5_refusal_61 ic_1 (tl_bipush (v := 60) dX5_refusal_62 bp_60 (tl_iN3 (l9_isWithin  e5) dX5_refusal_64 cs_X5_refusal_64 ⟨rfl, rfl⟩ ⟨Nat.zero_le _, Nat.zero_le _⟩ (Nat.le_of_ble_eq_true rfl) (tl_aload_n dX5_refusal_67 rfl (tl_geti (f := 4) tl_ck5 dX5_refusal_68 fl_X5_56 (Nat.le_of_ble_eq_true rfl) rfl h0 (tl_iconst (v := 3) dX5_refusal_71 ic_3 (tl_icmp_ge (tgt := 79) dX5_refusal_72 (by decide) (fun c8 => ?_) (fun c8 => ?_))))))))))
    · replace h := tl_ip h c8
      obtain ⟨x11, u10, e9, h⟩ := tl_b2i h
      exact tl_iconst (v := 0) dX5_refusal_79 ic_0 (tl_iN3 (l9_refusalOf  e9) dX5_refusal_80 cs_X5_refusal_80 ⟨rfl, rfl⟩ ⟨Nat.zero_le _, Nat.zero_le _⟩ (Nat.le_of_ble_eq_true rfl) (tl_iretE dX5_refusal_83 rfl rfl h))
    · replace h := tl_in h c8
      obtain ⟨x11, u10, e9, h⟩ := tl_b2i h
      exact tl_iconst (v := 1) dX5_refusal_75 ic_1 (tl_goto (tgt := 80) dX5_refusal_76 (by decide) (tl_iN3 (l9_refusalOf  e9) dX5_refusal_80 cs_X5_refusal_80 ⟨rfl, rfl⟩ ⟨Nat.zero_le _, Nat.zero_le _⟩ (Nat.le_of_ble_eq_true rfl) (tl_iretE dX5_refusal_83 rfl rfl h)))
  replace h := tl_in h c4_1
  by_cases c4_2 : ((u.1 a1 0)).toInt = 2
  · replace h := tl_ip h c4_2
    refine tl_tableIn (off := 80) (tgt := 84) dX5_refusal_4 (by omega) (by omega) (by rw [c4_2]; rfl) (by decide) ?_
    obtain ⟨x7, u6, e5, h⟩ := tl_b2i h
    obtain ⟨x10, u9, e8, h⟩ := tl_b2i h
    refine tl_aload_n dX5_refusal_84 rfl (tl_aload_n dX5_refusal_85 rfl (tl_geti (f := 1) tl_ck0 dX5_refusal_86 fl_X5_140 (Nat.le_of_ble_eq_true rfl) rfl h1 (tl_iV1 tl_ck5 rfl h0 (l5_hasGallery h0 e5) dX5_refusal_89 cs_X5_refusal_89 ⟨rfl, rfl⟩ ⟨Nat.zero_le _, Nat.zero_le _⟩ (Nat.le_of_ble_eq_true rfl) (tl_aload_n dX5_refusal_92 rfl (tl_geti (f := 2) tl_ck0 dX5_refusal_93 fl_X5_151 (Nat.le_of_ble_eq_true rfl) rfl h1 (tl_iconst (v := 1) dX5_refusal_96 ic_1 (tl_iconst (v := 5) dX5_refusal_97 ic_5 (tl_iN3 (l9_isWithin  e8) dX5_refusal_98 cs_X5_refusal_98 ⟨rfl, rfl⟩ ⟨Nat.zero_le _, Nat.zero_le _⟩ (Nat.le_of_ble_eq_true rfl) (tl_aload_n dX5_refusal_101 rfl (tl_geti (f := 5) tl_ck5 dX5_refusal_102 fl_X5_59 (Nat.le_of_ble_eq_true rfl) rfl h0 (tl_bipush (v := 6) dX5_refusal_105 bp_6 (tl_icmp_ge (tgt := 114) dX5_refusal_107 (by decide) (fun c11 => ?_) (fun c11 => ?_)))))))))))))
    · replace h := tl_ip h c11
      obtain ⟨x14, u13, e12, h⟩ := tl_b2i h
      exact tl_iconst (v := 0) dX5_refusal_114 ic_0 (tl_iN3 (l9_refusalOf  e12) dX5_refusal_115 cs_X5_refusal_115 ⟨rfl, rfl⟩ ⟨Nat.zero_le _, Nat.zero_le _⟩ (Nat.le_of_ble_eq_true rfl) (tl_iretE dX5_refusal_118 rfl rfl h))
    · replace h := tl_in h c11
      obtain ⟨x14, u13, e12, h⟩ := tl_b2i h
      exact tl_iconst (v := 1) dX5_refusal_110 ic_1 (tl_goto (tgt := 115) dX5_refusal_111 (by decide) (tl_iN3 (l9_refusalOf  e12) dX5_refusal_115 cs_X5_refusal_115 ⟨rfl, rfl⟩ ⟨Nat.zero_le _, Nat.zero_le _⟩ (Nat.le_of_ble_eq_true rfl) (tl_iretE dX5_refusal_118 rfl rfl h)))
  replace h := tl_in h c4_2
  by_cases c4_3 : ((u.1 a1 0)).toInt = 3
  · replace h := tl_ip h c4_3
    refine tl_tableIn (off := 115) (tgt := 119) dX5_refusal_4 (by omega) (by omega) (by rw [c4_3]; rfl) (by decide) ?_
    obtain ⟨x7, u6, e5, h⟩ := tl_b2i h
    refine tl_aload_n dX5_refusal_119 rfl (tl_aload_n dX5_refusal_120 rfl (tl_geti (f := 1) tl_ck0 dX5_refusal_121 fl_X5_140 (Nat.le_of_ble_eq_true rfl) rfl h1 (tl_iV1 tl_ck5 rfl h0 (l5_hasMiner h0 e5) dX5_refusal_124 cs_X5_refusal_124 ⟨rfl, rfl⟩ ⟨Nat.zero_le _, Nat.zero_le _⟩ (Nat.le_of_ble_eq_true rfl) (tl_if_eq (tgt := 145) dX5_refusal_127 (by decide) (fun c8 => ?_) (fun c8 => ?_)))))
    · replace h := tl_ip h c8
      obtain ⟨x11, u10, e9, h⟩ := tl_b2i h
      exact tl_iconst (v := 0) dX5_refusal_145 ic_0 (tl_iconst (v := 1) dX5_refusal_146 ic_1 (tl_iconst (v := 1) dX5_refusal_147 ic_1 (tl_iN3 (l9_refusalOf  e9) dX5_refusal_148 cs_X5_refusal_148 ⟨rfl, rfl⟩ ⟨Nat.zero_le _, Nat.zero_le _⟩ (Nat.le_of_ble_eq_true rfl) (tl_iretE dX5_refusal_151 rfl rfl h))))
    · replace h := tl_in h c8
      obtain ⟨x11, u10, e9, h⟩ := tl_b2i h
      refine tl_aload_n dX5_refusal_130 rfl (tl_aload_n dX5_refusal_131 rfl (tl_geti (f := 2) tl_ck0 dX5_refusal_132 fl_X5_151 (Nat.le_of_ble_eq_true rfl) rfl h1 (tl_iV1 tl_ck5 rfl h0 (l5_hasGallery h0 e9) dX5_refusal_135 cs_X5_refusal_135 ⟨rfl, rfl⟩ ⟨Nat.zero_le _, Nat.zero_le _⟩ (Nat.le_of_ble_eq_true rfl) (tl_if_eq (tgt := 145) dX5_refusal_138 (by decide) (fun c12 => ?_) (fun c12 => ?_)))))
      · replace h := tl_ip h c12
        obtain ⟨x15, u14, e13, h⟩ := tl_b2i h
        exact tl_iconst (v := 0) dX5_refusal_145 ic_0 (tl_iconst (v := 1) dX5_refusal_146 ic_1 (tl_iconst (v := 1) dX5_refusal_147 ic_1 (tl_iN3 (l9_refusalOf  e13) dX5_refusal_148 cs_X5_refusal_148 ⟨rfl, rfl⟩ ⟨Nat.zero_le _, Nat.zero_le _⟩ (Nat.le_of_ble_eq_true rfl) (tl_iretE dX5_refusal_151 rfl rfl h))))
      · replace h := tl_in h c12
        obtain ⟨x15, u14, e13, h⟩ := tl_b2i h
        exact tl_iconst (v := 1) dX5_refusal_141 ic_1 (tl_goto (tgt := 146) dX5_refusal_142 (by decide) (tl_iconst (v := 1) dX5_refusal_146 ic_1 (tl_iconst (v := 1) dX5_refusal_147 ic_1 (tl_iN3 (l9_refusalOf  e13) dX5_refusal_148 cs_X5_refusal_148 ⟨rfl, rfl⟩ ⟨Nat.zero_le _, Nat.zero_le _⟩ (Nat.le_of_ble_eq_true rfl) (tl_iretE dX5_refusal_151 rfl rfl h)))))
  replace h := tl_in h c4_3
  by_cases c4_4 : ((u.1 a1 0)).toInt = 4
  · replace h := tl_ip h c4_4
    refine tl_tableIn (off := 148) (tgt := 152) dX5_refusal_4 (by omega) (by omega) (by rw [c4_4]; rfl) (by decide) ?_
    obtain ⟨x7, u6, e5, h⟩ := tl_b2i h
    obtain ⟨x10, u9, e8, h⟩ := tl_b2i h
    refine tl_aload_n dX5_refusal_152 rfl (tl_aload_n dX5_refusal_153 rfl (tl_geti (f := 1) tl_ck0 dX5_refusal_154 fl_X5_140 (Nat.le_of_ble_eq_true rfl) rfl h1 (tl_aload_n dX5_refusal_157 rfl (tl_geti (f := 2) tl_ck0 dX5_refusal_158 fl_X5_151 (Nat.le_of_ble_eq_true rfl) rfl h1 (tl_iV2 tl_ck5 rfl h0 (l5_hasCell h0 e5) dX5_refusal_161 cs_X5_refusal_161 ⟨rfl, rfl⟩ ⟨Nat.zero_le _, Nat.zero_le _⟩ (Nat.le_of_ble_eq_true rfl) (tl_aload_n dX5_refusal_164 rfl (tl_geti (f := 3) tl_ck0 dX5_refusal_165 fl_X5_160 (Nat.le_of_ble_eq_true rfl) rfl h1 (tl_iconst (v := 1) dX5_refusal_168 ic_1 (tl_bipush (v := 9) dX5_refusal_169 bp_9 (tl_iN3 (l9_isWithin  e8) dX5_refusal_171 cs_X5_refusal_171 ⟨rfl, rfl⟩ ⟨Nat.zero_le _, Nat.zero_le _⟩ (Nat.le_of_ble_eq_true rfl) (tl_if_eq (tgt := 194) dX5_refusal_174 (by decide) (fun c11 => ?_) (fun c11 => ?_))))))))))))
    · replace h := tl_ip h c11
      refine tl_iconst (v := 0) dX5_refusal_194 ic_0 (tl_aload_n dX5_refusal_195 rfl (tl_geti (f := 6) tl_ck5 dX5_refusal_196 fl_X5_62 (Nat.le_of_ble_eq_true rfl) rfl h0 (tl_bipush (v := 8) dX5_refusal_199 bp_8 (tl_icmp_ge (tgt := 208) dX5_refusal_201 (by decide) (fun c12 => ?_) (fun c12 => ?_)))))
      · replace h := tl_ip h c12
        obtain ⟨x15, u14, e13, h⟩ := tl_b2i h
        exact tl_iconst (v := 0) dX5_refusal_208 ic_0 (tl_iN3 (l9_refusalOf  e13) dX5_refusal_209 cs_X5_refusal_209 ⟨rfl, rfl⟩ ⟨Nat.zero_le _, Nat.zero_le _⟩ (Nat.le_of_ble_eq_true rfl) (tl_iretE dX5_refusal_212 rfl rfl h))
      · replace h := tl_in h c12
        obtain ⟨x15, u14, e13, h⟩ := tl_b2i h
        exact tl_iconst (v := 1) dX5_refusal_204 ic_1 (tl_goto (tgt := 209) dX5_refusal_205 (by decide) (tl_iN3 (l9_refusalOf  e13) dX5_refusal_209 cs_X5_refusal_209 ⟨rfl, rfl⟩ ⟨Nat.zero_le _, Nat.zero_le _⟩ (Nat.le_of_ble_eq_true rfl) (tl_iretE dX5_refusal_212 rfl rfl h)))
    · replace h := tl_in h c11
      obtain ⟨x14, u13, e12, h⟩ := tl_b2i h
      refine tl_aload_n dX5_refusal_177 rfl (tl_geti (f := 4) tl_ck0 dX5_refusal_178 fl_X5_163 (Nat.le_of_ble_eq_true rfl) rfl h1 (tl_iconst (v := 0) dX5_refusal_181 ic_0 (tl_bipush (v := 99) dX5_refusal_182 bp_99 (tl_iN3 (l9_isWithin  e12) dX5_refusal_184 cs_X5_refusal_184 ⟨rfl, rfl⟩ ⟨Nat.zero_le _, Nat.zero_le _⟩ (Nat.le_of_ble_eq_true rfl) (tl_if_eq (tgt := 194) dX5_refusal_187 (by decide) (fun c15 => ?_) (fun c15 => ?_))))))
      · replace h := tl_ip h c15
        refine tl_iconst (v := 0) dX5_refusal_194 ic_0 (tl_aload_n dX5_refusal_195 rfl (tl_geti (f := 6) tl_ck5 dX5_refusal_196 fl_X5_62 (Nat.le_of_ble_eq_true rfl) rfl h0 (tl_bipush (v := 8) dX5_refusal_199 bp_8 (tl_icmp_ge (tgt := 208) dX5_refusal_201 (by decide) (fun c16 => ?_) (fun c16 => ?_)))))
        · replace h := tl_ip h c16
          obtain ⟨x19, u18, e17, h⟩ := tl_b2i h
          exact tl_iconst (v := 0) dX5_refusal_208 ic_0 (tl_iN3 (l9_refusalOf  e17) dX5_refusal_209 cs_X5_refusal_209 ⟨rfl, rfl⟩ ⟨Nat.zero_le _, Nat.zero_le _⟩ (Nat.le_of_ble_eq_true rfl) (tl_iretE dX5_refusal_212 rfl rfl h))
        · replace h := tl_in h c16
          obtain ⟨x19, u18, e17, h⟩ := tl_b2i h
          exact tl_iconst (v := 1) dX5_refusal_204 ic_1 (tl_goto (tgt := 209) dX5_refusal_205 (by decide) (tl_iN3 (l9_refusalOf  e17) dX5_refusal_209 cs_X5_refusal_209 ⟨rfl, rfl⟩ ⟨Nat.zero_le _, Nat.zero_le _⟩ (Nat.le_of_ble_eq_true rfl) (tl_iretE dX5_refusal_212 rfl rfl h)))
      · replace h := tl_in h c15
        refine tl_iconst (v := 1) dX5_refusal_190 ic_1 (tl_goto (tgt := 195) dX5_refusal_191 (by decide) (tl_aload_n dX5_refusal_195 rfl (tl_geti (f := 6) tl_ck5 dX5_refusal_196 fl_X5_62 (Nat.le_of_ble_eq_true rfl) rfl h0 (tl_bipush (v := 8) dX5_refusal_199 bp_8 (tl_icmp_ge (tgt := 208) dX5_refusal_201 (by decide) (fun c16 => ?_) (fun c16 => ?_))))))
        · replace h := tl_ip h c16
          obtain ⟨x19, u18, e17, h⟩ := tl_b2i h
          exact tl_iconst (v := 0) dX5_refusal_208 ic_0 (tl_iN3 (l9_refusalOf  e17) dX5_refusal_209 cs_X5_refusal_209 ⟨rfl, rfl⟩ ⟨Nat.zero_le _, Nat.zero_le _⟩ (Nat.le_of_ble_eq_true rfl) (tl_iretE dX5_refusal_212 rfl rfl h))
        · replace h := tl_in h c16
          obtain ⟨x19, u18, e17, h⟩ := tl_b2i h
          exact tl_iconst (v := 1) dX5_refusal_204 ic_1 (tl_goto (tgt := 209) dX5_refusal_205 (by decide) (tl_iN3 (l9_refusalOf  e17) dX5_refusal_209 cs_X5_refusal_209 ⟨rfl, rfl⟩ ⟨Nat.zero_le _, Nat.zero_le _⟩ (Nat.le_of_ble_eq_true rfl) (tl_iretE dX5_refusal_212 rfl rfl h)))
  replace h := tl_in h c4_4
  by_cases c4_5 : ((u.1 a1 0)).toInt = 5
  · replace h := tl_ip h c4_5
    refine tl_tableIn (off := 209) (tgt := 213) dX5_refusal_4 (by omega) (by omega) (by rw [c4_5]; rfl) (by decide) ?_
    obtain ⟨x7, u6, e5, h⟩ := tl_b2i h
    refine tl_iconst (v := 1) dX5_refusal_213 ic_1 (tl_aload_n dX5_refusal_214 rfl (tl_geti (f := 1) tl_ck0 dX5_refusal_215 fl_X5_140 (Nat.le_of_ble_eq_true rfl) rfl h1 (tl_iconst (v := 0) dX5_refusal_218 ic_0 (tl_sipush (v := 999) dX5_refusal_219 sp_999 (tl_iN3 (l9_isWithin  e5) dX5_refusal_222 cs_X5_refusal_222 ⟨rfl, rfl⟩ ⟨Nat.zero_le _, Nat.zero_le _⟩ (Nat.le_of_ble_eq_true rfl) (tl_aload_n dX5_refusal_225 rfl (tl_geti (f := 1) tl_ck0 dX5_refusal_226 fl_X5_140 (Nat.le_of_ble_eq_true rfl) rfl h1 (tl_sipush (v := 9999) dX5_refusal_229 sp_9999 (tl_aload_n dX5_refusal_232 rfl (tl_geti (f := 8) tl_ck5 dX5_refusal_233 fl_X5_68 (Nat.le_of_ble_eq_true rfl) rfl h0 (tl_isub dX5_refusal_236 (tl_icmp_gt (tgt := 244) dX5_refusal_237 (by decide) (fun c8 => ?_) (fun c8 => ?_)))))))))))))
    · replace h := tl_ip h c8
      obtain ⟨x11, u10, e9, h⟩ := tl_b2i h
      exact tl_iconst (v := 0) dX5_refusal_244 ic_0 (tl_iN3 (l9_refusalOf  e9) dX5_refusal_245 cs_X5_refusal_245 ⟨rfl, rfl⟩ ⟨Nat.zero_le _, Nat.zero_le _⟩ (Nat.le_of_ble_eq_true rfl) (tl_iretE dX5_refusal_248 rfl rfl h))
    · replace h := tl_in h c8
      obtain ⟨x11, u10, e9, h⟩ := tl_b2i h
      exact tl_iconst (v := 1) dX5_refusal_240 ic_1 (tl_goto (tgt := 245) dX5_refusal_241 (by decide) (tl_iN3 (l9_refusalOf  e9) dX5_refusal_245 cs_X5_refusal_245 ⟨rfl, rfl⟩ ⟨Nat.zero_le _, Nat.zero_le _⟩ (Nat.le_of_ble_eq_true rfl) (tl_iretE dX5_refusal_248 rfl rfl h)))
  replace h := tl_in h c4_5
  by_cases c4_6 : ((u.1 a1 0)).toInt = 6
  · replace h := tl_ip h c4_6
    refine tl_tableIn (off := 245) (tgt := 249) dX5_refusal_4 (by omega) (by omega) (by rw [c4_6]; rfl) (by decide) ?_
    obtain ⟨x7, u6, e5, h⟩ := tl_b2i h
    refine tl_aload_n dX5_refusal_249 rfl (tl_aload_n dX5_refusal_250 rfl (tl_geti (f := 1) tl_ck0 dX5_refusal_251 fl_X5_140 (Nat.le_of_ble_eq_true rfl) rfl h1 (tl_iV1 tl_ck5 rfl h0 (l5_hasLamp h0 e5) dX5_refusal_254 cs_X5_refusal_254 ⟨rfl, rfl⟩ ⟨Nat.zero_le _, Nat.zero_le _⟩ (Nat.le_of_ble_eq_true rfl) (tl_if_eq (tgt := 279) dX5_refusal_257 (by decide) (fun c8 => ?_) (fun c8 => ?_)))))
    · replace h := tl_ip h c8
      obtain ⟨x11, u10, e9, h⟩ := tl_b2i h
      obtain ⟨x14, u13, e12, h⟩ := tl_b2i h
      exact tl_iconst (v := 0) dX5_refusal_279 ic_0 (tl_iconst (v := 1) dX5_refusal_280 ic_1 (tl_aload_n dX5_refusal_281 rfl (tl_getr (f := 3) (o := 4) tl_ck5 dX5_refusal_282 fl_X5_32 (Nat.le_of_ble_eq_true rfl) rfl h0 (tl_iV0 tl_ck3 rfl (tt_5_3 h0) (l3_hasRoomForOrder (tt_5_3 h0) e9) dX5_refusal_285 cs_X5_refusal_285 ⟨rfl, rfl⟩ ⟨Nat.zero_le _, Nat.zero_le _⟩ (Nat.le_of_ble_eq_true rfl) (tl_iN3 (l9_refusalOf  e12) dX5_refusal_288 cs_X5_refusal_288 ⟨rfl, rfl⟩ ⟨Nat.zero_le _, Nat.zero_le _⟩ (Nat.le_of_ble_eq_true rfl) (tl_iretE dX5_refusal_291 rfl rfl h))))))
    · replace h := tl_in h c8
      obtain ⟨x11, u10, e9, h⟩ := tl_b2i h
      refine tl_aload_n dX5_refusal_260 rfl (tl_aload_n dX5_refusal_261 rfl (tl_geti (f := 2) tl_ck0 dX5_refusal_262 fl_X5_151 (Nat.le_of_ble_eq_true rfl) rfl h1 (tl_aload_n dX5_refusal_265 rfl (tl_geti (f := 3) tl_ck0 dX5_refusal_266 fl_X5_160 (Nat.le_of_ble_eq_true rfl) rfl h1 (tl_iV2 tl_ck5 rfl h0 (l5_hasCell h0 e9) dX5_refusal_269 cs_X5_refusal_269 ⟨rfl, rfl⟩ ⟨Nat.zero_le _, Nat.zero_le _⟩ (Nat.le_of_ble_eq_true rfl) (tl_if_eq (tgt := 279) dX5_refusal_272 (by decide) (fun c12 => ?_) (fun c12 => ?_)))))))
      · replace h := tl_ip h c12
        obtain ⟨x15, u14, e13, h⟩ := tl_b2i h
        obtain ⟨x18, u17, e16, h⟩ := tl_b2i h
        exact tl_iconst (v := 0) dX5_refusal_279 ic_0 (tl_iconst (v := 1) dX5_refusal_280 ic_1 (tl_aload_n dX5_refusal_281 rfl (tl_getr (f := 3) (o := 4) tl_ck5 dX5_refusal_282 fl_X5_32 (Nat.le_of_ble_eq_true rfl) rfl h0 (tl_iV0 tl_ck3 rfl (tt_5_3 h0) (l3_hasRoomForOrder (tt_5_3 h0) e13) dX5_refusal_285 cs_X5_refusal_285 ⟨rfl, rfl⟩ ⟨Nat.zero_le _, Nat.zero_le _⟩ (Nat.le_of_ble_eq_true rfl) (tl_iN3 (l9_refusalOf  e16) dX5_refusal_288 cs_X5_refusal_288 ⟨rfl, rfl⟩ ⟨Nat.zero_le _, Nat.zero_le _⟩ (Nat.le_of_ble_eq_true rfl) (tl_iretE dX5_refusal_291 rfl rfl h))))))
      · replace h := tl_in h c12
        obtain ⟨x15, u14, e13, h⟩ := tl_b2i h
        obtain ⟨x18, u17, e16, h⟩ := tl_b2i h
        exact tl_iconst (v := 1) dX5_refusal_275 ic_1 (tl_goto (tgt := 280) dX5_refusal_276 (by decide) (tl_iconst (v := 1) dX5_refusal_280 ic_1 (tl_aload_n dX5_refusal_281 rfl (tl_getr (f := 3) (o := 4) tl_ck5 dX5_refusal_282 fl_X5_32 (Nat.le_of_ble_eq_true rfl) rfl h0 (tl_iV0 tl_ck3 rfl (tt_5_3 h0) (l3_hasRoomForOrder (tt_5_3 h0) e13) dX5_refusal_285 cs_X5_refusal_285 ⟨rfl, rfl⟩ ⟨Nat.zero_le _, Nat.zero_le _⟩ (Nat.le_of_ble_eq_true rfl) (tl_iN3 (l9_refusalOf  e16) dX5_refusal_288 cs_X5_refusal_288 ⟨rfl, rfl⟩ ⟨Nat.zero_le _, Nat.zero_le _⟩ (Nat.le_of_ble_eq_true rfl) (tl_iretE dX5_refusal_291 rfl rfl h)))))))
  replace h := tl_in h c4_6
  by_cases c4_7 : ((u.1 a1 0)).toInt = 7
  · replace h := tl_ip h c4_7
    refine tl_tableIn (off := 288) (tgt := 292) dX5_refusal_4 (by omega) (by omega) (by rw [c4_7]; rfl) (by decide) ?_
    obtain ⟨x7, u6, e5, h⟩ := tl_b2i h
    obtain ⟨x10, u9, e8, h⟩ := tl_b2i h
    obtain ⟨x13, u12, e11, h⟩ := tl_b2i h
    obtain ⟨x16, u15, e14, h⟩ := tl_b2i h
    exact tl_aload_n dX5_refusal_292 rfl (tl_aload_n dX5_refusal_293 rfl (tl_geti (f := 1) tl_ck0 dX5_refusal_294 fl_X5_140 (Nat.le_of_ble_eq_true rfl) rfl h1 (tl_iV1 tl_ck5 rfl h0 (l5_hasLamp h0 e5) dX5_refusal_297 cs_X5_refusal_297 ⟨rfl, rfl⟩ ⟨Nat.zero_le _, Nat.zero_le _⟩ (Nat.le_of_ble_eq_true rfl) (tl_aload_n dX5_refusal_300 rfl (tl_geti (f := 2) tl_ck0 dX5_refusal_301 fl_X5_151 (Nat.le_of_ble_eq_true rfl) rfl h1 (tl_iconst (v := 1) dX5_refusal_304 ic_1 (tl_bipush (v := 99) dX5_refusal_305 bp_99 (tl_iN3 (l9_isWithin  e8) dX5_refusal_307 cs_X5_refusal_307 ⟨rfl, rfl⟩ ⟨Nat.zero_le _, Nat.zero_le _⟩ (Nat.le_of_ble_eq_true rfl) (tl_aload_n dX5_refusal_310 rfl (tl_getr (f := 3) (o := 4) tl_ck5 dX5_refusal_311 fl_X5_32 (Nat.le_of_ble_eq_true rfl) rfl h0 (tl_iV0 tl_ck3 rfl (tt_5_3 h0) (l3_hasRoomForOrder (tt_5_3 h0) e11) dX5_refusal_314 cs_X5_refusal_314 ⟨rfl, rfl⟩ ⟨Nat.zero_le _, Nat.zero_le _⟩ (Nat.le_of_ble_eq_true rfl) (tl_iN3 (l9_refusalOf  e14) dX5_refusal_317 cs_X5_refusal_317 ⟨rfl, rfl⟩ ⟨Nat.zero_le _, Nat.zero_le _⟩ (Nat.le_of_ble_eq_true rfl) (tl_iretE dX5_refusal_320 rfl rfl h)))))))))))))
  replace h := tl_in h c4_7
  by_cases c4_8 : ((u.1 a1 0)).toInt = 8
  · replace h := tl_ip h c4_8
    refine tl_tableIn (off := 317) (tgt := 321) dX5_refusal_4 (by omega) (by omega) (by rw [c4_8]; rfl) (by decide) ?_
    obtain ⟨x7, u6, e5, h⟩ := tl_b2i h
    refine tl_aload_n dX5_refusal_321 rfl (tl_getr (f := 3) (o := 4) tl_ck5 dX5_refusal_322 fl_X5_32 (Nat.le_of_ble_eq_true rfl) rfl h0 (tl_aload_n dX5_refusal_325 rfl (tl_geti (f := 1) tl_ck0 dX5_refusal_326 fl_X5_140 (Nat.le_of_ble_eq_true rfl) rfl h1 (tl_iV1 tl_ck3 rfl (tt_5_3 h0) (l3_hasOrder (tt_5_3 h0) e5) dX5_refusal_329 cs_X5_refusal_329 ⟨rfl, rfl⟩ ⟨Nat.zero_le _, Nat.zero_le _⟩ (Nat.le_of_ble_eq_true rfl) (tl_iconst (v := 1) dX5_refusal_332 ic_1 (tl_aload_n dX5_refusal_333 rfl (tl_geti (f := 1) tl_ck0 dX5_refusal_334 fl_X5_140 (Nat.le_of_ble_eq_true rfl) rfl h1 (tl_if_ne (tgt := 350) dX5_refusal_337 (by decide) (fun c8 => ?_) (fun c8 => ?_)))))))))
    · replace h := tl_in h c8
      obtain ⟨x11, u10, e9, h⟩ := tl_b2i h
      exact tl_iconst (v := 1) dX5_refusal_350 ic_1 (tl_goto (tgt := 355) dX5_refusal_351 (by decide) (tl_iN3 (l9_refusalOf  e9) dX5_refusal_355 cs_X5_refusal_355 ⟨rfl, rfl⟩ ⟨Nat.zero_le _, Nat.zero_le _⟩ (Nat.le_of_ble_eq_true rfl) (tl_iretE dX5_refusal_358 rfl rfl h)))
    · replace h := tl_ip h c8
      obtain ⟨x11, u10, e9, h⟩ := tl_b2i h
      refine tl_aload_n dX5_refusal_340 rfl (tl_getr (f := 3) (o := 4) tl_ck5 dX5_refusal_341 fl_X5_32 (Nat.le_of_ble_eq_true rfl) rfl h0 (tl_iV0 tl_ck3 rfl (tt_5_3 h0) (l3_handsAreFree (tt_5_3 h0) e9) dX5_refusal_344 cs_X5_refusal_344 ⟨rfl, rfl⟩ ⟨Nat.zero_le _, Nat.zero_le _⟩ (Nat.le_of_ble_eq_true rfl) (tl_if_eq (tgt := 354) dX5_refusal_347 (by decide) (fun c12 => ?_) (fun c12 => ?_))))
      · replace h := tl_ip h c12
        obtain ⟨x15, u14, e13, h⟩ := tl_b2i h
        exact tl_iconst (v := 0) dX5_refusal_354 ic_0 (tl_iN3 (l9_refusalOf  e13) dX5_refusal_355 cs_X5_refusal_355 ⟨rfl, rfl⟩ ⟨Nat.zero_le _, Nat.zero_le _⟩ (Nat.le_of_ble_eq_true rfl) (tl_iretE dX5_refusal_358 rfl rfl h))
      · replace h := tl_in h c12
        obtain ⟨x15, u14, e13, h⟩ := tl_b2i h
        exact tl_iconst (v := 1) dX5_refusal_350 ic_1 (tl_goto (tgt := 355) dX5_refusal_351 (by decide) (tl_iN3 (l9_refusalOf  e13) dX5_refusal_355 cs_X5_refusal_355 ⟨rfl, rfl⟩ ⟨Nat.zero_le _, Nat.zero_le _⟩ (Nat.le_of_ble_eq_true rfl) (tl_iretE dX5_refusal_358 rfl rfl h)))
  replace h := tl_in h c4_8
  have c4_9 : ((u.1 a1 0)).toInt = 9 := by omega
  refine tl_tableIn (off := 355) (tgt := 359) dX5_refusal_4 (by omega) (by omega) (by rw [c4_9]; rfl) (by decide) ?_
  obtain ⟨x7, u6, e5, h⟩ := tl_b2i h
  obtain ⟨x10, u9, e8, h⟩ := tl_b2i h
  exact tl_iconst (v := 1) dX5_refusal_359 ic_1 (tl_aload_n dX5_refusal_360 rfl (tl_geti (f := 1) tl_ck0 dX5_refusal_361 fl_X5_140 (Nat.le_of_ble_eq_true rfl) rfl h1 (tl_aload_n dX5_refusal_364 rfl (tl_geti (f := 2) tl_ck0 dX5_refusal_365 fl_X5_151 (Nat.le_of_ble_eq_true rfl) rfl h1 (tl_iS2 (l5_isSetting  e5) dX5_refusal_368 cs_X5_refusal_368 ⟨rfl, rfl⟩ ⟨Nat.zero_le _, Nat.zero_le _⟩ (Nat.le_of_ble_eq_true rfl) (tl_iconst (v := 1) dX5_refusal_371 ic_1 (tl_iN3 (l9_refusalOf  e8) dX5_refusal_372 cs_X5_refusal_372 ⟨rfl, rfl⟩ ⟨Nat.zero_le _, Nat.zero_le _⟩ (Nat.le_of_ble_eq_true rfl) (tl_iretE dX5_refusal_375 rfl rfl h))))))))

theorem cs_X5_attempt_2 : tl_cV mX5_attempt mX5_refusal 128 1 := ⟨cd_X5_refusal, ml_X5_128, im_X5_refusal, se_X5_refusal, in_X5, ⟨by decide, by decide, by decide +kernel⟩, Nat.le_of_ble_eq_true rfl, Nat.le_of_ble_eq_true rfl⟩
theorem cs_X5_attempt_12 : tl_cV mX5_attempt mX5_perform 132 1 := ⟨cd_X5_perform, ml_X5_132, im_X5_perform, se_X5_perform, in_X5, ⟨by decide, by decide, by decide +kernel⟩, Nat.le_of_ble_eq_true rfl, Nat.le_of_ble_eq_true rfl⟩
def f5_attempt (a0 : Nat) (a1 : Nat) (u : tl_S) : Option (Int32 × tl_S) :=
  tl_b2 (f5_refusal a0 a1 u) (fun x5 u4 => (if x5 = 0 then tl_b2 (f5_perform a0 a1 u4) (fun x9 u8 => some (1, u8)) else some (0, u4)))

theorem l5_attempt {E : tl_E} {a0 : Nat} {a1 : Nat}  {u : tl_S} {r : Int32} {v : tl_S} (h0 : tl_T E.2.1 a0 = some 5) (h1 : tl_T E.2.1 a1 = some 0) (h : f5_attempt a0 a1 u = some (r, v)) : tl_MB E mX5_attempt [.ref a0, .ref a1] u (fun q w => q = some (.int r) ∧ w = v) := by
  unfold f5_attempt at h
  refine tl_start [some (.ref a0), some (.ref a1)] rfl rfl rfl (Nat.le_of_ble_eq_true rfl) ?_
  obtain ⟨x5, u4, e3, h⟩ := tl_b2i h
  refine tl_aload_n dX5_attempt_0 rfl (tl_aload_n dX5_attempt_1 rfl (tl_iV1 tl_ck5 rfl h0 (l5_refusal h0 h1 e3) dX5_attempt_2 cs_X5_attempt_2 ⟨rfl, rfl⟩ ⟨Nat.zero_le _, Nat.zero_le _⟩ (Nat.le_of_ble_eq_true rfl) (tl_if_eq (tgt := 10) dX5_attempt_5 (by decide) (fun c6 => ?_) (fun c6 => ?_))))
  · replace h := tl_ip h c6
    obtain ⟨x9, u8, e7, h⟩ := tl_b2i h
    exact tl_aload_n dX5_attempt_10 rfl (tl_aload_n dX5_attempt_11 rfl (tl_iV1 tl_ck5 rfl h0 (l5_perform h0 h1 e7) dX5_attempt_12 cs_X5_attempt_12 ⟨rfl, rfl⟩ ⟨Nat.zero_le _, Nat.zero_le _⟩ (Nat.le_of_ble_eq_true rfl) (tl_pop dX5_attempt_15 rfl (tl_iconst (v := 1) dX5_attempt_16 ic_1 (tl_iretE dX5_attempt_17 rfl rfl h)))))
  · replace h := tl_in h c6
    exact tl_iconst (v := 0) dX5_attempt_8 ic_0 (tl_iretE dX5_attempt_9 rfl rfl h)


def f5_oilInLamps_p4 : Nat → Nat → Int32 → Int32 → tl_S → Option (Int32 × tl_S)
  | 0, _, _, _, _ => none
  | fu + 1, a1, x2, x3, u =>
  (if (u.1 a1 6) ≤ x3 then some (x2, u) else tl_g (¬ (x3 < 0 ∨ 8 ≤ x3.toNatClampNeg)) (tl_let ((x2 + (u.1 ((a1 + 3) + (18 + x3.toNatClampNeg)) 3))) (fun x7 => tl_let (x3 + 1) (fun x8 => f5_oilInLamps_p4 fu a1 x7 x8 u))))

def f5_oilInLamps (a0 : Nat) (u : tl_S) : Option (Int32 × tl_S) :=
  f5_oilInLamps_p4 tl_F a0 0 0 u

theorem l5_oilInLamps_p4 {E : tl_E}  {r : Int32} {v : tl_S} : ∀ (n : Nat) (a1 : Nat) (x2 : Int32) (x3 : Int32) (u : tl_S) , tl_T E.2.1 a1 = some 5 → f5_oilInLamps_p4 n a1 x2 x3 u = some (r, v) → tl_R E mX5_oilInLamps tl_X0 (tl_ZB E mX5_oilInLamps (fun q w => q = some (.int r) ∧ w = v)) 0 0 (tl_HB E u) 4 [some (.ref a1), some (.int x2), some (.int x3)] [] := by
  intro n
  induction n with
  | zero => intro a1 x2 x3 u  h1 h; exact absurd h (by simp [f5_oilInLamps_p4])
  | succ n ih =>
    intro a1 x2 x3 u  h1 h
    rw [f5_oilInLamps_p4] at h
    refine tl_iload_n dX5_oilInLamps_4 rfl (tl_aload_n dX5_oilInLamps_5 rfl (tl_geti (f := 6) tl_ck5 dX5_oilInLamps_6 fl_X5_62 (Nat.le_of_ble_eq_true rfl) rfl h1 (tl_icmp_ge (tgt := 30) dX5_oilInLamps_9 (by decide) (fun c5 => ?_) (fun c5 => ?_))))
    · replace h := tl_ip h c5
      exact tl_iload_n dX5_oilInLamps_30 rfl (tl_iretE dX5_oilInLamps_31 rfl rfl h)
    · replace h := tl_in h c5
      obtain ⟨g6, h⟩ := tl_gi h
      refine tl_iload_n dX5_oilInLamps_12 rfl (tl_aload_n dX5_oilInLamps_13 rfl (tl_getr (f := 2) (o := 3) tl_ck5 dX5_oilInLamps_14 fl_X5_25 (Nat.le_of_ble_eq_true rfl) rfl h1 (tl_iload_n dX5_oilInLamps_17 rfl (tl_ald20 dX5_oilInLamps_18 (tt_5_2 h1) (x3.toNatClampNeg) g6 rfl (tl_geti (f := 3) tl_ck4 dX5_oilInLamps_19 fl_X5_96 (Nat.le_of_ble_eq_true rfl) rfl (ta_20 (tt_5_2 h1) (tl_inlt g6)) (tl_iadd dX5_oilInLamps_22 (tl_isto_n dX5_oilInLamps_23 (Nat.le_of_ble_eq_true rfl) (fun x7 e => ?_))))))))
      have h := tl_leteq e h
      clear e
      refine tl_iincK dX5_oilInLamps_24 rfl (ii_1 _) (Nat.le_of_ble_eq_true rfl) (fun x8 e => ?_)
      have h := tl_leteq e h
      clear e
      refine tl_goto (tgt := 4) dX5_oilInLamps_27 (by decide) (?_)
      exact ih _ _ _ _  h1 h

theorem l5_oilInLamps {E : tl_E} {a0 : Nat}  {u : tl_S} {r : Int32} {v : tl_S} (h0 : tl_T E.2.1 a0 = some 5) (h : f5_oilInLamps a0 u = some (r, v)) : tl_MB E mX5_oilInLamps [.ref a0] u (fun q w => q = some (.int r) ∧ w = v) := by
  unfold f5_oilInLamps at h
  refine tl_start [some (.ref a0), none, none] rfl rfl rfl (Nat.le_of_ble_eq_true rfl) ?_
  refine tl_iconst (v := 0) dX5_oilInLamps_0 ic_0 (tl_istore_n dX5_oilInLamps_1 (Nat.le_of_ble_eq_true rfl) (tl_iconst (v := 0) dX5_oilInLamps_2 ic_0 (tl_istore_n dX5_oilInLamps_3 (Nat.le_of_ble_eq_true rfl) (?_))))
  exact l5_oilInLamps_p4 tl_F _ _ _ _  h0 h


def f5_lampsIn_p4 : Nat → Nat → Int32 → Int32 → Int32 → tl_S → Option (Int32 × tl_S)
  | 0, _, _, _, _, _ => none
  | fu + 1, a1, x2, x3, x4, u =>
  (if (u.1 a1 6) ≤ x4 then some (x3, u) else tl_g (¬ (x4 < 0 ∨ 8 ≤ x4.toNatClampNeg)) ((if (u.1 ((a1 + 3) + (18 + x4.toNatClampNeg)) 0) = x2 then tl_let (x3 + 1) (fun x9 => tl_let (x4 + 1) (fun x10 => f5_lampsIn_p4 fu a1 x2 x9 x10 u)) else tl_let (x4 + 1) (fun x9 => f5_lampsIn_p4 fu a1 x2 x3 x9 u))))

def f5_lampsIn (a0 : Nat) (x1 : Int32) (u : tl_S) : Option (Int32 × tl_S) :=
  f5_lampsIn_p4 tl_F a0 x1 0 0 u

theorem l5_lampsIn_p4 {E : tl_E}  {r : Int32} {v : tl_S} : ∀ (n : Nat) (a1 : Nat) (x2 : Int32) (x3 : Int32) (x4 : Int32) (u : tl_S) , tl_T E.2.1 a1 = some 5 → f5_lampsIn_p4 n a1 x2 x3 x4 u = some (r, v) → tl_R E mX5_lampsIn tl_X0 (tl_ZB E mX5_lampsIn (fun q w => q = some (.int r) ∧ w = v)) 0 0 (tl_HB E u) 4 [some (.ref a1), some (.int x2), some (.int x3), some (.int x4)] [] := by
  intro n
  induction n with
  | zero => intro a1 x2 x3 x4 u  h1 h; exact absurd h (by simp [f5_lampsIn_p4])
  | succ n ih =>
    intro a1 x2 x3 x4 u  h1 h
    rw [f5_lampsIn_p4] at h
    refine tl_iload_n dX5_lampsIn_4 rfl (tl_aload_n dX5_lampsIn_5 rfl (tl_geti (f := 6) tl_ck5 dX5_lampsIn_6 fl_X5_62 (Nat.le_of_ble_eq_true rfl) rfl h1 (tl_icmp_ge (tgt := 34) dX5_lampsIn_9 (by decide) (fun c6 => ?_) (fun c6 => ?_))))
    · replace h := tl_ip h c6
      exact tl_iload_n dX5_lampsIn_34 rfl (tl_iretE dX5_lampsIn_35 rfl rfl h)
    · replace h := tl_in h c6
      obtain ⟨g7, h⟩ := tl_gi h
      refine tl_aload_n dX5_lampsIn_12 rfl (tl_getr (f := 2) (o := 3) tl_ck5 dX5_lampsIn_13 fl_X5_25 (Nat.le_of_ble_eq_true rfl) rfl h1 (tl_iload_n dX5_lampsIn_16 rfl (tl_ald20 dX5_lampsIn_17 (tt_5_2 h1) (x4.toNatClampNeg) g7 rfl (tl_geti (f := 0) tl_ck4 dX5_lampsIn_18 fl_X5_102 (Nat.le_of_ble_eq_true rfl) rfl (ta_20 (tt_5_2 h1) (tl_inlt g7)) (tl_iload_n dX5_lampsIn_21 rfl (tl_icmp_ne (tgt := 28) dX5_lampsIn_22 (by decide) (fun c8 => ?_) (fun c8 => ?_)))))))
      · replace h := tl_in h c8
        refine tl_iincK dX5_lampsIn_28 rfl (ii_1 _) (Nat.le_of_ble_eq_true rfl) (fun x9 e => ?_)
        have h := tl_leteq e h
        clear e
        refine tl_goto (tgt := 4) dX5_lampsIn_31 (by decide) (?_)
        exact ih _ _ _ _ _  h1 h
      · replace h := tl_ip h c8
        refine tl_iincK dX5_lampsIn_25 rfl (ii_1 _) (Nat.le_of_ble_eq_true rfl) (fun x9 e => ?_)
        have h := tl_leteq e h
        clear e
        refine tl_iincK dX5_lampsIn_28 rfl (ii_1 _) (Nat.le_of_ble_eq_true rfl) (fun x10 e => ?_)
        have h := tl_leteq e h
        clear e
        refine tl_goto (tgt := 4) dX5_lampsIn_31 (by decide) (?_)
        exact ih _ _ _ _ _  h1 h

theorem l5_lampsIn {E : tl_E} {a0 : Nat} {x1 : Int32}  {u : tl_S} {r : Int32} {v : tl_S} (h0 : tl_T E.2.1 a0 = some 5) (h : f5_lampsIn a0 x1 u = some (r, v)) : tl_MB E mX5_lampsIn [.ref a0, .int x1] u (fun q w => q = some (.int r) ∧ w = v) := by
  unfold f5_lampsIn at h
  refine tl_start [some (.ref a0), some (.int x1), none, none] rfl rfl rfl (Nat.le_of_ble_eq_true rfl) ?_
  refine tl_iconst (v := 0) dX5_lampsIn_0 ic_0 (tl_istore_n dX5_lampsIn_1 (Nat.le_of_ble_eq_true rfl) (tl_iconst (v := 0) dX5_lampsIn_2 ic_0 (tl_istore_n dX5_lampsIn_3 (Nat.le_of_ble_eq_true rfl) (?_))))
  exact l5_lampsIn_p4 tl_F _ _ _ _ _  h0 h

theorem cs_X5_litBySpans_2 : tl_cV mX5_litBySpans mX5_hasGallery 89 1 := ⟨cd_X5_hasGallery, ml_X5_89, im_X5_hasGallery, se_X5_hasGallery, in_X5, ⟨by decide, by decide, by decide +kernel⟩, Nat.le_of_ble_eq_true rfl, Nat.le_of_ble_eq_true rfl⟩
theorem cs_X5_litBySpans_122 : tl_cV mX5_litBySpans mX4_burnsIn 125 1 := ⟨cd_X4_burnsIn, ml_X5_125, im_X4_burnsIn, se_X4_burnsIn, in_X4, ⟨by decide, by decide, by decide +kernel⟩, Nat.le_of_ble_eq_true rfl, Nat.le_of_ble_eq_true rfl⟩
def f5_litBySpans_pN : Nat → Nat → Nat → Int32 → Int32 → Int32 → Int32 → Int32 → Int32 → Int32 → Int32 → tl_S → Option (Int32 × tl_S)
  | 0, _, _, _, _, _, _, _, _, _, _, _ => none
  | fu + 1, tag, a1, x2, x3, x4, x5, x6, x7, x8, x9, u =>
  (if tag = 0 then (if (u.1 a1 6) ≤ x6 then some (x4, u) else f5_litBySpans_pN fu 1 a1 x2 x3 x4 x5 x6 x3 x3 0 u) else (if (u.1 a1 6) ≤ x9 then tl_let ((x4 + (x8 - x7))) (fun x12 => tl_let (x6 + 1) (fun x13 => f5_litBySpans_pN fu 0 a1 x2 x3 x12 x8 x13 x7 x8 x9 u)) else tl_g (¬ (x9 < 0 ∨ 8 ≤ x9.toNatClampNeg)) (tl_g (¬ (x9 < 0 ∨ 8 ≤ x9.toNatClampNeg)) (tl_let ((if x5 < ((u.1 ((a1 + 3) + (18 + x9.toNatClampNeg)) 1) - (u.1 ((a1 + 3) + (18 + x9.toNatClampNeg)) 2)) then ((u.1 ((a1 + 3) + (18 + x9.toNatClampNeg)) 1) - (u.1 ((a1 + 3) + (18 + x9.toNatClampNeg)) 2)) else x5)) (fun x14 => tl_g (¬ (x9 < 0 ∨ 8 ≤ x9.toNatClampNeg)) (tl_g (¬ (x9 < 0 ∨ 8 ≤ x9.toNatClampNeg)) (tl_let ((if (((u.1 ((a1 + 3) + (18 + x9.toNatClampNeg)) 1) + (u.1 ((a1 + 3) + (18 + x9.toNatClampNeg)) 2)) + 1) < x3 then (((u.1 ((a1 + 3) + (18 + x9.toNatClampNeg)) 1) + (u.1 ((a1 + 3) + (18 + x9.toNatClampNeg)) 2)) + 1) else x3)) (fun x17 => tl_g (¬ (x9 < 0 ∨ 8 ≤ x9.toNatClampNeg)) (tl_b2 (f4_burnsIn ((a1 + 3) + (18 + x9.toNatClampNeg)) x2 u) (fun x21 u20 => (if x21 = 0 then tl_let (x9 + 1) (fun x23 => f5_litBySpans_pN fu 1 a1 x2 x3 x4 x5 x6 x7 x8 x23 u20) else (if x17 ≤ x14 then tl_let (x9 + 1) (fun x24 => f5_litBySpans_pN fu 1 a1 x2 x3 x4 x5 x6 x7 x8 x24 u20) else (if x7 ≤ x14 then tl_let (x9 + 1) (fun x25 => f5_litBySpans_pN fu 1 a1 x2 x3 x4 x5 x6 x7 x8 x25 u20) else tl_let (x9 + 1) (fun x25 => f5_litBySpans_pN fu 1 a1 x2 x3 x4 x5 x6 x14 x17 x25 u20))))))))))))))

def f5_litBySpans (a0 : Nat) (x1 : Int32) (u : tl_S) : Option (Int32 × tl_S) :=
  tl_b2 (f5_hasGallery a0 x1 u) (fun x5 u4 => (if x5 = 0 then f5_litBySpans_pN tl_F 0 a0 x1 0 0 0 0 0 0 0 u4 else tl_g (¬ (x1 < 0 ∨ 3 ≤ x1.toNatClampNeg)) (tl_let ((u4.1 ((a0 + 1) + (11 + x1.toNatClampNeg)) 0)) (fun x8 => f5_litBySpans_pN tl_F 0 a0 x1 x8 0 0 0 0 0 0 u4))))

theorem l5_litBySpans_pN {E : tl_E} {r : Int32} {v : tl_S} : ∀ (n : Nat), (∀ (a1 : Nat) (x2 : Int32) (x3 : Int32) (x4 : Int32) (x5 : Int32) (x6 : Int32) (x7 : Int32) (x8 : Int32) (x9 : Int32) (u : tl_S) (d0 : Option Value) (d1 : Option Value) (d2 : Option Value) (d3 : Option Value) (d4 : Option Value) (d5 : Option Value) (d6 : Option Value) (d7 : Option Value) (d8 : Option Value) (d9 : Option Value) (d10 : Option Value), tl_T E.2.1 a1 = some 5 → f5_litBySpans_pN n 0 a1 x2 x3 x4 x5 x6 x7 x8 x9 u = some (r, v) → tl_R E mX5_litBySpans tl_X0 (tl_ZB E mX5_litBySpans (fun q w => q = some (.int r) ∧ w = v)) 0 0 (tl_HB E u) 30 [some (.ref a1), some (.int x2), some (.int x3), some (.int x4), some (.int x5), some (.int x6), d6, d7, d8, d9, d10] []) ∧ (∀ (a1 : Nat) (x2 : Int32) (x3 : Int32) (x4 : Int32) (x5 : Int32) (x6 : Int32) (x7 : Int32) (x8 : Int32) (x9 : Int32) (u : tl_S) (d0 : Option Value) (d1 : Option Value) (d2 : Option Value) (d3 : Option Value) (d4 : Option Value) (d5 : Option Value) (d6 : Option Value) (d7 : Option Value) (d8 : Option Value) (d9 : Option Value) (d10 : Option Value), tl_T E.2.1 a1 = some 5 → f5_litBySpans_pN n 1 a1 x2 x3 x4 x5 x6 x7 x8 x9 u = some (r, v) → tl_R E mX5_litBySpans tl_X0 (tl_ZB E mX5_litBySpans (fun q w => q = some (.int r) ∧ w = v)) 0 0 (tl_HB E u) 48 [some (.ref a1), some (.int x2), some (.int x3), some (.int x4), some (.int x5), some (.int x6), some (.int x7), some (.int x8), some (.int x9), d9, d10] []) := by
  intro n
  induction n with
  | zero =>
    constructor
    · intro a1 x2 x3 x4 x5 x6 x7 x8 x9 u d0 d1 d2 d3 d4 d5 d6 d7 d8 d9 d10 h1 h; exact absurd h (by simp [f5_litBySpans_pN])
    · intro a1 x2 x3 x4 x5 x6 x7 x8 x9 u d0 d1 d2 d3 d4 d5 d6 d7 d8 d9 d10 h1 h; exact absurd h (by simp [f5_litBySpans_pN])
  | succ n ih =>
    constructor
    · intro a1 x2 x3 x4 x5 x6 x7 x8 x9 u d0 d1 d2 d3 d4 d5 d6 d7 d8 d9 d10 h1 h
      rw [f5_litBySpans_pN] at h
      replace h := tl_ip h rfl
      refine tl_iload dX5_litBySpans_30 rfl (tl_aload_n dX5_litBySpans_32 rfl (tl_geti (f := 6) tl_ck5 dX5_litBySpans_33 fl_X5_62 (Nat.le_of_ble_eq_true rfl) rfl h1 (tl_icmp_ge (tgt := 174) dX5_litBySpans_36 (by decide) (fun c11 => ?_) (fun c11 => ?_))))
      · replace h := tl_ip h c11
        exact tl_iload_n dX5_litBySpans_174 rfl (tl_iretE dX5_litBySpans_175 rfl rfl h)
      · replace h := tl_in h c11
        refine tl_iload_n dX5_litBySpans_39 rfl (tl_istore dX5_litBySpans_40 (Nat.le_of_ble_eq_true rfl) (tl_iload_n dX5_litBySpans_42 rfl (tl_istore dX5_litBySpans_43 (Nat.le_of_ble_eq_true rfl) (tl_iconst (v := 0) dX5_litBySpans_45 ic_0 (tl_istore dX5_litBySpans_46 (Nat.le_of_ble_eq_true rfl) (?_))))))
        exact ih.2 a1 x2 x3 x4 x5 x6 x3 x3 0 _ (none) (none) (none) (none) (none) (none) (none) (none) (none) _ _ h1 h
    · intro a1 x2 x3 x4 x5 x6 x7 x8 x9 u d0 d1 d2 d3 d4 d5 d6 d7 d8 d9 d10 h1 h
      rw [f5_litBySpans_pN] at h
      replace h := tl_in h (by decide)
      refine tl_iload dX5_litBySpans_48 rfl (tl_aload_n dX5_litBySpans_50 rfl (tl_geti (f := 6) tl_ck5 dX5_litBySpans_51 fl_X5_62 (Nat.le_of_ble_eq_true rfl) rfl h1 (tl_icmp_ge (tgt := 156) dX5_litBySpans_54 (by decide) (fun c11 => ?_) (fun c11 => ?_))))
      · replace h := tl_ip h c11
        refine tl_iload_n dX5_litBySpans_156 rfl (tl_iload dX5_litBySpans_157 rfl (tl_iload dX5_litBySpans_159 rfl (tl_isub dX5_litBySpans_161 (tl_iadd dX5_litBySpans_162 (tl_isto_n dX5_litBySpans_163 (Nat.le_of_ble_eq_true rfl) (fun x12 e => ?_))))))
        have h := tl_leteq e h
        clear e
        refine tl_iload dX5_litBySpans_164 rfl (tl_istore dX5_litBySpans_166 (Nat.le_of_ble_eq_true rfl) (tl_iincK dX5_litBySpans_168 rfl (ii_1 _) (Nat.le_of_ble_eq_true rfl) (fun x13 e => ?_)))
        have h := tl_leteq e h
        clear e
        refine tl_goto (tgt := 30) dX5_litBySpans_171 (by decide) (?_)
        exact ih.1 a1 x2 x3 x12 x8 x13 x7 x8 x9 _ (none) (none) (none) (none) (none) (none) _ _ _ _ _ h1 h
      · replace h := tl_in h c11
        obtain ⟨g12, h⟩ := tl_gi h
        obtain ⟨g13, h⟩ := tl_gi h
        refine tl_iload dX5_litBySpans_57 rfl (tl_aload_n dX5_litBySpans_59 rfl (tl_getr (f := 2) (o := 3) tl_ck5 dX5_litBySpans_60 fl_X5_25 (Nat.le_of_ble_eq_true rfl) rfl h1 (tl_iload dX5_litBySpans_63 rfl (tl_ald20 dX5_litBySpans_65 (tt_5_2 h1) (x9.toNatClampNeg) g12 rfl (tl_geti (f := 1) tl_ck4 dX5_litBySpans_66 fl_X5_110 (Nat.le_of_ble_eq_true rfl) rfl (ta_20 (tt_5_2 h1) (tl_inlt g12)) (tl_aload_n dX5_litBySpans_69 rfl (tl_getr (f := 2) (o := 3) tl_ck5 dX5_litBySpans_70 fl_X5_25 (Nat.le_of_ble_eq_true rfl) rfl h1 (tl_iload dX5_litBySpans_73 rfl (tl_ald20 dX5_litBySpans_75 (tt_5_2 h1) (x9.toNatClampNeg) g13 rfl (tl_geti (f := 2) tl_ck4 dX5_litBySpans_76 fl_X5_113 (Nat.le_of_ble_eq_true rfl) rfl (ta_20 (tt_5_2 h1) (tl_inlt g13)) (tl_isub dX5_litBySpans_79 (tl_mmax dX5_litBySpans_80 ml_X5_116 ⟨Nat.zero_le _, Nat.zero_le _⟩ (Nat.le_of_ble_eq_true rfl) (Nat.le_of_ble_eq_true rfl) (Nat.le_of_ble_eq_true rfl) (tl_isto dX5_litBySpans_83 (Nat.le_of_ble_eq_true rfl) (fun x14 e => ?_))))))))))))))
        have h := tl_leteq e h
        clear e
        obtain ⟨g15, h⟩ := tl_gi h
        obtain ⟨g16, h⟩ := tl_gi h
        refine tl_iload_n dX5_litBySpans_85 rfl (tl_aload_n dX5_litBySpans_86 rfl (tl_getr (f := 2) (o := 3) tl_ck5 dX5_litBySpans_87 fl_X5_25 (Nat.le_of_ble_eq_true rfl) rfl h1 (tl_iload dX5_litBySpans_90 rfl (tl_ald20 dX5_litBySpans_92 (tt_5_2 h1) (x9.toNatClampNeg) g15 rfl (tl_geti (f := 1) tl_ck4 dX5_litBySpans_93 fl_X5_110 (Nat.le_of_ble_eq_true rfl) rfl (ta_20 (tt_5_2 h1) (tl_inlt g15)) (tl_aload_n dX5_litBySpans_96 rfl (tl_getr (f := 2) (o := 3) tl_ck5 dX5_litBySpans_97 fl_X5_25 (Nat.le_of_ble_eq_true rfl) rfl h1 (tl_iload dX5_litBySpans_100 rfl (tl_ald20 dX5_litBySpans_102 (tt_5_2 h1) (x9.toNatClampNeg) g16 rfl (tl_geti (f := 2) tl_ck4 dX5_litBySpans_103 fl_X5_113 (Nat.le_of_ble_eq_true rfl) rfl (ta_20 (tt_5_2 h1) (tl_inlt g16)) (tl_iadd dX5_litBySpans_106 (tl_iconst (v := 1) dX5_litBySpans_107 ic_1 (tl_iadd dX5_litBySpans_108 (tl_mmin dX5_litBySpans_109 ml_X5_122 ⟨Nat.zero_le _, Nat.zero_le _⟩ (Nat.le_of_ble_eq_true rfl) (Nat.le_of_ble_eq_true rfl) (Nat.le_of_ble_eq_true rfl) (tl_isto dX5_litBySpans_112 (Nat.le_of_ble_eq_true rfl) (fun x17 e => ?_))))))))))))))))
        have h := tl_leteq e h
        clear e
        obtain ⟨g18, h⟩ := tl_gi h
        obtain ⟨x21, u20, e19, h⟩ := tl_b2i h
        refine tl_aload_n dX5_litBySpans_114 rfl (tl_getr (f := 2) (o := 3) tl_ck5 dX5_litBySpans_115 fl_X5_25 (Nat.le_of_ble_eq_true rfl) rfl h1 (tl_iload dX5_litBySpans_118 rfl (tl_ald20 dX5_litBySpans_120 (tt_5_2 h1) (x9.toNatClampNeg) g18 rfl (tl_iload_n dX5_litBySpans_121 rfl (tl_iV1 tl_ck4 rfl (ta_20 (tt_5_2 h1) (tl_inlt g18)) (l4_burnsIn (ta_20 (tt_5_2 h1) (tl_inlt g18)) e19) dX5_litBySpans_122 cs_X5_litBySpans_122 ⟨rfl, rfl⟩ ⟨Nat.zero_le _, Nat.zero_le _⟩ (Nat.le_of_ble_eq_true rfl) (tl_if_eq (tgt := 150) dX5_litBySpans_125 (by decide) (fun c22 => ?_) (fun c22 => ?_)))))))
        · replace h := tl_ip h c22
          refine tl_iincK dX5_litBySpans_150 rfl (ii_1 _) (Nat.le_of_ble_eq_true rfl) (fun x23 e => ?_)
          have h := tl_leteq e h
          clear e
          refine tl_goto (tgt := 48) dX5_litBySpans_153 (by decide) (?_)
          exact ih.2 a1 x2 x3 x4 x5 x6 x7 x8 x23 _ (none) (none) (none) (none) (none) (none) (none) (none) (none) _ _ h1 h
        · replace h := tl_in h c22
          refine tl_iload dX5_litBySpans_128 rfl (tl_iload dX5_litBySpans_130 rfl (tl_icmp_ge (tgt := 150) dX5_litBySpans_132 (by decide) (fun c23 => ?_) (fun c23 => ?_)))
          · replace h := tl_ip h c23
            refine tl_iincK dX5_litBySpans_150 rfl (ii_1 _) (Nat.le_of_ble_eq_true rfl) (fun x24 e => ?_)
            have h := tl_leteq e h
            clear e
            refine tl_goto (tgt := 48) dX5_litBySpans_153 (by decide) (?_)
            exact ih.2 a1 x2 x3 x4 x5 x6 x7 x8 x24 _ (none) (none) (none) (none) (none) (none) (none) (none) (none) _ _ h1 h
          · replace h := tl_in h c23
            refine tl_iload dX5_litBySpans_135 rfl (tl_iload dX5_litBySpans_137 rfl (tl_icmp_ge (tgt := 150) dX5_litBySpans_139 (by decide) (fun c24 => ?_) (fun c24 => ?_)))
            · replace h := tl_ip h c24
              refine tl_iincK dX5_litBySpans_150 rfl (ii_1 _) (Nat.le_of_ble_eq_true rfl) (fun x25 e => ?_)
              have h := tl_leteq e h
              clear e
              refine tl_goto (tgt := 48) dX5_litBySpans_153 (by decide) (?_)
              exact ih.2 a1 x2 x3 x4 x5 x6 x7 x8 x25 _ (none) (none) (none) (none) (none) (none) (none) (none) (none) _ _ h1 h
            · replace h := tl_in h c24
              refine tl_iload dX5_litBySpans_142 rfl (tl_istore dX5_litBySpans_144 (Nat.le_of_ble_eq_true rfl) (tl_iload dX5_litBySpans_146 rfl (tl_istore dX5_litBySpans_148 (Nat.le_of_ble_eq_true rfl) (tl_iincK dX5_litBySpans_150 rfl (ii_1 _) (Nat.le_of_ble_eq_true rfl) (fun x25 e => ?_)))))
              have h := tl_leteq e h
              clear e
              refine tl_goto (tgt := 48) dX5_litBySpans_153 (by decide) (?_)
              exact ih.2 a1 x2 x3 x4 x5 x6 x14 x17 x25 _ (none) (none) (none) (none) (none) (none) (none) (none) (none) _ _ h1 h

theorem l5_litBySpans {E : tl_E} {a0 : Nat} {x1 : Int32}  {u : tl_S} {r : Int32} {v : tl_S} (h0 : tl_T E.2.1 a0 = some 5) (h : f5_litBySpans a0 x1 u = some (r, v)) : tl_MB E mX5_litBySpans [.ref a0, .int x1] u (fun q w => q = some (.int r) ∧ w = v) := by
  unfold f5_litBySpans at h
  refine tl_start [some (.ref a0), some (.int x1), none, none, none, none, none, none, none, none, none] rfl rfl rfl (Nat.le_of_ble_eq_true rfl) ?_
  obtain ⟨x5, u4, e3, h⟩ := tl_b2i h
  refine tl_aload_n dX5_litBySpans_0 rfl (tl_iload_n dX5_litBySpans_1 rfl (tl_iV1 tl_ck5 rfl h0 (l5_hasGallery h0 e3) dX5_litBySpans_2 cs_X5_litBySpans_2 ⟨rfl, rfl⟩ ⟨Nat.zero_le _, Nat.zero_le _⟩ (Nat.le_of_ble_eq_true rfl) (tl_if_eq (tgt := 20) dX5_litBySpans_5 (by decide) (fun c6 => ?_) (fun c6 => ?_))))
  · replace h := tl_ip h c6
    refine tl_iconst (v := 0) dX5_litBySpans_20 ic_0 (tl_istore_n dX5_litBySpans_21 (Nat.le_of_ble_eq_true rfl) (tl_iconst (v := 0) dX5_litBySpans_22 ic_0 (tl_istore_n dX5_litBySpans_23 (Nat.le_of_ble_eq_true rfl) (tl_iconst (v := 0) dX5_litBySpans_24 ic_0 (tl_istore dX5_litBySpans_25 (Nat.le_of_ble_eq_true rfl) (tl_iconst (v := 0) dX5_litBySpans_27 ic_0 (tl_istore dX5_litBySpans_28 (Nat.le_of_ble_eq_true rfl) (?_))))))))
    exact (l5_litBySpans_pN tl_F).1 a0 x1 0 0 0 0 0 0 0 _ (none) (none) (none) (none) (none) (none) _ _ _ _ _ h0 h
  · replace h := tl_in h c6
    obtain ⟨g7, h⟩ := tl_gi h
    refine tl_aload_n dX5_litBySpans_8 rfl (tl_getr (f := 0) (o := 1) tl_ck5 dX5_litBySpans_9 fl_X5_11 (Nat.le_of_ble_eq_true rfl) rfl h0 (tl_iload_n dX5_litBySpans_12 rfl (tl_ald18 dX5_litBySpans_13 (tt_5_0 h0) (x1.toNatClampNeg) g7 rfl (tl_geti (f := 0) tl_ck1 dX5_litBySpans_14 fl_X5_93 (Nat.le_of_ble_eq_true rfl) rfl (ta_18 (tt_5_0 h0) (tl_inlt g7)) (tl_goto (tgt := 21) dX5_litBySpans_17 (by decide) (tl_isto_n dX5_litBySpans_21 (Nat.le_of_ble_eq_true rfl) (fun x8 e => ?_)))))))
    have h := tl_leteq e h
    clear e
    refine tl_iconst (v := 0) dX5_litBySpans_22 ic_0 (tl_istore_n dX5_litBySpans_23 (Nat.le_of_ble_eq_true rfl) (tl_iconst (v := 0) dX5_litBySpans_24 ic_0 (tl_istore dX5_litBySpans_25 (Nat.le_of_ble_eq_true rfl) (tl_iconst (v := 0) dX5_litBySpans_27 ic_0 (tl_istore dX5_litBySpans_28 (Nat.le_of_ble_eq_true rfl) (?_))))))
    exact (l5_litBySpans_pN tl_F).1 a0 x1 x8 0 0 0 0 0 0 _ (none) (none) (none) (none) (none) (none) _ _ _ _ _ h0 h

theorem cs_X5_litCellByCell_2 : tl_cV mX5_litCellByCell mX5_hasGallery 89 1 := ⟨cd_X5_hasGallery, ml_X5_89, im_X5_hasGallery, se_X5_hasGallery, in_X5, ⟨by decide, by decide, by decide +kernel⟩, Nat.le_of_ble_eq_true rfl, Nat.le_of_ble_eq_true rfl⟩
theorem cs_X5_litCellByCell_37 : tl_cV mX5_litCellByCell mX5_isLit 107 2 := ⟨cd_X5_isLit, ml_X5_107, im_X5_isLit, se_X5_isLit, in_X5, ⟨by decide, by decide, by decide +kernel⟩, Nat.le_of_ble_eq_true rfl, Nat.le_of_ble_eq_true rfl⟩
def f5_litCellByCell_p27 : Nat → Nat → Int32 → Int32 → Int32 → Int32 → tl_S → Option (Int32 × tl_S)
  | 0, _, _, _, _, _, _ => none
  | fu + 1, a1, x2, x3, x4, x5, u =>
  (if x3 ≤ x5 then some (x4, u) else tl_b2 (f5_isLit a1 x2 x5 u) (fun x10 u9 => (if x10 = 0 then tl_let (x5 + 1) (fun x12 => f5_litCellByCell_p27 fu a1 x2 x3 x4 x12 u9) else tl_let (x4 + 1) (fun x12 => tl_let (x5 + 1) (fun x13 => f5_litCellByCell_p27 fu a1 x2 x3 x12 x13 u9)))))

def f5_litCellByCell (a0 : Nat) (x1 : Int32) (u : tl_S) : Option (Int32 × tl_S) :=
  tl_b2 (f5_hasGallery a0 x1 u) (fun x5 u4 => (if x5 = 0 then f5_litCellByCell_p27 tl_F a0 x1 0 0 0 u4 else tl_g (¬ (x1 < 0 ∨ 3 ≤ x1.toNatClampNeg)) (tl_let ((u4.1 ((a0 + 1) + (11 + x1.toNatClampNeg)) 0)) (fun x8 => f5_litCellByCell_p27 tl_F a0 x1 x8 0 0 u4))))

theorem l5_litCellByCell_p27 {E : tl_E}  {r : Int32} {v : tl_S} : ∀ (n : Nat) (a1 : Nat) (x2 : Int32) (x3 : Int32) (x4 : Int32) (x5 : Int32) (u : tl_S) , tl_T E.2.1 a1 = some 5 → f5_litCellByCell_p27 n a1 x2 x3 x4 x5 u = some (r, v) → tl_R E mX5_litCellByCell tl_X0 (tl_ZB E mX5_litCellByCell (fun q w => q = some (.int r) ∧ w = v)) 0 0 (tl_HB E u) 27 [some (.ref a1), some (.int x2), some (.int x3), some (.int x4), some (.int x5)] [] := by
  intro n
  induction n with
  | zero => intro a1 x2 x3 x4 x5 u  h1 h; exact absurd h (by simp [f5_litCellByCell_p27])
  | succ n ih =>
    intro a1 x2 x3 x4 x5 u  h1 h
    rw [f5_litCellByCell_p27] at h
    refine tl_iload dX5_litCellByCell_27 rfl (tl_iload_n dX5_litCellByCell_29 rfl (tl_icmp_ge (tgt := 52) dX5_litCellByCell_30 (by decide) (fun c7 => ?_) (fun c7 => ?_)))
    · replace h := tl_ip h c7
      exact tl_iload_n dX5_litCellByCell_52 rfl (tl_iretE dX5_litCellByCell_53 rfl rfl h)
    · replace h := tl_in h c7
      obtain ⟨x10, u9, e8, h⟩ := tl_b2i h
      refine tl_aload_n dX5_litCellByCell_33 rfl (tl_iload_n dX5_litCellByCell_34 rfl (tl_iload dX5_litCellByCell_35 rfl (tl_iV2 tl_ck5 rfl h1 (l5_isLit h1 e8) dX5_litCellByCell_37 cs_X5_litCellByCell_37 ⟨rfl, rfl⟩ ⟨Nat.zero_le _, Nat.zero_le _⟩ (Nat.le_of_ble_eq_true rfl) (tl_if_eq (tgt := 46) dX5_litCellByCell_40 (by decide) (fun c11 => ?_) (fun c11 => ?_)))))
      · replace h := tl_ip h c11
        refine tl_iincK dX5_litCellByCell_46 rfl (ii_1 _) (Nat.le_of_ble_eq_true rfl) (fun x12 e => ?_)
        have h := tl_leteq e h
        clear e
        refine tl_goto (tgt := 27) dX5_litCellByCell_49 (by decide) (?_)
        exact ih _ _ _ _ _ _  h1 h
      · replace h := tl_in h c11
        refine tl_iincK dX5_litCellByCell_43 rfl (ii_1 _) (Nat.le_of_ble_eq_true rfl) (fun x12 e => ?_)
        have h := tl_leteq e h
        clear e
        refine tl_iincK dX5_litCellByCell_46 rfl (ii_1 _) (Nat.le_of_ble_eq_true rfl) (fun x13 e => ?_)
        have h := tl_leteq e h
        clear e
        refine tl_goto (tgt := 27) dX5_litCellByCell_49 (by decide) (?_)
        exact ih _ _ _ _ _ _  h1 h

theorem l5_litCellByCell {E : tl_E} {a0 : Nat} {x1 : Int32}  {u : tl_S} {r : Int32} {v : tl_S} (h0 : tl_T E.2.1 a0 = some 5) (h : f5_litCellByCell a0 x1 u = some (r, v)) : tl_MB E mX5_litCellByCell [.ref a0, .int x1] u (fun q w => q = some (.int r) ∧ w = v) := by
  unfold f5_litCellByCell at h
  refine tl_start [some (.ref a0), some (.int x1), none, none, none] rfl rfl rfl (Nat.le_of_ble_eq_true rfl) ?_
  obtain ⟨x5, u4, e3, h⟩ := tl_b2i h
  refine tl_aload_n dX5_litCellByCell_0 rfl (tl_iload_n dX5_litCellByCell_1 rfl (tl_iV1 tl_ck5 rfl h0 (l5_hasGallery h0 e3) dX5_litCellByCell_2 cs_X5_litCellByCell_2 ⟨rfl, rfl⟩ ⟨Nat.zero_le _, Nat.zero_le _⟩ (Nat.le_of_ble_eq_true rfl) (tl_if_eq (tgt := 20) dX5_litCellByCell_5 (by decide) (fun c6 => ?_) (fun c6 => ?_))))
  · replace h := tl_ip h c6
    refine tl_iconst (v := 0) dX5_litCellByCell_20 ic_0 (tl_istore_n dX5_litCellByCell_21 (Nat.le_of_ble_eq_true rfl) (tl_iconst (v := 0) dX5_litCellByCell_22 ic_0 (tl_istore_n dX5_litCellByCell_23 (Nat.le_of_ble_eq_true rfl) (tl_iconst (v := 0) dX5_litCellByCell_24 ic_0 (tl_istore dX5_litCellByCell_25 (Nat.le_of_ble_eq_true rfl) (?_))))))
    exact l5_litCellByCell_p27 tl_F _ _ _ _ _ _  h0 h
  · replace h := tl_in h c6
    obtain ⟨g7, h⟩ := tl_gi h
    refine tl_aload_n dX5_litCellByCell_8 rfl (tl_getr (f := 0) (o := 1) tl_ck5 dX5_litCellByCell_9 fl_X5_11 (Nat.le_of_ble_eq_true rfl) rfl h0 (tl_iload_n dX5_litCellByCell_12 rfl (tl_ald18 dX5_litCellByCell_13 (tt_5_0 h0) (x1.toNatClampNeg) g7 rfl (tl_geti (f := 0) tl_ck1 dX5_litCellByCell_14 fl_X5_93 (Nat.le_of_ble_eq_true rfl) rfl (ta_18 (tt_5_0 h0) (tl_inlt g7)) (tl_goto (tgt := 21) dX5_litCellByCell_17 (by decide) (tl_isto_n dX5_litCellByCell_21 (Nat.le_of_ble_eq_true rfl) (fun x8 e => ?_)))))))
    have h := tl_leteq e h
    clear e
    refine tl_iconst (v := 0) dX5_litCellByCell_22 ic_0 (tl_istore_n dX5_litCellByCell_23 (Nat.le_of_ble_eq_true rfl) (tl_iconst (v := 0) dX5_litCellByCell_24 ic_0 (tl_istore dX5_litCellByCell_25 (Nat.le_of_ble_eq_true rfl) (?_))))
    exact l5_litCellByCell_p27 tl_F _ _ _ _ _ _  h0 h

theorem cs_X5_passes_37 : tl_cV mX5_passes mX5_hasGallery 89 1 := ⟨cd_X5_hasGallery, ml_X5_89, im_X5_hasGallery, se_X5_hasGallery, in_X5, ⟨by decide, by decide, by decide +kernel⟩, Nat.le_of_ble_eq_true rfl, Nat.le_of_ble_eq_true rfl⟩
theorem cs_X5_passes_60 : tl_cV mX5_passes mX5_isLit 107 2 := ⟨cd_X5_isLit, ml_X5_107, im_X5_isLit, se_X5_isLit, in_X5, ⟨by decide, by decide, by decide +kernel⟩, Nat.le_of_ble_eq_true rfl, Nat.le_of_ble_eq_true rfl⟩
theorem cs_X5_passes_90 : tl_cV mX5_passes mX5_hasGallery 89 1 := ⟨cd_X5_hasGallery, ml_X5_89, im_X5_hasGallery, se_X5_hasGallery, in_X5, ⟨by decide, by decide, by decide +kernel⟩, Nat.le_of_ble_eq_true rfl, Nat.le_of_ble_eq_true rfl⟩
theorem cs_X5_passes_126 : tl_cV mX5_passes mX5_hasLamp 166 1 := ⟨cd_X5_hasLamp, ml_X5_166, im_X5_hasLamp, se_X5_hasLamp, in_X5, ⟨by decide, by decide, by decide +kernel⟩, Nat.le_of_ble_eq_true rfl, Nat.le_of_ble_eq_true rfl⟩
def f5_passes (a0 : Nat) (a1 : Nat) (u : tl_S) : Option (Int32 × tl_S) :=
  (if ((u.1 a1 0)).toInt < 11 ∨ 13 < ((u.1 a1 0)).toInt then (if (u.1 a1 1) < (u.1 (a0 + 4) 1) then some (0, u) else some (1, u)) else (if ((u.1 a1 0)).toInt = 11 then tl_b2 (f5_hasGallery a0 (u.1 a1 1) u) (fun x7 u6 => (if x7 = 0 then some (0, u6) else tl_g (¬ ((u6.1 a1 1) < 0 ∨ 3 ≤ (u6.1 a1 1).toNatClampNeg)) (tl_b2 (f5_isLit a0 (u6.1 a1 1) (u6.1 ((a0 + 1) + (11 + (u6.1 a1 1).toNatClampNeg)) 0) u6) (fun x12 u11 => (if (u11.1 a1 2) = 1 then (if x12 = 1 then some (1, u11) else some (0, u11)) else (if x12 = 0 then some (1, u11) else some (0, u11))))))) else (if ((u.1 a1 0)).toInt = 12 then tl_b2 (f5_hasGallery a0 (u.1 a1 1) u) (fun x7 u6 => (if x7 = 0 then some (0, u6) else tl_g (¬ ((u6.1 a1 1) < 0 ∨ 3 ≤ (u6.1 a1 1).toNatClampNeg)) ((if (u6.1 ((a0 + 1) + (11 + (u6.1 a1 1).toNatClampNeg)) 0) < (u6.1 a1 2) then some (0, u6) else some (1, u6))))) else tl_b2 (f5_hasLamp a0 (u.1 a1 1) u) (fun x7 u6 => (if x7 = 0 then some (0, u6) else tl_g (¬ ((u6.1 a1 1) < 0 ∨ 8 ≤ (u6.1 a1 1).toNatClampNeg)) ((if (u6.1 ((a0 + 3) + (18 + (u6.1 a1 1).toNatClampNeg)) 3) < (u6.1 a1 2) then some (0, u6) else some (1, u6))))))))

theorem l5_passes {E : tl_E} {a0 : Nat} {a1 : Nat}  {u : tl_S} {r : Int32} {v : tl_S} (h0 : tl_T E.2.1 a0 = some 5) (h1 : tl_T E.2.1 a1 = some 0) (h : f5_passes a0 a1 u = some (r, v)) : tl_MB E mX5_passes [.ref a0, .ref a1] u (fun q w => q = some (.int r) ∧ w = v) := by
  unfold f5_passes at h
  refine tl_start [some (.ref a0), some (.ref a1)] rfl rfl rfl (Nat.le_of_ble_eq_true rfl) ?_
  refine tl_aload_n dX5_passes_0 rfl (tl_geti (f := 0) tl_ck0 dX5_passes_1 fl_X5_135 (Nat.le_of_ble_eq_true rfl) rfl h1 (?_))
  by_cases c3 : ((u.1 a1 0)).toInt < 11 ∨ 13 < ((u.1 a1 0)).toInt
  · replace h := tl_ip h c3
    refine tl_tableOut (tgt := 157) dX5_passes_4 c3 (by decide) ?_
    refine tl_aload_n dX5_passes_157 rfl (tl_getr (f := 3) (o := 4) tl_ck5 dX5_passes_158 fl_X5_32 (Nat.le_of_ble_eq_true rfl) rfl h0 (tl_geti (f := 1) tl_ck3 dX5_passes_161 fl_X5_223 (Nat.le_of_ble_eq_true rfl) rfl (tt_5_3 h0) (tl_aload_n dX5_passes_164 rfl (tl_geti (f := 1) tl_ck0 dX5_passes_165 fl_X5_140 (Nat.le_of_ble_eq_true rfl) rfl h1 (tl_icmp_gt (tgt := 175) dX5_passes_168 (by decide) (fun c5 => ?_) (fun c5 => ?_))))))
    · replace h := tl_ip h c5
      exact tl_iconst (v := 0) dX5_passes_175 ic_0 (tl_iretE dX5_passes_176 rfl rfl h)
    · replace h := tl_in h c5
      exact tl_iconst (v := 1) dX5_passes_171 ic_1 (tl_goto (tgt := 176) dX5_passes_172 (by decide) (tl_iretE dX5_passes_176 rfl rfl h))
  replace h := tl_in h c3
  by_cases c4_11 : ((u.1 a1 0)).toInt = 11
  · replace h := tl_ip h c4_11
    refine tl_tableIn (off := 28) (tgt := 32) dX5_passes_4 (by omega) (by omega) (by rw [c4_11]; rfl) (by decide) ?_
    obtain ⟨x7, u6, e5, h⟩ := tl_b2i h
    refine tl_aload_n dX5_passes_32 rfl (tl_aload_n dX5_passes_33 rfl (tl_geti (f := 1) tl_ck0 dX5_passes_34 fl_X5_140 (Nat.le_of_ble_eq_true rfl) rfl h1 (tl_iV1 tl_ck5 rfl h0 (l5_hasGallery h0 e5) dX5_passes_37 cs_X5_passes_37 ⟨rfl, rfl⟩ ⟨Nat.zero_le _, Nat.zero_le _⟩ (Nat.le_of_ble_eq_true rfl) (tl_if_eq (tgt := 83) dX5_passes_40 (by decide) (fun c8 => ?_) (fun c8 => ?_)))))
    · replace h := tl_ip h c8
      exact tl_iconst (v := 0) dX5_passes_83 ic_0 (tl_iretE dX5_passes_84 rfl rfl h)
    · replace h := tl_in h c8
      obtain ⟨g9, h⟩ := tl_gi h
      obtain ⟨x12, u11, e10, h⟩ := tl_b2i h
      refine tl_aload_n dX5_passes_43 rfl (tl_aload_n dX5_passes_44 rfl (tl_geti (f := 1) tl_ck0 dX5_passes_45 fl_X5_140 (Nat.le_of_ble_eq_true rfl) rfl h1 (tl_aload_n dX5_passes_48 rfl (tl_getr (f := 0) (o := 1) tl_ck5 dX5_passes_49 fl_X5_11 (Nat.le_of_ble_eq_true rfl) rfl h0 (tl_aload_n dX5_passes_52 rfl (tl_geti (f := 1) tl_ck0 dX5_passes_53 fl_X5_140 (Nat.le_of_ble_eq_true rfl) rfl h1 (tl_ald18 dX5_passes_56 (tt_5_0 h0) ((u6.1 a1 1).toNatClampNeg) g9 rfl (tl_geti (f := 0) tl_ck1 dX5_passes_57 fl_X5_93 (Nat.le_of_ble_eq_true rfl) rfl (ta_18 (tt_5_0 h0) (tl_inlt g9)) (tl_iV2 tl_ck5 rfl h0 (l5_isLit h0 e10) dX5_passes_60 cs_X5_passes_60 ⟨rfl, rfl⟩ ⟨Nat.zero_le _, Nat.zero_le _⟩ (Nat.le_of_ble_eq_true rfl) (tl_aload_n dX5_passes_63 rfl (tl_geti (f := 2) tl_ck0 dX5_passes_64 fl_X5_151 (Nat.le_of_ble_eq_true rfl) rfl h1 (tl_iconst (v := 1) dX5_passes_67 ic_1 (tl_icmp_ne (tgt := 75) dX5_passes_68 (by decide) (fun c13 => ?_) (fun c13 => ?_))))))))))))))
      · replace h := tl_in h c13
        refine tl_iconst (v := 0) dX5_passes_75 ic_0 (tl_icmp_ne (tgt := 83) dX5_passes_76 (by decide) (fun c14 => ?_) (fun c14 => ?_))
        · replace h := tl_in h c14
          exact tl_iconst (v := 0) dX5_passes_83 ic_0 (tl_iretE dX5_passes_84 rfl rfl h)
        · replace h := tl_ip h c14
          exact tl_iconst (v := 1) dX5_passes_79 ic_1 (tl_goto (tgt := 84) dX5_passes_80 (by decide) (tl_iretE dX5_passes_84 rfl rfl h))
      · replace h := tl_ip h c13
        refine tl_iconst (v := 1) dX5_passes_71 ic_1 (tl_goto (tgt := 76) dX5_passes_72 (by decide) (tl_icmp_ne (tgt := 83) dX5_passes_76 (by decide) (fun c14 => ?_) (fun c14 => ?_)))
        · replace h := tl_in h c14
          exact tl_iconst (v := 0) dX5_passes_83 ic_0 (tl_iretE dX5_passes_84 rfl rfl h)
        · replace h := tl_ip h c14
          exact tl_iconst (v := 1) dX5_passes_79 ic_1 (tl_goto (tgt := 84) dX5_passes_80 (by decide) (tl_iretE dX5_passes_84 rfl rfl h))
  replace h := tl_in h c4_11
  by_cases c4_12 : ((u.1 a1 0)).toInt = 12
  · replace h := tl_ip h c4_12
    refine tl_tableIn (off := 81) (tgt := 85) dX5_passes_4 (by omega) (by omega) (by rw [c4_12]; rfl) (by decide) ?_
    obtain ⟨x7, u6, e5, h⟩ := tl_b2i h
    refine tl_aload_n dX5_passes_85 rfl (tl_aload_n dX5_passes_86 rfl (tl_geti (f := 1) tl_ck0 dX5_passes_87 fl_X5_140 (Nat.le_of_ble_eq_true rfl) rfl h1 (tl_iV1 tl_ck5 rfl h0 (l5_hasGallery h0 e5) dX5_passes_90 cs_X5_passes_90 ⟨rfl, rfl⟩ ⟨Nat.zero_le _, Nat.zero_le _⟩ (Nat.le_of_ble_eq_true rfl) (tl_if_eq (tgt := 119) dX5_passes_93 (by decide) (fun c8 => ?_) (fun c8 => ?_)))))
    · replace h := tl_ip h c8
      exact tl_iconst (v := 0) dX5_passes_119 ic_0 (tl_iretE dX5_passes_120 rfl rfl h)
    · replace h := tl_in h c8
      obtain ⟨g9, h⟩ := tl_gi h
      refine tl_aload_n dX5_passes_96 rfl (tl_getr (f := 0) (o := 1) tl_ck5 dX5_passes_97 fl_X5_11 (Nat.le_of_ble_eq_true rfl) rfl h0 (tl_aload_n dX5_passes_100 rfl (tl_geti (f := 1) tl_ck0 dX5_passes_101 fl_X5_140 (Nat.le_of_ble_eq_true rfl) rfl h1 (tl_ald18 dX5_passes_104 (tt_5_0 h0) ((u6.1 a1 1).toNatClampNeg) g9 rfl (tl_geti (f := 0) tl_ck1 dX5_passes_105 fl_X5_93 (Nat.le_of_ble_eq_true rfl) rfl (ta_18 (tt_5_0 h0) (tl_inlt g9)) (tl_aload_n dX5_passes_108 rfl (tl_geti (f := 2) tl_ck0 dX5_passes_109 fl_X5_151 (Nat.le_of_ble_eq_true rfl) rfl h1 (tl_icmp_lt (tgt := 119) dX5_passes_112 (by decide) (fun c10 => ?_) (fun c10 => ?_)))))))))
      · replace h := tl_ip h c10
        exact tl_iconst (v := 0) dX5_passes_119 ic_0 (tl_iretE dX5_passes_120 rfl rfl h)
      · replace h := tl_in h c10
        exact tl_iconst (v := 1) dX5_passes_115 ic_1 (tl_goto (tgt := 120) dX5_passes_116 (by decide) (tl_iretE dX5_passes_120 rfl rfl h))
  replace h := tl_in h c4_12
  have c4_13 : ((u.1 a1 0)).toInt = 13 := by omega
  refine tl_tableIn (off := 117) (tgt := 121) dX5_passes_4 (by omega) (by omega) (by rw [c4_13]; rfl) (by decide) ?_
  obtain ⟨x7, u6, e5, h⟩ := tl_b2i h
  refine tl_aload_n dX5_passes_121 rfl (tl_aload_n dX5_passes_122 rfl (tl_geti (f := 1) tl_ck0 dX5_passes_123 fl_X5_140 (Nat.le_of_ble_eq_true rfl) rfl h1 (tl_iV1 tl_ck5 rfl h0 (l5_hasLamp h0 e5) dX5_passes_126 cs_X5_passes_126 ⟨rfl, rfl⟩ ⟨Nat.zero_le _, Nat.zero_le _⟩ (Nat.le_of_ble_eq_true rfl) (tl_if_eq (tgt := 155) dX5_passes_129 (by decide) (fun c8 => ?_) (fun c8 => ?_)))))
  · replace h := tl_ip h c8
    exact tl_iconst (v := 0) dX5_passes_155 ic_0 (tl_iretE dX5_passes_156 rfl rfl h)
  · replace h := tl_in h c8
    obtain ⟨g9, h⟩ := tl_gi h
    refine tl_aload_n dX5_passes_132 rfl (tl_getr (f := 2) (o := 3) tl_ck5 dX5_passes_133 fl_X5_25 (Nat.le_of_ble_eq_true rfl) rfl h0 (tl_aload_n dX5_passes_136 rfl (tl_geti (f := 1) tl_ck0 dX5_passes_137 fl_X5_140 (Nat.le_of_ble_eq_true rfl) rfl h1 (tl_ald20 dX5_passes_140 (tt_5_2 h0) ((u6.1 a1 1).toNatClampNeg) g9 rfl (tl_geti (f := 3) tl_ck4 dX5_passes_141 fl_X5_96 (Nat.le_of_ble_eq_true rfl) rfl (ta_20 (tt_5_2 h0) (tl_inlt g9)) (tl_aload_n dX5_passes_144 rfl (tl_geti (f := 2) tl_ck0 dX5_passes_145 fl_X5_151 (Nat.le_of_ble_eq_true rfl) rfl h1 (tl_icmp_lt (tgt := 155) dX5_passes_148 (by decide) (fun c10 => ?_) (fun c10 => ?_)))))))))
    · replace h := tl_ip h c10
      exact tl_iconst (v := 0) dX5_passes_155 ic_0 (tl_iretE dX5_passes_156 rfl rfl h)
    · replace h := tl_in h c10
      exact tl_iconst (v := 1) dX5_passes_151 ic_1 (tl_goto (tgt := 156) dX5_passes_152 (by decide) (tl_iretE dX5_passes_156 rfl rfl h))

