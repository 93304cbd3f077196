/-! Printed by wip/whole/gen: what the bytes compute, and the walks. -/

def f10_clear_p2 : Nat → Nat → Int32 → tl_S → Option (tl_S)
  | 0, _, _, _ => none
  | fu + 1, a1, x2, u =>
  (if 104 ≤ x2 then tl_let ((tl_u u.1 a1 13 (-1), u.2) : tl_S) (fun u5 => tl_let ((tl_u u5.1 a1 16 4, u5.2) : tl_S) (fun u6 => some u6)) else tl_g (¬ (x2 < 0 ∨ 104 ≤ x2.toNatClampNeg)) (tl_let ((tl_u u.1 a1 x2.toNatClampNeg 0, u.2) : tl_S) (fun u6 => tl_let (x2 + 1) (fun x7 => f10_clear_p2 fu a1 x7 u6))))

def f10_clear (a1 : Nat) (u : tl_S) : Option (tl_S) :=
  f10_clear_p2 tl_F a1 0 u

theorem l10_clear_p2 {E : tl_E}  {v : tl_S} : ∀ (n : Nat) (a1 : Nat) (x2 : Int32) (u : tl_S) , tl_T E.2.1 a1 = some 13 → f10_clear_p2 n a1 x2 u = some v → tl_R E mX10_clear tl_X0 (tl_ZB E mX10_clear (fun q w => q = none ∧ w = v)) 0 0 (tl_HB E u) 2 [some (.ref a1), some (.int x2)] [] := by
  intro n
  induction n with
  | zero => intro a1 x2 u  h1 h; exact absurd h (by simp [f10_clear_p2])
  | succ n ih =>
    intro a1 x2 u  h1 h
    rw [f10_clear_p2] at h
    refine tl_iload_n dX10_clear_2 rfl (tl_bipush (v := 104) dX10_clear_3 bp_104 (tl_icmp_ge (tgt := 18) dX10_clear_5 (by decide) (fun c4 => ?_) (fun c4 => ?_)))
    · replace h := tl_ip h c4
      refine tl_aload_n dX10_clear_18 rfl (tl_bipush (v := 13) dX10_clear_19 bp_13 (tl_iconst (v := (-1)) dX10_clear_21 ic_m1 (tl_iastK (fun _ _ => rfl) dX10_clear_22 h1 (13) (li_13 104 rfl) lx_13 (fun u5 e => ?_))))
      have h := tl_leteq e h
      clear e
      refine tl_aload_n dX10_clear_23 rfl (tl_bipush (v := 16) dX10_clear_24 bp_16 (tl_iconst (v := 4) dX10_clear_26 ic_4 (tl_iastK (fun _ _ => rfl) dX10_clear_27 h1 (16) (li_16 104 rfl) lx_16 (fun u6 e => ?_))))
      have h := tl_leteq e h
      clear e
      exact tl_vretE dX10_clear_28 rfl h
    · replace h := tl_in h c4
      obtain ⟨g5, h⟩ := tl_gi h
      refine tl_aload_n dX10_clear_8 rfl (tl_iload_n dX10_clear_9 rfl (tl_iconst (v := 0) dX10_clear_10 ic_0 (tl_iastK (fun _ _ => rfl) dX10_clear_11 h1 (x2.toNatClampNeg) g5 rfl (fun u6 e => ?_))))
      have h := tl_leteq e h
      clear e
      refine tl_iincK dX10_clear_12 rfl (ii_1 _) (Nat.le_of_ble_eq_true rfl) (fun x7 e => ?_)
      have h := tl_leteq e h
      clear e
      refine tl_goto (tgt := 2) dX10_clear_15 (by decide) (?_)
      exact ih _ _ _  h1 h

theorem l10_clear {E : tl_E} {a1 : Nat}  {u : tl_S} {v : tl_S} (h1 : tl_T E.2.1 a1 = some 13) (h : f10_clear a1 u = some v) : tl_MB E mX10_clear [.ref a1] u (fun q w => q = none ∧ w = v) := by
  unfold f10_clear at h
  refine tl_start [some (.ref a1), none] rfl rfl rfl (Nat.le_of_ble_eq_true rfl) ?_
  refine tl_iconst (v := 0) dX10_clear_0 ic_0 (tl_istore_n dX10_clear_1 (Nat.le_of_ble_eq_true rfl) (?_))
  exact l10_clear_p2 tl_F _ _ _  h1 h


def f10_thrown (a0 : Nat) (u : tl_S) : Option (Int32 × tl_S) :=
  some ((u.1 a0 0), u)

theorem l10_thrown {E : tl_E} {a0 : Nat}  {u : tl_S} {r : Int32} {v : tl_S} (h0 : tl_T E.2.1 a0 = some 10) (h : f10_thrown a0 u = some (r, v)) : tl_MB E mX10_thrown [.ref a0] u (fun q w => q = some (.int r) ∧ w = v) := by
  unfold f10_thrown at h
  refine tl_start [some (.ref a0)] rfl rfl rfl (Nat.le_of_ble_eq_true rfl) ?_
  exact tl_aload_n dX10_thrown_0 rfl (tl_geti (f := 0) tl_ck10 dX10_thrown_1 fl_X10_33 (Nat.le_of_ble_eq_true rfl) rfl h0 (tl_iretE dX10_thrown_4 rfl rfl h))


def f10_refused (a0 : Nat) (x1 : Int32) (u : tl_S) : Option (Int32 × tl_S) :=
  tl_let ((tl_u u.1 a0 0 x1, u.2) : tl_S) (fun u3 => (if x1 ≤ 0 then some (0, u3) else some (1, u3)))

theorem l10_refused {E : tl_E} {a0 : Nat} {x1 : Int32}  {u : tl_S} {r : Int32} {v : tl_S} (h0 : tl_T E.2.1 a0 = some 10) (h : f10_refused a0 x1 u = some (r, v)) : tl_MB E mX10_refused [.ref a0, .int x1] u (fun q w => q = some (.int r) ∧ w = v) := by
  unfold f10_refused at h
  refine tl_start [some (.ref a0), some (.int x1)] rfl rfl rfl (Nat.le_of_ble_eq_true rfl) ?_
  refine tl_aload_n dX10_refused_0 rfl (tl_iload_n dX10_refused_1 rfl (tl_puti (f := 0) tl_ck10 dX10_refused_2 fl_X10_33 (Nat.le_of_ble_eq_true rfl) rfl rfl rfl h0 (fun u3 e => ?_)))
  have h := tl_leteq e h
  clear e
  refine tl_iload_n dX10_refused_5 rfl (tl_if_le (tgt := 13) dX10_refused_6 (by decide) (fun c4 => ?_) (fun c4 => ?_))
  · replace h := tl_ip h c4
    exact tl_iconst (v := 0) dX10_refused_13 ic_0 (tl_iretE dX10_refused_14 rfl rfl h)
  · replace h := tl_in h c4
    exact tl_iconst (v := 1) dX10_refused_9 ic_1 (tl_goto (tgt := 14) dX10_refused_10 (by decide) (tl_iretE dX10_refused_14 rfl rfl h))


def f10_in (x1 : Int64) (x2 : Int64) (x3 : Int64) (u : tl_S) : Option (Int32 × tl_S) :=
  (if (lg_cmp x1 x2) < 0 then some (0, u) else (if 0 < (lg_cmp x1 x3) then some (0, u) else some (1, u)))

theorem l10_in {E : tl_E} {x1 : Int64} {x2 : Int64} {x3 : Int64}  {u : tl_S} {r : Int32} {v : tl_S}  (h : f10_in x1 x2 x3 u = some (r, v)) : tl_MB E mX10_in [.long x1, .long x2, .long x3] u (fun q w => q = some (.int r) ∧ w = v) := by
  unfold f10_in at h
  refine tl_start [some (.long x1), none, some (.long x2), none, some (.long x3), none] rfl rfl rfl (Nat.le_of_ble_eq_true rfl) ?_
  refine tl_lload_n dX10_in_0 rfl (tl_lload_n dX10_in_1 rfl (tl_lcmp dX10_in_2 (tl_if_lt (tgt := 17) dX10_in_3 (by decide) (fun c5 => ?_) (fun c5 => ?_))))
  · replace h := tl_ip h c5
    exact tl_iconst (v := 0) dX10_in_17 ic_0 (tl_iretE dX10_in_18 rfl rfl h)
  · replace h := tl_in h c5
    refine tl_lload_n dX10_in_6 rfl (tl_lload dX10_in_7 rfl (tl_lcmp dX10_in_9 (tl_if_gt (tgt := 17) dX10_in_10 (by decide) (fun c6 => ?_) (fun c6 => ?_))))
    · replace h := tl_ip h c6
      exact tl_iconst (v := 0) dX10_in_17 ic_0 (tl_iretE dX10_in_18 rfl rfl h)
    · replace h := tl_in h c6
      exact tl_iconst (v := 1) dX10_in_13 ic_1 (tl_goto (tgt := 18) dX10_in_14 (by decide) (tl_iretE dX10_in_18 rfl rfl h))


def f10_copyState_p3 : Nat → Nat → Nat → Int32 → Nat → Nat → Int32 → Int32 → tl_S → Option (tl_S)
  | 0, _, _, _, _, _, _, _, _ => none
  | fu + 1, a1, N1, x2, a3, N3, x4, x5, u =>
  (if 104 ≤ x5 then some u else tl_g (¬ ((x2 + x5) < 0 ∨ N1 ≤ (x2 + x5).toNatClampNeg)) (tl_g (¬ ((x4 + x5) < 0 ∨ N3 ≤ (x4 + x5).toNatClampNeg)) (tl_let ((tl_u u.1 a3 ((x4 + x5).toNatClampNeg) (u.1 a1 (x2 + x5).toNatClampNeg), u.2) : tl_S) (fun u10 => tl_let (x5 + 1) (fun x11 => f10_copyState_p3 fu a1 N1 x2 a3 N3 x4 x11 u10)))))

def f10_copyState (a1 : Nat) (N1 : Nat) (x2 : Int32) (a3 : Nat) (N3 : Nat) (x4 : Int32) (u : tl_S) : Option (tl_S) :=
  f10_copyState_p3 tl_F a1 N1 x2 a3 N3 x4 0 u

theorem l10_copyState_p3 {E : tl_E} {K1 : Nat} {K3 : Nat} {v : tl_S} : ∀ (n : Nat) (a1 : Nat) (N1 : Nat) (x2 : Int32) (a3 : Nat) (N3 : Nat) (x4 : Int32) (x5 : Int32) (u : tl_S) , (∀ (dA : Nat → ClassId) (u : tl_S), tl_ce dA K1 a1 u = .inl (dA 0, N1, .inl (u.1 a1))) → tl_T E.2.1 a1 = some K1 → (∀ (dA : Nat → ClassId) (u : tl_S), tl_ce dA K3 a3 u = .inl (dA 0, N3, .inl (u.1 a3))) → tl_T E.2.1 a3 = some K3 → f10_copyState_p3 n a1 N1 x2 a3 N3 x4 x5 u = some v → tl_R E mX10_copyState tl_X0 (tl_ZB E mX10_copyState (fun q w => q = none ∧ w = v)) 0 0 (tl_HB E u) 3 [some (.ref a1), some (.int x2), some (.ref a3), some (.int x4), some (.int x5)] [] := by
  intro n
  induction n with
  | zero => intro a1 N1 x2 a3 N3 x4 x5 u  c1 h1 c3 h3 h; exact absurd h (by simp [f10_copyState_p3])
  | succ n ih =>
    intro a1 N1 x2 a3 N3 x4 x5 u  c1 h1 c3 h3 h
    rw [f10_copyState_p3] at h
    refine tl_iload dX10_copyState_3 rfl (tl_bipush (v := 104) dX10_copyState_5 bp_104 (tl_icmp_ge (tgt := 28) dX10_copyState_7 (by decide) (fun c7 => ?_) (fun c7 => ?_)))
    · replace h := tl_ip h c7
      exact tl_vretE dX10_copyState_28 rfl h
    · replace h := tl_in h c7
      obtain ⟨g8, h⟩ := tl_gi h
      obtain ⟨g9, h⟩ := tl_gi h
      refine tl_aload_n dX10_copyState_10 rfl (tl_iload_n dX10_copyState_11 rfl (tl_iload dX10_copyState_12 rfl (tl_iadd dX10_copyState_14 (tl_aload_n dX10_copyState_15 rfl (tl_iload_n dX10_copyState_16 rfl (tl_iload dX10_copyState_17 rfl (tl_iadd dX10_copyState_19 (tl_iald (j := (x2 + x5).toNatClampNeg) c1 dX10_copyState_20 h1 g8 rfl (tl_iastK c3 dX10_copyState_21 h3 ((x4 + x5).toNatClampNeg) g9 rfl (fun u10 e => ?_))))))))))
      have h := tl_leteq e h
      clear e
      refine tl_iincK dX10_copyState_22 rfl (ii_1 _) (Nat.le_of_ble_eq_true rfl) (fun x11 e => ?_)
      have h := tl_leteq e h
      clear e
      refine tl_goto (tgt := 3) dX10_copyState_25 (by decide) (?_)
      exact ih _ _ _ _ _ _ _ _  c1 h1 c3 h3 h

theorem l10_copyState {E : tl_E} {a1 : Nat} {N1 : Nat} {x2 : Int32} {a3 : Nat} {N3 : Nat} {x4 : Int32} {K1 : Nat} {K3 : Nat} {u : tl_S} {v : tl_S} (c1 : ∀ (dA : Nat → ClassId) (u : tl_S), tl_ce dA K1 a1 u = .inl (dA 0, N1, .inl (u.1 a1))) (h1 : tl_T E.2.1 a1 = some K1) (c3 : ∀ (dA : Nat → ClassId) (u : tl_S), tl_ce dA K3 a3 u = .inl (dA 0, N3, .inl (u.1 a3))) (h3 : tl_T E.2.1 a3 = some K3) (h : f10_copyState a1 N1 x2 a3 N3 x4 u = some v) : tl_MB E mX10_copyState [.ref a1, .int x2, .ref a3, .int x4] u (fun q w => q = none ∧ w = v) := by
  unfold f10_copyState at h
  refine tl_start [some (.ref a1), some (.int x2), some (.ref a3), some (.int x4), none] rfl rfl rfl (Nat.le_of_ble_eq_true rfl) ?_
  refine tl_iconst (v := 0) dX10_copyState_0 ic_0 (tl_istore dX10_copyState_1 (Nat.le_of_ble_eq_true rfl) (?_))
  exact l10_copyState_p3 tl_F _ _ _ _ _ _ _ _  c1 h1 c3 h3 h


def f10_depth (a1 : Nat) (x2 : Int32) (u : tl_S) : Option (Int32 × tl_S) :=
  tl_g (¬ ((18 + (2 * x2)) < 0 ∨ 104 ≤ (18 + (2 * x2)).toNatClampNeg)) (some ((u.1 a1 (18 + (2 * x2)).toNatClampNeg), u))

theorem l10_depth {E : tl_E} {a1 : Nat} {x2 : Int32}  {u : tl_S} {r : Int32} {v : tl_S} (h1 : tl_T E.2.1 a1 = some 13) (h : f10_depth a1 x2 u = some (r, v)) : tl_MB E mX10_depth [.ref a1, .int x2] u (fun q w => q = some (.int r) ∧ w = v) := by
  unfold f10_depth at h
  refine tl_start [some (.ref a1), some (.int x2)] rfl rfl rfl (Nat.le_of_ble_eq_true rfl) ?_
  obtain ⟨g4, h⟩ := tl_gi h
  exact tl_aload_n dX10_depth_0 rfl (tl_bipush (v := 18) dX10_depth_1 bp_18 (tl_iconst (v := 2) dX10_depth_3 ic_2 (tl_iload_n dX10_depth_4 rfl (tl_imul dX10_depth_5 (tl_iadd dX10_depth_6 (tl_iald (j := (18 + (2 * x2)).toNatClampNeg) (fun _ _ => rfl) dX10_depth_7 h1 g4 rfl (tl_iretE dX10_depth_8 rfl rfl h)))))))


def f10_ofMiner (a1 : Nat) (x2 : Int32) (x3 : Int32) (u : tl_S) : Option (Int32 × tl_S) :=
  tl_g (¬ (((24 + (4 * x2)) + x3) < 0 ∨ 104 ≤ ((24 + (4 * x2)) + x3).toNatClampNeg)) (some ((u.1 a1 ((24 + (4 * x2)) + x3).toNatClampNeg), u))

theorem l10_ofMiner {E : tl_E} {a1 : Nat} {x2 : Int32} {x3 : Int32}  {u : tl_S} {r : Int32} {v : tl_S} (h1 : tl_T E.2.1 a1 = some 13) (h : f10_ofMiner a1 x2 x3 u = some (r, v)) : tl_MB E mX10_ofMiner [.ref a1, .int x2, .int x3] u (fun q w => q = some (.int r) ∧ w = v) := by
  unfold f10_ofMiner at h
  refine tl_start [some (.ref a1), some (.int x2), some (.int x3)] rfl rfl rfl (Nat.le_of_ble_eq_true rfl) ?_
  obtain ⟨g5, h⟩ := tl_gi h
  exact tl_aload_n dX10_ofMiner_0 rfl (tl_bipush (v := 24) dX10_ofMiner_1 bp_24 (tl_iconst (v := 4) dX10_ofMiner_3 ic_4 (tl_iload_n dX10_ofMiner_4 rfl (tl_imul dX10_ofMiner_5 (tl_iadd dX10_ofMiner_6 (tl_iload_n dX10_ofMiner_7 rfl (tl_iadd dX10_ofMiner_8 (tl_iald (j := ((24 + (4 * x2)) + x3).toNatClampNeg) (fun _ _ => rfl) dX10_ofMiner_9 h1 g5 rfl (tl_iretE dX10_ofMiner_10 rfl rfl h)))))))))


def f10_ofLamp (a1 : Nat) (x2 : Int32) (x3 : Int32) (u : tl_S) : Option (Int32 × tl_S) :=
  tl_g (¬ (((48 + (4 * x2)) + x3) < 0 ∨ 104 ≤ ((48 + (4 * x2)) + x3).toNatClampNeg)) (some ((u.1 a1 ((48 + (4 * x2)) + x3).toNatClampNeg), u))

theorem l10_ofLamp {E : tl_E} {a1 : Nat} {x2 : Int32} {x3 : Int32}  {u : tl_S} {r : Int32} {v : tl_S} (h1 : tl_T E.2.1 a1 = some 13) (h : f10_ofLamp a1 x2 x3 u = some (r, v)) : tl_MB E mX10_ofLamp [.ref a1, .int x2, .int x3] u (fun q w => q = some (.int r) ∧ w = v) := by
  unfold f10_ofLamp at h
  refine tl_start [some (.ref a1), some (.int x2), some (.int x3)] rfl rfl rfl (Nat.le_of_ble_eq_true rfl) ?_
  obtain ⟨g5, h⟩ := tl_gi h
  exact tl_aload_n dX10_ofLamp_0 rfl (tl_bipush (v := 48) dX10_ofLamp_1 bp_48 (tl_iconst (v := 4) dX10_ofLamp_3 ic_4 (tl_iload_n dX10_ofLamp_4 rfl (tl_imul dX10_ofLamp_5 (tl_iadd dX10_ofLamp_6 (tl_iload_n dX10_ofLamp_7 rfl (tl_iadd dX10_ofLamp_8 (tl_iald (j := ((48 + (4 * x2)) + x3).toNatClampNeg) (fun _ _ => rfl) dX10_ofLamp_9 h1 g5 rfl (tl_iretE dX10_ofLamp_10 rfl rfl h)))))))))


def f10_ofOrder (a1 : Nat) (x2 : Int32) (x3 : Int32) (u : tl_S) : Option (Int32 × tl_S) :=
  tl_g (¬ (((80 + (4 * x2)) + x3) < 0 ∨ 104 ≤ ((80 + (4 * x2)) + x3).toNatClampNeg)) (some ((u.1 a1 ((80 + (4 * x2)) + x3).toNatClampNeg), u))

theorem l10_ofOrder {E : tl_E} {a1 : Nat} {x2 : Int32} {x3 : Int32}  {u : tl_S} {r : Int32} {v : tl_S} (h1 : tl_T E.2.1 a1 = some 13) (h : f10_ofOrder a1 x2 x3 u = some (r, v)) : tl_MB E mX10_ofOrder [.ref a1, .int x2, .int x3] u (fun q w => q = some (.int r) ∧ w = v) := by
  unfold f10_ofOrder at h
  refine tl_start [some (.ref a1), some (.int x2), some (.int x3)] rfl rfl rfl (Nat.le_of_ble_eq_true rfl) ?_
  obtain ⟨g5, h⟩ := tl_gi h
  exact tl_aload_n dX10_ofOrder_0 rfl (tl_bipush (v := 80) dX10_ofOrder_1 bp_80 (tl_iconst (v := 4) dX10_ofOrder_3 ic_4 (tl_iload_n dX10_ofOrder_4 rfl (tl_imul dX10_ofOrder_5 (tl_iadd dX10_ofOrder_6 (tl_iload_n dX10_ofOrder_7 rfl (tl_iadd dX10_ofOrder_8 (tl_iald (j := ((80 + (4 * x2)) + x3).toNatClampNeg) (fun _ _ => rfl) dX10_ofOrder_9 h1 g5 rfl (tl_iretE dX10_ofOrder_10 rfl rfl h)))))))))

theorem cs_X10_isGallery_9 : tl_cS mX10_isGallery mX10_in 37 3 := ⟨cd_X10_in, ml_X10_37, sm_X10_in, in_X10, ⟨by decide, by decide, by decide +kernel⟩, Nat.le_of_ble_eq_true rfl, Nat.le_of_ble_eq_true rfl⟩
def f10_isGallery (a1 : Nat) (x2 : Int32) (u : tl_S) : Option (Int32 × tl_S) :=
  tl_b2 (f10_in ((x2 : Int32).toInt64) 0 ((((u.1 a1 0) - 1) : Int32).toInt64) u) (fun x6 u5 => tl_g (x6 = 0 ∨ x6 = 1) (some (x6, u5)))

theorem l10_isGallery {E : tl_E} {a1 : Nat} {x2 : Int32}  {u : tl_S} {r : Int32} {v : tl_S} (h1 : tl_T E.2.1 a1 = some 13) (h : f10_isGallery a1 x2 u = some (r, v)) : tl_MB E mX10_isGallery [.ref a1, .int x2] u (fun q w => q = some (.int r) ∧ w = v) := by
  unfold f10_isGallery at h
  refine tl_start [some (.ref a1), some (.int x2)] rfl rfl rfl (Nat.le_of_ble_eq_true rfl) ?_
  obtain ⟨x6, u5, e4, h⟩ := tl_b2i h
  obtain ⟨g7, h⟩ := tl_gi h
  exact tl_iload_n dX10_isGallery_0 rfl (tl_i2l dX10_isGallery_1 (tl_lconst (v := 0) dX10_isGallery_2 lc_0 (tl_aload_n dX10_isGallery_3 rfl (tl_iconst (v := 0) dX10_isGallery_4 ic_0 (tl_iald (j := 0) (fun _ _ => rfl) dX10_isGallery_5 h1 (li_0 104 rfl) lx_0 (tl_iconst (v := 1) dX10_isGallery_6 ic_1 (tl_isub dX10_isGallery_7 (tl_i2l dX10_isGallery_8 (tl_iS3 (l10_in  e4) dX10_isGallery_9 cs_X10_isGallery_9 ⟨rfl, rfl⟩ ⟨Nat.zero_le _, Nat.zero_le _⟩ (Nat.le_of_ble_eq_true rfl) (tl_iretE dX10_isGallery_12 rfl (tl_nB g7).1 h))))))))))

theorem cs_X10_isCell_2 : tl_cS mX10_isCell mX10_isGallery 41 2 := ⟨cd_X10_isGallery, ml_X10_41, sm_X10_isGallery, in_X10, ⟨by decide, by decide, by decide +kernel⟩, Nat.le_of_ble_eq_true rfl, Nat.le_of_ble_eq_true rfl⟩
theorem cs_X10_isCell_13 : tl_cS mX10_isCell mX10_depth 45 2 := ⟨cd_X10_depth, ml_X10_45, sm_X10_depth, in_X10, ⟨by decide, by decide, by decide +kernel⟩, Nat.le_of_ble_eq_true rfl, Nat.le_of_ble_eq_true rfl⟩
theorem cs_X10_isCell_19 : tl_cS mX10_isCell mX10_in 37 3 := ⟨cd_X10_in, ml_X10_37, sm_X10_in, in_X10, ⟨by decide, by decide, by decide +kernel⟩, Nat.le_of_ble_eq_true rfl, Nat.le_of_ble_eq_true rfl⟩
def f10_isCell (a1 : Nat) (x2 : Int32) (x3 : Int32) (u : tl_S) : Option (Int32 × tl_S) :=
  tl_b2 (f10_isGallery a1 x2 u) (fun x7 u6 => (if x7 = 0 then some (0, u6) else tl_b2 (f10_depth a1 x2 u6) (fun x11 u10 => tl_b2 (f10_in ((x3 : Int32).toInt64) 0 (((x11 - 1) : Int32).toInt64) u10) (fun x14 u13 => (if x14 = 0 then some (0, u13) else some (1, u13))))))

theorem l10_isCell {E : tl_E} {a1 : Nat} {x2 : Int32} {x3 : Int32}  {u : tl_S} {r : Int32} {v : tl_S} (h1 : tl_T E.2.1 a1 = some 13) (h : f10_isCell a1 x2 x3 u = some (r, v)) : tl_MB E mX10_isCell [.ref a1, .int x2, .int x3] u (fun q w => q = some (.int r) ∧ w = v) := by
  unfold f10_isCell at h
  refine tl_start [some (.ref a1), some (.int x2), some (.int x3)] rfl rfl rfl (Nat.le_of_ble_eq_true rfl) ?_
  obtain ⟨x7, u6, e5, h⟩ := tl_b2i h
  refine tl_aload_n dX10_isCell_0 rfl (tl_iload_n dX10_isCell_1 rfl (tl_iS2 (l10_isGallery h1 e5) dX10_isCell_2 cs_X10_isCell_2 ⟨rfl, rfl⟩ ⟨Nat.zero_le _, Nat.zero_le _⟩ (Nat.le_of_ble_eq_true rfl) (tl_if_eq (tgt := 29) dX10_isCell_5 (by decide) (fun c8 => ?_) (fun c8 => ?_))))
  · replace h := tl_ip h c8
    exact tl_iconst (v := 0) dX10_isCell_29 ic_0 (tl_iretE dX10_isCell_30 rfl rfl h)
  · replace h := tl_in h c8
    obtain ⟨x11, u10, e9, h⟩ := tl_b2i h
    obtain ⟨x14, u13, e12, h⟩ := tl_b2i h
    refine tl_iload_n dX10_isCell_8 rfl (tl_i2l dX10_isCell_9 (tl_lconst (v := 0) dX10_isCell_10 lc_0 (tl_aload_n dX10_isCell_11 rfl (tl_iload_n dX10_isCell_12 rfl (tl_iS2 (l10_depth h1 e9) dX10_isCell_13 cs_X10_isCell_13 ⟨rfl, rfl⟩ ⟨Nat.zero_le _, Nat.zero_le _⟩ (Nat.le_of_ble_eq_true rfl) (tl_iconst (v := 1) dX10_isCell_16 ic_1 (tl_isub dX10_isCell_17 (tl_i2l dX10_isCell_18 (tl_iS3 (l10_in  e12) dX10_isCell_19 cs_X10_isCell_19 ⟨rfl, rfl⟩ ⟨Nat.zero_le _, Nat.zero_le _⟩ (Nat.le_of_ble_eq_true rfl) (tl_if_eq (tgt := 29) dX10_isCell_22 (by decide) (fun c15 => ?_) (fun c15 => ?_)))))))))))
    · replace h := tl_ip h c15
      exact tl_iconst (v := 0) dX10_isCell_29 ic_0 (tl_iretE dX10_isCell_30 rfl rfl h)
    · replace h := tl_in h c15
      exact tl_iconst (v := 1) dX10_isCell_25 ic_1 (tl_goto (tgt := 30) dX10_isCell_26 (by decide) (tl_iretE dX10_isCell_30 rfl rfl h))

theorem cs_X10_isMiner_9 : tl_cS mX10_isMiner mX10_in 37 3 := ⟨cd_X10_in, ml_X10_37, sm_X10_in, in_X10, ⟨by decide, by decide, by decide +kernel⟩, Nat.le_of_ble_eq_true rfl, Nat.le_of_ble_eq_true rfl⟩
def f10_isMiner (a1 : Nat) (x2 : Int32) (u : tl_S) : Option (Int32 × tl_S) :=
  tl_b2 (f10_in ((x2 : Int32).toInt64) 0 ((((u.1 a1 1) - 1) : Int32).toInt64) u) (fun x6 u5 => tl_g (x6 = 0 ∨ x6 = 1) (some (x6, u5)))

theorem l10_isMiner {E : tl_E} {a1 : Nat} {x2 : Int32}  {u : tl_S} {r : Int32} {v : tl_S} (h1 : tl_T E.2.1 a1 = some 13) (h : f10_isMiner a1 x2 u = some (r, v)) : tl_MB E mX10_isMiner [.ref a1, .int x2] u (fun q w => q = some (.int r) ∧ w = v) := by
  unfold f10_isMiner at h
  refine tl_start [some (.ref a1), some (.int x2)] rfl rfl rfl (Nat.le_of_ble_eq_true rfl) ?_
  obtain ⟨x6, u5, e4, h⟩ := tl_b2i h
  obtain ⟨g7, h⟩ := tl_gi h
  exact tl_iload_n dX10_isMiner_0 rfl (tl_i2l dX10_isMiner_1 (tl_lconst (v := 0) dX10_isMiner_2 lc_0 (tl_aload_n dX10_isMiner_3 rfl (tl_iconst (v := 1) dX10_isMiner_4 ic_1 (tl_iald (j := 1) (fun _ _ => rfl) dX10_isMiner_5 h1 (li_1 104 rfl) lx_1 (tl_iconst (v := 1) dX10_isMiner_6 ic_1 (tl_isub dX10_isMiner_7 (tl_i2l dX10_isMiner_8 (tl_iS3 (l10_in  e4) dX10_isMiner_9 cs_X10_isMiner_9 ⟨rfl, rfl⟩ ⟨Nat.zero_le _, Nat.zero_le _⟩ (Nat.le_of_ble_eq_true rfl) (tl_iretE dX10_isMiner_12 rfl (tl_nB g7).1 h))))))))))

theorem cs_X10_isLamp_9 : tl_cS mX10_isLamp mX10_in 37 3 := ⟨cd_X10_in, ml_X10_37, sm_X10_in, in_X10, ⟨by decide, by decide, by decide +kernel⟩, Nat.le_of_ble_eq_true rfl, Nat.le_of_ble_eq_true rfl⟩
def f10_isLamp (a1 : Nat) (x2 : Int32) (u : tl_S) : Option (Int32 × tl_S) :=
  tl_b2 (f10_in ((x2 : Int32).toInt64) 0 ((((u.1 a1 2) - 1) : Int32).toInt64) u) (fun x6 u5 => tl_g (x6 = 0 ∨ x6 = 1) (some (x6, u5)))

theorem l10_isLamp {E : tl_E} {a1 : Nat} {x2 : Int32}  {u : tl_S} {r : Int32} {v : tl_S} (h1 : tl_T E.2.1 a1 = some 13) (h : f10_isLamp a1 x2 u = some (r, v)) : tl_MB E mX10_isLamp [.ref a1, .int x2] u (fun q w => q = some (.int r) ∧ w = v) := by
  unfold f10_isLamp at h
  refine tl_start [some (.ref a1), some (.int x2)] rfl rfl rfl (Nat.le_of_ble_eq_true rfl) ?_
  obtain ⟨x6, u5, e4, h⟩ := tl_b2i h
  obtain ⟨g7, h⟩ := tl_gi h
  exact tl_iload_n dX10_isLamp_0 rfl (tl_i2l dX10_isLamp_1 (tl_lconst (v := 0) dX10_isLamp_2 lc_0 (tl_aload_n dX10_isLamp_3 rfl (tl_iconst (v := 2) dX10_isLamp_4 ic_2 (tl_iald (j := 2) (fun _ _ => rfl) dX10_isLamp_5 h1 (li_2 104 rfl) lx_2 (tl_iconst (v := 1) dX10_isLamp_6 ic_1 (tl_isub dX10_isLamp_7 (tl_i2l dX10_isLamp_8 (tl_iS3 (l10_in  e4) dX10_isLamp_9 cs_X10_isLamp_9 ⟨rfl, rfl⟩ ⟨Nat.zero_le _, Nat.zero_le _⟩ (Nat.le_of_ble_eq_true rfl) (tl_iretE dX10_isLamp_12 rfl (tl_nB g7).1 h))))))))))

theorem cs_X10_isSetting_25 : tl_cS mX10_isSetting mX10_in 37 3 := ⟨cd_X10_in, ml_X10_37, sm_X10_in, in_X10, ⟨by decide, by decide, by decide +kernel⟩, Nat.le_of_ble_eq_true rfl, Nat.le_of_ble_eq_true rfl⟩
theorem cs_X10_isSetting_10 : tl_cS mX10_isSetting mX10_in 37 3 := ⟨cd_X10_in, ml_X10_37, sm_X10_in, in_X10, ⟨by decide, by decide, by decide +kernel⟩, Nat.le_of_ble_eq_true rfl, Nat.le_of_ble_eq_true rfl⟩
def f10_isSetting (x1 : Int32) (x2 : Int32) (u : tl_S) : Option (Int32 × tl_S) :=
  (if x1 = 0 then tl_b2 (f10_in ((x2 : Int32).toInt64) 0 12 u) (fun x7 u6 => (if x7 = 0 then (if x1 = 1 then tl_b2 (f10_in ((x2 : Int32).toInt64) 0 1 u6) (fun x12 u11 => (if x12 = 0 then some (0, u11) else some (1, u11))) else some (0, u6)) else some (1, u6))) else (if x1 = 1 then tl_b2 (f10_in ((x2 : Int32).toInt64) 0 1 u) (fun x8 u7 => (if x8 = 0 then some (0, u7) else some (1, u7))) else some (0, u)))

theorem l10_isSetting {E : tl_E} {x1 : Int32} {x2 : Int32}  {u : tl_S} {r : Int32} {v : tl_S}  (h : f10_isSetting x1 x2 u = some (r, v)) : tl_MB E mX10_isSetting [.int x1, .int x2] u (fun q w => q = some (.int r) ∧ w = v) := by
  unfold f10_isSetting at h
  refine tl_start [some (.int x1), some (.int x2)] rfl rfl rfl (Nat.le_of_ble_eq_true rfl) ?_
  refine tl_iload_n dX10_isSetting_0 rfl (tl_if_ne (tgt := 16) dX10_isSetting_1 (by decide) (fun c4 => ?_) (fun c4 => ?_))
  · replace h := tl_in h c4
    refine tl_iload_n dX10_isSetting_16 rfl (tl_iconst (v := 1) dX10_isSetting_17 ic_1 (tl_icmp_ne (tgt := 35) dX10_isSetting_18 (by decide) (fun c5 => ?_) (fun c5 => ?_)))
    · replace h := tl_in h c5
      exact tl_iconst (v := 0) dX10_isSetting_35 ic_0 (tl_iretE dX10_isSetting_36 rfl rfl h)
    · replace h := tl_ip h c5
      obtain ⟨x8, u7, e6, h⟩ := tl_b2i h
      refine tl_iload_n dX10_isSetting_21 rfl (tl_i2l dX10_isSetting_22 (tl_lconst (v := 0) dX10_isSetting_23 lc_0 (tl_lconst (v := 1) dX10_isSetting_24 lc_1 (tl_iS3 (l10_in  e6) dX10_isSetting_25 cs_X10_isSetting_25 ⟨rfl, rfl⟩ ⟨Nat.zero_le _, Nat.zero_le _⟩ (Nat.le_of_ble_eq_true rfl) (tl_if_eq (tgt := 35) dX10_isSetting_28 (by decide) (fun c9 => ?_) (fun c9 => ?_))))))
      · replace h := tl_ip h c9
        exact tl_iconst (v := 0) dX10_isSetting_35 ic_0 (tl_iretE dX10_isSetting_36 rfl rfl h)
      · replace h := tl_in h c9
        exact tl_iconst (v := 1) dX10_isSetting_31 ic_1 (tl_goto (tgt := 36) dX10_isSetting_32 (by decide) (tl_iretE dX10_isSetting_36 rfl rfl h))
  · replace h := tl_ip h c4
    obtain ⟨x7, u6, e5, h⟩ := tl_b2i h
    refine tl_iload_n dX10_isSetting_4 rfl (tl_i2l dX10_isSetting_5 (tl_lconst (v := 0) dX10_isSetting_6 lc_0 (tl_ldc2 dX10_isSetting_7 kl_X10_49 (tl_iS3 (l10_in  e5) dX10_isSetting_10 cs_X10_isSetting_10 ⟨rfl, rfl⟩ ⟨Nat.zero_le _, Nat.zero_le _⟩ (Nat.le_of_ble_eq_true rfl) (tl_if_ne (tgt := 31) dX10_isSetting_13 (by decide) (fun c8 => ?_) (fun c8 => ?_))))))
    · replace h := tl_in h c8
      exact tl_iconst (v := 1) dX10_isSetting_31 ic_1 (tl_goto (tgt := 36) dX10_isSetting_32 (by decide) (tl_iretE dX10_isSetting_36 rfl rfl h))
    · replace h := tl_ip h c8
      refine tl_iload_n dX10_isSetting_16 rfl (tl_iconst (v := 1) dX10_isSetting_17 ic_1 (tl_icmp_ne (tgt := 35) dX10_isSetting_18 (by decide) (fun c9 => ?_) (fun c9 => ?_)))
      · replace h := tl_in h c9
        exact tl_iconst (v := 0) dX10_isSetting_35 ic_0 (tl_iretE dX10_isSetting_36 rfl rfl h)
      · replace h := tl_ip h c9
        obtain ⟨x12, u11, e10, h⟩ := tl_b2i h
        refine tl_iload_n dX10_isSetting_21 rfl (tl_i2l dX10_isSetting_22 (tl_lconst (v := 0) dX10_isSetting_23 lc_0 (tl_lconst (v := 1) dX10_isSetting_24 lc_1 (tl_iS3 (l10_in  e10) dX10_isSetting_25 cs_X10_isSetting_25 ⟨rfl, rfl⟩ ⟨Nat.zero_le _, Nat.zero_le _⟩ (Nat.le_of_ble_eq_true rfl) (tl_if_eq (tgt := 35) dX10_isSetting_28 (by decide) (fun c13 => ?_) (fun c13 => ?_))))))
        · replace h := tl_ip h c13
          exact tl_iconst (v := 0) dX10_isSetting_35 ic_0 (tl_iretE dX10_isSetting_36 rfl rfl h)
        · replace h := tl_in h c13
          exact tl_iconst (v := 1) dX10_isSetting_31 ic_1 (tl_goto (tgt := 36) dX10_isSetting_32 (by decide) (tl_iretE dX10_isSetting_36 rfl rfl h))

theorem cs_X10_lights_3 : tl_cS mX10_lights mX10_ofLamp 51 3 := ⟨cd_X10_ofLamp, ml_X10_51, sm_X10_ofLamp, in_X10, ⟨by decide, by decide, by decide +kernel⟩, Nat.le_of_ble_eq_true rfl, Nat.le_of_ble_eq_true rfl⟩
theorem cs_X10_lights_13 : tl_cS mX10_lights mX10_ofLamp 51 3 := ⟨cd_X10_ofLamp, ml_X10_51, sm_X10_ofLamp, in_X10, ⟨by decide, by decide, by decide +kernel⟩, Nat.le_of_ble_eq_true rfl, Nat.le_of_ble_eq_true rfl⟩
theorem cs_X10_lights_23 : tl_cS mX10_lights mX10_ofLamp 51 3 := ⟨cd_X10_ofLamp, ml_X10_51, sm_X10_ofLamp, in_X10, ⟨by decide, by decide, by decide +kernel⟩, Nat.le_of_ble_eq_true rfl, Nat.le_of_ble_eq_true rfl⟩
theorem cs_X10_lights_35 : tl_cS mX10_lights mX10_ofLamp 51 3 := ⟨cd_X10_ofLamp, ml_X10_51, sm_X10_ofLamp, in_X10, ⟨by decide, by decide, by decide +kernel⟩, Nat.le_of_ble_eq_true rfl, Nat.le_of_ble_eq_true rfl⟩
theorem cs_X10_lights_43 : tl_cS mX10_lights mX10_ofLamp 51 3 := ⟨cd_X10_ofLamp, ml_X10_51, sm_X10_ofLamp, in_X10, ⟨by decide, by decide, by decide +kernel⟩, Nat.le_of_ble_eq_true rfl, Nat.le_of_ble_eq_true rfl⟩
theorem cs_X10_lights_47 : tl_cS mX10_lights mX10_in 37 3 := ⟨cd_X10_in, ml_X10_37, sm_X10_in, in_X10, ⟨by decide, by decide, by decide +kernel⟩, Nat.le_of_ble_eq_true rfl, Nat.le_of_ble_eq_true rfl⟩
def f10_lights (a1 : Nat) (x2 : Int32) (x3 : Int32) (x4 : Int32) (u : tl_S) : Option (Int32 × tl_S) :=
  tl_b2 (f10_ofLamp a1 x2 3 u) (fun x8 u7 => tl_let ((x8 - x4)) (fun x9 => tl_b2 (f10_ofLamp a1 x2 2 u7) (fun x12 u11 => (if x12 = x3 then tl_b2 (f10_ofLamp a1 x2 1 u11) (fun x16 u15 => (if x16 ≤ 0 then some (0, u15) else tl_b2 (f10_ofLamp a1 x2 0 u15) (fun x20 u19 => tl_b2 (f10_ofLamp a1 x2 0 u19) (fun x23 u22 => tl_b2 (f10_in ((x9 : Int32).toInt64) (((-x20) : Int32).toInt64) ((x23 : Int32).toInt64) u22) (fun x26 u25 => (if x26 = 0 then some (0, u25) else some (1, u25))))))) else some (0, u11)))))

theorem l10_lights {E : tl_E} {a1 : Nat} {x2 : Int32} {x3 : Int32} {x4 : Int32}  {u : tl_S} {r : Int32} {v : tl_S} (h1 : tl_T E.2.1 a1 = some 13) (h : f10_lights a1 x2 x3 x4 u = some (r, v)) : tl_MB E mX10_lights [.ref a1, .int x2, .int x3, .int x4] u (fun q w => q = some (.int r) ∧ w = v) := by
  unfold f10_lights at h
  refine tl_start [some (.ref a1), some (.int x2), some (.int x3), some (.int x4), none] rfl rfl rfl (Nat.le_of_ble_eq_true rfl) ?_
  obtain ⟨x8, u7, e6, h⟩ := tl_b2i h
  refine tl_aload_n dX10_lights_0 rfl (tl_iload_n dX10_lights_1 rfl (tl_iconst (v := 3) dX10_lights_2 ic_3 (tl_iS3 (l10_ofLamp h1 e6) dX10_lights_3 cs_X10_lights_3 ⟨rfl, rfl⟩ ⟨Nat.zero_le _, Nat.zero_le _⟩ (Nat.le_of_ble_eq_true rfl) (tl_iload_n dX10_lights_6 rfl (tl_isub dX10_lights_7 (tl_isto dX10_lights_8 (Nat.le_of_ble_eq_true rfl) (fun x9 e => ?_)))))))
  have h := tl_leteq e h
  clear e
  obtain ⟨x12, u11, e10, h⟩ := tl_b2i h
  refine tl_aload_n dX10_lights_10 rfl (tl_iload_n dX10_lights_11 rfl (tl_iconst (v := 2) dX10_lights_12 ic_2 (tl_iS3 (l10_ofLamp h1 e10) dX10_lights_13 cs_X10_lights_13 ⟨rfl, rfl⟩ ⟨Nat.zero_le _, Nat.zero_le _⟩ (Nat.le_of_ble_eq_true rfl) (tl_iload_n dX10_lights_16 rfl (tl_icmp_ne (tgt := 57) dX10_lights_17 (by decide) (fun c13 => ?_) (fun c13 => ?_))))))
  · replace h := tl_in h c13
    exact tl_iconst (v := 0) dX10_lights_57 ic_0 (tl_iretE dX10_lights_58 rfl rfl h)
  · replace h := tl_ip h c13
    obtain ⟨x16, u15, e14, h⟩ := tl_b2i h
    refine tl_aload_n dX10_lights_20 rfl (tl_iload_n dX10_lights_21 rfl (tl_iconst (v := 1) dX10_lights_22 ic_1 (tl_iS3 (l10_ofLamp h1 e14) dX10_lights_23 cs_X10_lights_23 ⟨rfl, rfl⟩ ⟨Nat.zero_le _, Nat.zero_le _⟩ (Nat.le_of_ble_eq_true rfl) (tl_if_le (tgt := 57) dX10_lights_26 (by decide) (fun c17 => ?_) (fun c17 => ?_)))))
    · replace h := tl_ip h c17
      exact tl_iconst (v := 0) dX10_lights_57 ic_0 (tl_iretE dX10_lights_58 rfl rfl h)
    · replace h := tl_in h c17
      obtain ⟨x20, u19, e18, h⟩ := tl_b2i h
      obtain ⟨x23, u22, e21, h⟩ := tl_b2i h
      obtain ⟨x26, u25, e24, h⟩ := tl_b2i h
      refine tl_iload dX10_lights_29 rfl (tl_i2l dX10_lights_31 (tl_aload_n dX10_lights_32 rfl (tl_iload_n dX10_lights_33 rfl (tl_iconst (v := 0) dX10_lights_34 ic_0 (tl_iS3 (l10_ofLamp h1 e18) dX10_lights_35 cs_X10_lights_35 ⟨rfl, rfl⟩ ⟨Nat.zero_le _, Nat.zero_le _⟩ (Nat.le_of_ble_eq_true rfl) (tl_ineg dX10_lights_38 (tl_i2l dX10_lights_39 (tl_aload_n dX10_lights_40 rfl (tl_iload_n dX10_lights_41 rfl (tl_iconst (v := 0) dX10_lights_42 ic_0 (tl_iS3 (l10_ofLamp h1 e21) dX10_lights_43 cs_X10_lights_43 ⟨rfl, rfl⟩ ⟨Nat.zero_le _, Nat.zero_le _⟩ (Nat.le_of_ble_eq_true rfl) (tl_i2l dX10_lights_46 (tl_iS3 (l10_in  e24) dX10_lights_47 cs_X10_lights_47 ⟨rfl, rfl⟩ ⟨Nat.zero_le _, Nat.zero_le _⟩ (Nat.le_of_ble_eq_true rfl) (tl_if_eq (tgt := 57) dX10_lights_50 (by decide) (fun c27 => ?_) (fun c27 => ?_)))))))))))))))
      · replace h := tl_ip h c27
        exact tl_iconst (v := 0) dX10_lights_57 ic_0 (tl_iretE dX10_lights_58 rfl rfl h)
      · replace h := tl_in h c27
        exact tl_iconst (v := 1) dX10_lights_53 ic_1 (tl_goto (tgt := 58) dX10_lights_54 (by decide) (tl_iretE dX10_lights_58 rfl rfl h))

theorem cs_X10_isLit_13 : tl_cS mX10_isLit mX10_lights 55 4 := ⟨cd_X10_lights, ml_X10_55, sm_X10_lights, in_X10, ⟨by decide, by decide, by decide +kernel⟩, Nat.le_of_ble_eq_true rfl, Nat.le_of_ble_eq_true rfl⟩
def f10_isLit_p2 : Nat → Nat → Int32 → Int32 → Int32 → tl_S → Option (Int32 × tl_S)
  | 0, _, _, _, _, _ => none
  | fu + 1, a1, x2, x3, x4, u =>
  (if (u.1 a1 2) ≤ x4 then some (0, u) else tl_b2 (f10_lights a1 x4 x2 x3 u) (fun x9 u8 => (if x9 = 0 then tl_let (x4 + 1) (fun x11 => f10_isLit_p2 fu a1 x2 x3 x11 u8) else some (1, u8))))

def f10_isLit (a1 : Nat) (x2 : Int32) (x3 : Int32) (u : tl_S) : Option (Int32 × tl_S) :=
  f10_isLit_p2 tl_F a1 x2 x3 0 u

theorem l10_isLit_p2 {E : tl_E}  {r : Int32} {v : tl_S} : ∀ (n : Nat) (a1 : Nat) (x2 : Int32) (x3 : Int32) (x4 : Int32) (u : tl_S) , tl_T E.2.1 a1 = some 13 → f10_isLit_p2 n a1 x2 x3 x4 u = some (r, v) → tl_R E mX10_isLit tl_X0 (tl_ZB E mX10_isLit (fun q w => q = some (.int r) ∧ w = v)) 0 0 (tl_HB E u) 2 [some (.ref a1), some (.int x2), some (.int x3), some (.int x4)] [] := by
  intro n
  induction n with
  | zero => intro a1 x2 x3 x4 u  h1 h; exact absurd h (by simp [f10_isLit_p2])
  | succ n ih =>
    intro a1 x2 x3 x4 u  h1 h
    rw [f10_isLit_p2] at h
    refine tl_iload_n dX10_isLit_2 rfl (tl_aload_n dX10_isLit_3 rfl (tl_iconst (v := 2) dX10_isLit_4 ic_2 (tl_iald (j := 2) (fun _ _ => rfl) dX10_isLit_5 h1 (li_2 104 rfl) lx_2 (tl_icmp_ge (tgt := 27) dX10_isLit_6 (by decide) (fun c6 => ?_) (fun c6 => ?_)))))
    · replace h := tl_ip h c6
      exact tl_iconst (v := 0) dX10_isLit_27 ic_0 (tl_iretE dX10_isLit_28 rfl rfl h)
    · replace h := tl_in h c6
      obtain ⟨x9, u8, e7, h⟩ := tl_b2i h
      refine tl_aload_n dX10_isLit_9 rfl (tl_iload_n dX10_isLit_10 rfl (tl_iload_n dX10_isLit_11 rfl (tl_iload_n dX10_isLit_12 rfl (tl_iS4 (l10_lights h1 e7) dX10_isLit_13 cs_X10_isLit_13 ⟨rfl, rfl⟩ ⟨Nat.zero_le _, Nat.zero_le _⟩ (Nat.le_of_ble_eq_true rfl) (tl_if_eq (tgt := 21) dX10_isLit_16 (by decide) (fun c10 => ?_) (fun c10 => ?_))))))
      · replace h := tl_ip h c10
        refine tl_iincK dX10_isLit_21 rfl (ii_1 _) (Nat.le_of_ble_eq_true rfl) (fun x11 e => ?_)
        have h := tl_leteq e h
        clear e
        refine tl_goto (tgt := 2) dX10_isLit_24 (by decide) (?_)
        exact ih _ _ _ _ _  h1 h
      · replace h := tl_in h c10
        exact tl_iconst (v := 1) dX10_isLit_19 ic_1 (tl_iretE dX10_isLit_20 rfl rfl h)

theorem l10_isLit {E : tl_E} {a1 : Nat} {x2 : Int32} {x3 : Int32}  {u : tl_S} {r : Int32} {v : tl_S} (h1 : tl_T E.2.1 a1 = some 13) (h : f10_isLit a1 x2 x3 u = some (r, v)) : tl_MB E mX10_isLit [.ref a1, .int x2, .int x3] u (fun q w => q = some (.int r) ∧ w = v) := by
  unfold f10_isLit at h
  refine tl_start [some (.ref a1), some (.int x2), some (.int x3), none] rfl rfl rfl (Nat.le_of_ble_eq_true rfl) ?_
  refine tl_iconst (v := 0) dX10_isLit_0 ic_0 (tl_istore_n dX10_isLit_1 (Nat.le_of_ble_eq_true rfl) (?_))
  exact l10_isLit_p2 tl_F _ _ _ _ _  h1 h


def f10_hard (x1 : Int32) (x2 : Int32) (u : tl_S) : Option (Int32 × tl_S) :=
  some ((3 + (((7 * x2) + (5 * x1)) - ((7 * x2) + (5 * x1)) / 6 * 6)), u)

theorem l10_hard {E : tl_E} {x1 : Int32} {x2 : Int32}  {u : tl_S} {r : Int32} {v : tl_S}  (h : f10_hard x1 x2 u = some (r, v)) : tl_MB E mX10_hard [.int x1, .int x2] u (fun q w => q = some (.int r) ∧ w = v) := by
  unfold f10_hard at h
  refine tl_start [some (.int x1), some (.int x2)] rfl rfl rfl (Nat.le_of_ble_eq_true rfl) ?_
  exact tl_iconst (v := 3) dX10_hard_0 ic_3 (tl_bipush (v := 7) dX10_hard_1 bp_7 (tl_iload_n dX10_hard_3 rfl (tl_imul dX10_hard_4 (tl_iconst (v := 5) dX10_hard_5 ic_5 (tl_iload_n dX10_hard_6 rfl (tl_imul dX10_hard_7 (tl_iadd dX10_hard_8 (tl_bipush (v := 6) dX10_hard_9 bp_6 (tl_irem dX10_hard_11 (by decide) (tl_iadd dX10_hard_12 (tl_iretE dX10_hard_13 rfl rfl h)))))))))))


def f10_between (x1 : Int32) (x2 : Int32) (x3 : Int32) (x4 : Int32) (u : tl_S) : Option (Int32 × tl_S) :=
  (if x1 = x3 then (if x4 ≤ x2 then some ((x2 - x4), u) else some ((x4 - x2), u)) else some ((x2 + x4), u))

theorem l10_between {E : tl_E} {x1 : Int32} {x2 : Int32} {x3 : Int32} {x4 : Int32}  {u : tl_S} {r : Int32} {v : tl_S}  (h : f10_between x1 x2 x3 x4 u = some (r, v)) : tl_MB E mX10_between [.int x1, .int x2, .int x3, .int x4] u (fun q w => q = some (.int r) ∧ w = v) := by
  unfold f10_between at h
  refine tl_start [some (.int x1), some (.int x2), some (.int x3), some (.int x4)] rfl rfl rfl (Nat.le_of_ble_eq_true rfl) ?_
  refine tl_iload_n dX10_between_0 rfl (tl_iload_n dX10_between_1 rfl (tl_icmp_eq (tgt := 11) dX10_between_2 (by decide) (fun c6 => ?_) (fun c6 => ?_)))
  · replace h := tl_ip h c6
    refine tl_iload_n dX10_between_11 rfl (tl_iload_n dX10_between_12 rfl (tl_icmp_ge (tgt := 22) dX10_between_13 (by decide) (fun c7 => ?_) (fun c7 => ?_)))
    · replace h := tl_ip h c7
      exact tl_iload_n dX10_between_22 rfl (tl_iload_n dX10_between_23 rfl (tl_isub dX10_between_24 (tl_iretE dX10_between_25 rfl rfl h)))
    · replace h := tl_in h c7
      exact tl_iload_n dX10_between_16 rfl (tl_iload_n dX10_between_17 rfl (tl_isub dX10_between_18 (tl_goto (tgt := 25) dX10_between_19 (by decide) (tl_iretE dX10_between_25 rfl rfl h))))
  · replace h := tl_in h c6
    exact tl_iload_n dX10_between_5 rfl (tl_iload_n dX10_between_6 rfl (tl_iadd dX10_between_7 (tl_goto (tgt := 25) dX10_between_8 (by decide) (tl_iretE dX10_between_25 rfl rfl h))))

theorem cs_X10_toMouth_3 : tl_cS mX10_toMouth mX10_ofOrder 59 3 := ⟨cd_X10_ofOrder, ml_X10_59, sm_X10_ofOrder, in_X10, ⟨by decide, by decide, by decide +kernel⟩, Nat.le_of_ble_eq_true rfl, Nat.le_of_ble_eq_true rfl⟩
def f10_toMouth (a1 : Nat) (u : tl_S) : Option (Int32 × tl_S) :=
  tl_b2 (f10_ofOrder a1 0 0 u) (fun x5 u4 => (if x5 = 0 then some (0, u4) else (if (u4.1 a1 15) = 0 then some (1, u4) else some (0, u4))))

theorem l10_toMouth {E : tl_E} {a1 : Nat}  {u : tl_S} {r : Int32} {v : tl_S} (h1 : tl_T E.2.1 a1 = some 13) (h : f10_toMouth a1 u = some (r, v)) : tl_MB E mX10_toMouth [.ref a1] u (fun q w => q = some (.int r) ∧ w = v) := by
  unfold f10_toMouth at h
  refine tl_start [some (.ref a1)] rfl rfl rfl (Nat.le_of_ble_eq_true rfl) ?_
  obtain ⟨x5, u4, e3, h⟩ := tl_b2i h
  refine tl_aload_n dX10_toMouth_0 rfl (tl_iconst (v := 0) dX10_toMouth_1 ic_0 (tl_iconst (v := 0) dX10_toMouth_2 ic_0 (tl_iS3 (l10_ofOrder h1 e3) dX10_toMouth_3 cs_X10_toMouth_3 ⟨rfl, rfl⟩ ⟨Nat.zero_le _, Nat.zero_le _⟩ (Nat.le_of_ble_eq_true rfl) (tl_if_eq (tgt := 20) dX10_toMouth_6 (by decide) (fun c6 => ?_) (fun c6 => ?_)))))
  · replace h := tl_ip h c6
    exact tl_iconst (v := 0) dX10_toMouth_20 ic_0 (tl_iretE dX10_toMouth_21 rfl rfl h)
  · replace h := tl_in h c6
    refine tl_aload_n dX10_toMouth_9 rfl (tl_bipush (v := 15) dX10_toMouth_10 bp_15 (tl_iald (j := 15) (fun _ _ => rfl) dX10_toMouth_12 h1 (li_15 104 rfl) lx_15 (tl_if_ne (tgt := 20) dX10_toMouth_13 (by decide) (fun c7 => ?_) (fun c7 => ?_))))
    · replace h := tl_in h c7
      exact tl_iconst (v := 0) dX10_toMouth_20 ic_0 (tl_iretE dX10_toMouth_21 rfl rfl h)
    · replace h := tl_ip h c7
      exact tl_iconst (v := 1) dX10_toMouth_16 ic_1 (tl_goto (tgt := 21) dX10_toMouth_17 (by decide) (tl_iretE dX10_toMouth_21 rfl rfl h))

theorem cs_X10_toTarget_3 : tl_cS mX10_toTarget mX10_ofOrder 59 3 := ⟨cd_X10_ofOrder, ml_X10_59, sm_X10_ofOrder, in_X10, ⟨by decide, by decide, by decide +kernel⟩, Nat.le_of_ble_eq_true rfl, Nat.le_of_ble_eq_true rfl⟩
def f10_toTarget (a1 : Nat) (u : tl_S) : Option (Int32 × tl_S) :=
  tl_b2 (f10_ofOrder a1 0 0 u) (fun x5 u4 => (if x5 = 0 then (if (u4.1 a1 13) = (-1) then some (0, u4) else some (1, u4)) else some (0, u4)))

theorem l10_toTarget {E : tl_E} {a1 : Nat}  {u : tl_S} {r : Int32} {v : tl_S} (h1 : tl_T E.2.1 a1 = some 13) (h : f10_toTarget a1 u = some (r, v)) : tl_MB E mX10_toTarget [.ref a1] u (fun q w => q = some (.int r) ∧ w = v) := by
  unfold f10_toTarget at h
  refine tl_start [some (.ref a1)] rfl rfl rfl (Nat.le_of_ble_eq_true rfl) ?_
  obtain ⟨x5, u4, e3, h⟩ := tl_b2i h
  refine tl_aload_n dX10_toTarget_0 rfl (tl_iconst (v := 0) dX10_toTarget_1 ic_0 (tl_iconst (v := 0) dX10_toTarget_2 ic_0 (tl_iS3 (l10_ofOrder h1 e3) dX10_toTarget_3 cs_X10_toTarget_3 ⟨rfl, rfl⟩ ⟨Nat.zero_le _, Nat.zero_le _⟩ (Nat.le_of_ble_eq_true rfl) (tl_if_ne (tgt := 21) dX10_toTarget_6 (by decide) (fun c6 => ?_) (fun c6 => ?_)))))
  · replace h := tl_in h c6
    exact tl_iconst (v := 0) dX10_toTarget_21 ic_0 (tl_iretE dX10_toTarget_22 rfl rfl h)
  · replace h := tl_ip h c6
    refine tl_aload_n dX10_toTarget_9 rfl (tl_bipush (v := 13) dX10_toTarget_10 bp_13 (tl_iald (j := 13) (fun _ _ => rfl) dX10_toTarget_12 h1 (li_13 104 rfl) lx_13 (tl_iconst (v := (-1)) dX10_toTarget_13 ic_m1 (tl_icmp_eq (tgt := 21) dX10_toTarget_14 (by decide) (fun c7 => ?_) (fun c7 => ?_)))))
    · replace h := tl_ip h c7
      exact tl_iconst (v := 0) dX10_toTarget_21 ic_0 (tl_iretE dX10_toTarget_22 rfl rfl h)
    · replace h := tl_in h c7
      exact tl_iconst (v := 1) dX10_toTarget_17 ic_1 (tl_goto (tgt := 22) dX10_toTarget_18 (by decide) (tl_iretE dX10_toTarget_22 rfl rfl h))

theorem cs_X10_goalGallery_1 : tl_cS mX10_goalGallery mX10_toMouth 62 1 := ⟨cd_X10_toMouth, ml_X10_62, sm_X10_toMouth, in_X10, ⟨by decide, by decide, by decide +kernel⟩, Nat.le_of_ble_eq_true rfl, Nat.le_of_ble_eq_true rfl⟩
theorem cs_X10_goalGallery_15 : tl_cS mX10_goalGallery mX10_toTarget 66 1 := ⟨cd_X10_toTarget, ml_X10_66, sm_X10_toTarget, in_X10, ⟨by decide, by decide, by decide +kernel⟩, Nat.le_of_ble_eq_true rfl, Nat.le_of_ble_eq_true rfl⟩
theorem cs_X10_goalGallery_34 : tl_cS mX10_goalGallery mX10_ofOrder 59 3 := ⟨cd_X10_ofOrder, ml_X10_59, sm_X10_ofOrder, in_X10, ⟨by decide, by decide, by decide +kernel⟩, Nat.le_of_ble_eq_true rfl, Nat.le_of_ble_eq_true rfl⟩
theorem cs_X10_goalGallery_38 : tl_cS mX10_goalGallery mX10_ofLamp 51 3 := ⟨cd_X10_ofLamp, ml_X10_51, sm_X10_ofLamp, in_X10, ⟨by decide, by decide, by decide +kernel⟩, Nat.le_of_ble_eq_true rfl, Nat.le_of_ble_eq_true rfl⟩
theorem cs_X10_goalGallery_24 : tl_cS mX10_goalGallery mX10_ofOrder 59 3 := ⟨cd_X10_ofOrder, ml_X10_59, sm_X10_ofOrder, in_X10, ⟨by decide, by decide, by decide +kernel⟩, Nat.le_of_ble_eq_true rfl, Nat.le_of_ble_eq_true rfl⟩
def f10_goalGallery (a1 : Nat) (u : tl_S) : Option (Int32 × tl_S) :=
  tl_b2 (f10_toMouth a1 u) (fun x5 u4 => (if x5 = 0 then tl_b2 (f10_toTarget a1 u4) (fun x9 u8 => (if x9 = 0 then tl_b2 (f10_ofOrder a1 0 1 u8) (fun x13 u12 => tl_b2 (f10_ofLamp a1 x13 2 u12) (fun x16 u15 => some (x16, u15))) else tl_b2 (f10_ofOrder a1 0 2 u8) (fun x13 u12 => some (x13, u12)))) else some ((u4.1 a1 11), u4)))

theorem l10_goalGallery {E : tl_E} {a1 : Nat}  {u : tl_S} {r : Int32} {v : tl_S} (h1 : tl_T E.2.1 a1 = some 13) (h : f10_goalGallery a1 u = some (r, v)) : tl_MB E mX10_goalGallery [.ref a1] u (fun q w => q = some (.int r) ∧ w = v) := by
  unfold f10_goalGallery at h
  refine tl_start [some (.ref a1)] rfl rfl rfl (Nat.le_of_ble_eq_true rfl) ?_
  obtain ⟨x5, u4, e3, h⟩ := tl_b2i h
  refine tl_aload_n dX10_goalGallery_0 rfl (tl_iS1 (l10_toMouth h1 e3) dX10_goalGallery_1 cs_X10_goalGallery_1 ⟨rfl, rfl⟩ ⟨Nat.zero_le _, Nat.zero_le _⟩ (Nat.le_of_ble_eq_true rfl) (tl_if_eq (tgt := 14) dX10_goalGallery_4 (by decide) (fun c6 => ?_) (fun c6 => ?_)))
  · replace h := tl_ip h c6
    obtain ⟨x9, u8, e7, h⟩ := tl_b2i h
    refine tl_aload_n dX10_goalGallery_14 rfl (tl_iS1 (l10_toTarget h1 e7) dX10_goalGallery_15 cs_X10_goalGallery_15 ⟨rfl, rfl⟩ ⟨Nat.zero_le _, Nat.zero_le _⟩ (Nat.le_of_ble_eq_true rfl) (tl_if_eq (tgt := 30) dX10_goalGallery_18 (by decide) (fun c10 => ?_) (fun c10 => ?_)))
    · replace h := tl_ip h c10
      obtain ⟨x13, u12, e11, h⟩ := tl_b2i h
      obtain ⟨x16, u15, e14, h⟩ := tl_b2i h
      exact tl_aload_n dX10_goalGallery_30 rfl (tl_aload_n dX10_goalGallery_31 rfl (tl_iconst (v := 0) dX10_goalGallery_32 ic_0 (tl_iconst (v := 1) dX10_goalGallery_33 ic_1 (tl_iS3 (l10_ofOrder h1 e11) dX10_goalGallery_34 cs_X10_goalGallery_34 ⟨rfl, rfl⟩ ⟨Nat.zero_le _, Nat.zero_le _⟩ (Nat.le_of_ble_eq_true rfl) (tl_iconst (v := 2) dX10_goalGallery_37 ic_2 (tl_iS3 (l10_ofLamp h1 e14) dX10_goalGallery_38 cs_X10_goalGallery_38 ⟨rfl, rfl⟩ ⟨Nat.zero_le _, Nat.zero_le _⟩ (Nat.le_of_ble_eq_true rfl) (tl_iretE dX10_goalGallery_41 rfl rfl h)))))))
    · replace h := tl_in h c10
      obtain ⟨x13, u12, e11, h⟩ := tl_b2i h
      exact tl_aload_n dX10_goalGallery_21 rfl (tl_iconst (v := 0) dX10_goalGallery_22 ic_0 (tl_iconst (v := 2) dX10_goalGallery_23 ic_2 (tl_iS3 (l10_ofOrder h1 e11) dX10_goalGallery_24 cs_X10_goalGallery_24 ⟨rfl, rfl⟩ ⟨Nat.zero_le _, Nat.zero_le _⟩ (Nat.le_of_ble_eq_true rfl) (tl_goto (tgt := 41) dX10_goalGallery_27 (by decide) (tl_iretE dX10_goalGallery_41 rfl rfl h)))))
  · replace h := tl_in h c6
    exact tl_aload_n dX10_goalGallery_7 rfl (tl_bipush (v := 11) dX10_goalGallery_8 bp_11 (tl_iald (j := 11) (fun _ _ => rfl) dX10_goalGallery_10 h1 (li_11 104 rfl) lx_11 (tl_goto (tgt := 41) dX10_goalGallery_11 (by decide) (tl_iretE dX10_goalGallery_41 rfl rfl h))))

theorem cs_X10_goalCell_1 : tl_cS mX10_goalCell mX10_toMouth 62 1 := ⟨cd_X10_toMouth, ml_X10_62, sm_X10_toMouth, in_X10, ⟨by decide, by decide, by decide +kernel⟩, Nat.le_of_ble_eq_true rfl, Nat.le_of_ble_eq_true rfl⟩
theorem cs_X10_goalCell_12 : tl_cS mX10_goalCell mX10_toTarget 66 1 := ⟨cd_X10_toTarget, ml_X10_66, sm_X10_toTarget, in_X10, ⟨by decide, by decide, by decide +kernel⟩, Nat.le_of_ble_eq_true rfl, Nat.le_of_ble_eq_true rfl⟩
theorem cs_X10_goalCell_31 : tl_cS mX10_goalCell mX10_ofOrder 59 3 := ⟨cd_X10_ofOrder, ml_X10_59, sm_X10_ofOrder, in_X10, ⟨by decide, by decide, by decide +kernel⟩, Nat.le_of_ble_eq_true rfl, Nat.le_of_ble_eq_true rfl⟩
theorem cs_X10_goalCell_35 : tl_cS mX10_goalCell mX10_ofLamp 51 3 := ⟨cd_X10_ofLamp, ml_X10_51, sm_X10_ofLamp, in_X10, ⟨by decide, by decide, by decide +kernel⟩, Nat.le_of_ble_eq_true rfl, Nat.le_of_ble_eq_true rfl⟩
theorem cs_X10_goalCell_21 : tl_cS mX10_goalCell mX10_ofOrder 59 3 := ⟨cd_X10_ofOrder, ml_X10_59, sm_X10_ofOrder, in_X10, ⟨by decide, by decide, by decide +kernel⟩, Nat.le_of_ble_eq_true rfl, Nat.le_of_ble_eq_true rfl⟩
def f10_goalCell (a1 : Nat) (u : tl_S) : Option (Int32 × tl_S) :=
  tl_b2 (f10_toMouth a1 u) (fun x5 u4 => (if x5 = 0 then tl_b2 (f10_toTarget a1 u4) (fun x9 u8 => (if x9 = 0 then tl_b2 (f10_ofOrder a1 0 1 u8) (fun x13 u12 => tl_b2 (f10_ofLamp a1 x13 3 u12) (fun x16 u15 => some (x16, u15))) else tl_b2 (f10_ofOrder a1 0 3 u8) (fun x13 u12 => some (x13, u12)))) else some (0, u4)))

theorem l10_goalCell {E : tl_E} {a1 : Nat}  {u : tl_S} {r : Int32} {v : tl_S} (h1 : tl_T E.2.1 a1 = some 13) (h : f10_goalCell a1 u = some (r, v)) : tl_MB E mX10_goalCell [.ref a1] u (fun q w => q = some (.int r) ∧ w = v) := by
  unfold f10_goalCell at h
  refine tl_start [some (.ref a1)] rfl rfl rfl (Nat.le_of_ble_eq_true rfl) ?_
  obtain ⟨x5, u4, e3, h⟩ := tl_b2i h
  refine tl_aload_n dX10_goalCell_0 rfl (tl_iS1 (l10_toMouth h1 e3) dX10_goalCell_1 cs_X10_goalCell_1 ⟨rfl, rfl⟩ ⟨Nat.zero_le _, Nat.zero_le _⟩ (Nat.le_of_ble_eq_true rfl) (tl_if_eq (tgt := 11) dX10_goalCell_4 (by decide) (fun c6 => ?_) (fun c6 => ?_)))
  · replace h := tl_ip h c6
    obtain ⟨x9, u8, e7, h⟩ := tl_b2i h
    refine tl_aload_n dX10_goalCell_11 rfl (tl_iS1 (l10_toTarget h1 e7) dX10_goalCell_12 cs_X10_goalCell_12 ⟨rfl, rfl⟩ ⟨Nat.zero_le _, Nat.zero_le _⟩ (Nat.le_of_ble_eq_true rfl) (tl_if_eq (tgt := 27) dX10_goalCell_15 (by decide) (fun c10 => ?_) (fun c10 => ?_)))
    · replace h := tl_ip h c10
      obtain ⟨x13, u12, e11, h⟩ := tl_b2i h
      obtain ⟨x16, u15, e14, h⟩ := tl_b2i h
      exact tl_aload_n dX10_goalCell_27 rfl (tl_aload_n dX10_goalCell_28 rfl (tl_iconst (v := 0) dX10_goalCell_29 ic_0 (tl_iconst (v := 1) dX10_goalCell_30 ic_1 (tl_iS3 (l10_ofOrder h1 e11) dX10_goalCell_31 cs_X10_goalCell_31 ⟨rfl, rfl⟩ ⟨Nat.zero_le _, Nat.zero_le _⟩ (Nat.le_of_ble_eq_true rfl) (tl_iconst (v := 3) dX10_goalCell_34 ic_3 (tl_iS3 (l10_ofLamp h1 e14) dX10_goalCell_35 cs_X10_goalCell_35 ⟨rfl, rfl⟩ ⟨Nat.zero_le _, Nat.zero_le _⟩ (Nat.le_of_ble_eq_true rfl) (tl_iretE dX10_goalCell_38 rfl rfl h)))))))
    · replace h := tl_in h c10
      obtain ⟨x13, u12, e11, h⟩ := tl_b2i h
      exact tl_aload_n dX10_goalCell_18 rfl (tl_iconst (v := 0) dX10_goalCell_19 ic_0 (tl_iconst (v := 3) dX10_goalCell_20 ic_3 (tl_iS3 (l10_ofOrder h1 e11) dX10_goalCell_21 cs_X10_goalCell_21 ⟨rfl, rfl⟩ ⟨Nat.zero_le _, Nat.zero_le _⟩ (Nat.le_of_ble_eq_true rfl) (tl_goto (tgt := 38) dX10_goalCell_24 (by decide) (tl_iretE dX10_goalCell_38 rfl rfl h)))))
  · replace h := tl_in h c6
    exact tl_iconst (v := 0) dX10_goalCell_7 ic_0 (tl_goto (tgt := 38) dX10_goalCell_8 (by decide) (tl_iretE dX10_goalCell_38 rfl rfl h))


def f10_orderDone_p15 : Nat → Nat → Int32 → tl_S → Option (tl_S)
  | 0, _, _, _ => none
  | fu + 1, a1, x2, u =>
  (if (80 + (4 * (u.1 a1 8))) ≤ x2 then some u else tl_g (¬ ((x2 + 4) < 0 ∨ 104 ≤ (x2 + 4).toNatClampNeg)) (tl_g (¬ (x2 < 0 ∨ 104 ≤ x2.toNatClampNeg)) (tl_let ((tl_u u.1 a1 x2.toNatClampNeg (u.1 a1 (x2 + 4).toNatClampNeg), u.2) : tl_S) (fun u7 => tl_let (x2 + 1) (fun x8 => f10_orderDone_p15 fu a1 x8 u7)))))

def f10_orderDone (a1 : Nat) (x2 : Int32) (u : tl_S) : Option (tl_S) :=
  tl_let ((tl_u u.1 a1 8 ((u.1 a1 8) - 1), u.2) : tl_S) (fun u4 => tl_let ((80 + (4 * x2))) (fun x5 => f10_orderDone_p15 tl_F a1 x5 u4))

theorem l10_orderDone_p15 {E : tl_E}  {v : tl_S} : ∀ (n : Nat) (a1 : Nat) (x2 : Int32) (u : tl_S) (d1 : Option Value), tl_T E.2.1 a1 = some 13 → f10_orderDone_p15 n a1 x2 u = some v → tl_R E mX10_orderDone tl_X0 (tl_ZB E mX10_orderDone (fun q w => q = none ∧ w = v)) 0 0 (tl_HB E u) 15 [some (.ref a1), d1, some (.int x2)] [] := by
  intro n
  induction n with
  | zero => intro a1 x2 u d1 h1 h; exact absurd h (by simp [f10_orderDone_p15])
  | succ n ih =>
    intro a1 x2 u d1 h1 h
    rw [f10_orderDone_p15] at h
    refine tl_iload_n dX10_orderDone_15 rfl (tl_bipush (v := 80) dX10_orderDone_16 bp_80 (tl_iconst (v := 4) dX10_orderDone_18 ic_4 (tl_aload_n dX10_orderDone_19 rfl (tl_bipush (v := 8) dX10_orderDone_20 bp_8 (tl_iald (j := 8) (fun _ _ => rfl) dX10_orderDone_22 h1 (li_8 104 rfl) lx_8 (tl_imul dX10_orderDone_23 (tl_iadd dX10_orderDone_24 (tl_icmp_ge (tgt := 42) dX10_orderDone_25 (by decide) (fun c4 => ?_) (fun c4 => ?_)))))))))
    · replace h := tl_ip h c4
      exact tl_vretE dX10_orderDone_42 rfl h
    · replace h := tl_in h c4
      obtain ⟨g5, h⟩ := tl_gi h
      obtain ⟨g6, h⟩ := tl_gi h
      refine tl_aload_n dX10_orderDone_28 rfl (tl_iload_n dX10_orderDone_29 rfl (tl_aload_n dX10_orderDone_30 rfl (tl_iload_n dX10_orderDone_31 rfl (tl_iconst (v := 4) dX10_orderDone_32 ic_4 (tl_iadd dX10_orderDone_33 (tl_iald (j := (x2 + 4).toNatClampNeg) (fun _ _ => rfl) dX10_orderDone_34 h1 g5 rfl (tl_iastK (fun _ _ => rfl) dX10_orderDone_35 h1 (x2.toNatClampNeg) g6 rfl (fun u7 e => ?_))))))))
      have h := tl_leteq e h
      clear e
      refine tl_iincK dX10_orderDone_36 rfl (ii_1 _) (Nat.le_of_ble_eq_true rfl) (fun x8 e => ?_)
      have h := tl_leteq e h
      clear e
      refine tl_goto (tgt := 15) dX10_orderDone_39 (by decide) (?_)
      exact ih _ _ _ _ h1 h

theorem l10_orderDone {E : tl_E} {a1 : Nat} {x2 : Int32}  {u : tl_S} {v : tl_S} (h1 : tl_T E.2.1 a1 = some 13) (h : f10_orderDone a1 x2 u = some v) : tl_MB E mX10_orderDone [.ref a1, .int x2] u (fun q w => q = none ∧ w = v) := by
  unfold f10_orderDone at h
  refine tl_start [some (.ref a1), some (.int x2), none] rfl rfl rfl (Nat.le_of_ble_eq_true rfl) ?_
  refine tl_aload_n dX10_orderDone_0 rfl (tl_bipush (v := 8) dX10_orderDone_1 bp_8 (tl_dup2 dX10_orderDone_3 rfl rfl (tl_iald (j := 8) (fun _ _ => rfl) dX10_orderDone_4 h1 (li_8 104 rfl) lx_8 (tl_iconst (v := 1) dX10_orderDone_5 ic_1 (tl_isub dX10_orderDone_6 (tl_iastK (fun _ _ => rfl) dX10_orderDone_7 h1 (8) (li_8 104 rfl) lx_8 (fun u4 e => ?_)))))))
  have h := tl_leteq e h
  clear e
  refine tl_bipush (v := 80) dX10_orderDone_8 bp_80 (tl_iconst (v := 4) dX10_orderDone_10 ic_4 (tl_iload_n dX10_orderDone_11 rfl (tl_imul dX10_orderDone_12 (tl_iadd dX10_orderDone_13 (tl_isto_n dX10_orderDone_14 (Nat.le_of_ble_eq_true rfl) (fun x5 e => ?_))))))
  have h := tl_leteq e h
  clear e
  exact l10_orderDone_p15 tl_F _ _ _ _ h1 h


def f10_pour_p37 (a1 : Nat) (x2 : Int32) (x3 : Int32) (u : tl_S) : Option (tl_S) :=
  tl_g (¬ (x2 < 0 ∨ 104 ≤ x2.toNatClampNeg)) (tl_g (¬ (x2 < 0 ∨ 104 ≤ x2.toNatClampNeg)) (tl_let ((tl_u u.1 a1 x2.toNatClampNeg ((u.1 a1 x2.toNatClampNeg) - x3), u.2) : tl_S) (fun u7 => tl_let ((tl_u u7.1 a1 6 ((u7.1 a1 6) + x3), u7.2) : tl_S) (fun u8 => tl_let ((tl_u u8.1 a1 14 0, u8.2) : tl_S) (fun u9 => tl_let ((tl_u u9.1 a1 15 0, u9.2) : tl_S) (fun u10 => some u10))))))

def f10_pour (a1 : Nat) (x2 : Int32) (u : tl_S) : Option (tl_S) :=
  tl_let (((48 + (4 * x2)) + 1)) (fun x4 => tl_g (¬ (x4 < 0 ∨ 104 ≤ x4.toNatClampNeg)) (tl_g (¬ (x4 < 0 ∨ 104 ≤ x4.toNatClampNeg)) (tl_let ((tl_u u.1 a1 x4.toNatClampNeg ((u.1 a1 x4.toNatClampNeg) + (u.1 a1 14)), u.2) : tl_S) (fun u7 => tl_g (¬ (x4 < 0 ∨ 104 ≤ x4.toNatClampNeg)) ((if (u7.1 a1 x4.toNatClampNeg) ≤ 99 then f10_pour_p37 a1 x4 0 u7 else tl_g (¬ (x4 < 0 ∨ 104 ≤ x4.toNatClampNeg)) (f10_pour_p37 a1 x4 (((u7.1 a1 x4.toNatClampNeg) - 99)) u7)))))))

theorem l10_pour_p37 {E : tl_E} {a1 : Nat} {x2 : Int32} {x3 : Int32}  {d1 : Option Value} {d3 : Option Value} {u : tl_S} {v : tl_S} (h1 : tl_T E.2.1 a1 = some 13) (h : f10_pour_p37 a1 x2 x3 u = some v) : tl_R E mX10_pour tl_X0 (tl_ZB E mX10_pour (fun q w => q = none ∧ w = v)) 0 0 (tl_HB E u) 37 [some (.ref a1), d1, some (.int x2), d3] [.int x3] := by
  unfold f10_pour_p37 at h
  obtain ⟨g5, h⟩ := tl_gi h
  obtain ⟨g6, h⟩ := tl_gi h
  refine tl_istore_n dX10_pour_37 (Nat.le_of_ble_eq_true rfl) (tl_aload_n dX10_pour_38 rfl (tl_iload_n dX10_pour_39 rfl (tl_dup2 dX10_pour_40 rfl rfl (tl_iald (j := x2.toNatClampNeg) (fun _ _ => rfl) dX10_pour_41 h1 g5 rfl (tl_iload_n dX10_pour_42 rfl (tl_isub dX10_pour_43 (tl_iastK (fun _ _ => rfl) dX10_pour_44 h1 (x2.toNatClampNeg) g6 rfl (fun u7 e => ?_))))))))
  have h := tl_leteq e h
  clear e
  refine tl_aload_n dX10_pour_45 rfl (tl_bipush (v := 6) dX10_pour_46 bp_6 (tl_dup2 dX10_pour_48 rfl rfl (tl_iald (j := 6) (fun _ _ => rfl) dX10_pour_49 h1 (li_6 104 rfl) lx_6 (tl_iload_n dX10_pour_50 rfl (tl_iadd dX10_pour_51 (tl_iastK (fun _ _ => rfl) dX10_pour_52 h1 (6) (li_6 104 rfl) lx_6 (fun u8 e => ?_)))))))
  have h := tl_leteq e h
  clear e
  refine tl_aload_n dX10_pour_53 rfl (tl_bipush (v := 14) dX10_pour_54 bp_14 (tl_iconst (v := 0) dX10_pour_56 ic_0 (tl_iastK (fun _ _ => rfl) dX10_pour_57 h1 (14) (li_14 104 rfl) lx_14 (fun u9 e => ?_))))
  have h := tl_leteq e h
  clear e
  refine tl_aload_n dX10_pour_58 rfl (tl_bipush (v := 15) dX10_pour_59 bp_15 (tl_iconst (v := 0) dX10_pour_61 ic_0 (tl_iastK (fun _ _ => rfl) dX10_pour_62 h1 (15) (li_15 104 rfl) lx_15 (fun u10 e => ?_))))
  have h := tl_leteq e h
  clear e
  exact tl_vretE dX10_pour_63 rfl h

theorem l10_pour {E : tl_E} {a1 : Nat} {x2 : Int32}  {u : tl_S} {v : tl_S} (h1 : tl_T E.2.1 a1 = some 13) (h : f10_pour a1 x2 u = some v) : tl_MB E mX10_pour [.ref a1, .int x2] u (fun q w => q = none ∧ w = v) := by
  unfold f10_pour at h
  refine tl_start [some (.ref a1), some (.int x2), none, none] rfl rfl rfl (Nat.le_of_ble_eq_true rfl) ?_
  refine tl_bipush (v := 48) dX10_pour_0 bp_48 (tl_iconst (v := 4) dX10_pour_2 ic_4 (tl_iload_n dX10_pour_3 rfl (tl_imul dX10_pour_4 (tl_iadd dX10_pour_5 (tl_iconst (v := 1) dX10_pour_6 ic_1 (tl_iadd dX10_pour_7 (tl_isto_n dX10_pour_8 (Nat.le_of_ble_eq_true rfl) (fun x4 e => ?_))))))))
  have h := tl_leteq e h
  clear e
  obtain ⟨g5, h⟩ := tl_gi h
  obtain ⟨g6, h⟩ := tl_gi h
  refine tl_aload_n dX10_pour_9 rfl (tl_iload_n dX10_pour_10 rfl (tl_dup2 dX10_pour_11 rfl rfl (tl_iald (j := x4.toNatClampNeg) (fun _ _ => rfl) dX10_pour_12 h1 g5 rfl (tl_aload_n dX10_pour_13 rfl (tl_bipush (v := 14) dX10_pour_14 bp_14 (tl_iald (j := 14) (fun _ _ => rfl) dX10_pour_16 h1 (li_14 104 rfl) lx_14 (tl_iadd dX10_pour_17 (tl_iastK (fun _ _ => rfl) dX10_pour_18 h1 (x4.toNatClampNeg) g6 rfl (fun u7 e => ?_)))))))))
  have h := tl_leteq e h
  clear e
  obtain ⟨g8, h⟩ := tl_gi h
  refine tl_aload_n dX10_pour_19 rfl (tl_iload_n dX10_pour_20 rfl (tl_iald (j := x4.toNatClampNeg) (fun _ _ => rfl) dX10_pour_21 h1 g8 rfl (tl_bipush (v := 99) dX10_pour_22 bp_99 (tl_icmp_le (tgt := 36) dX10_pour_24 (by decide) (fun c9 => ?_) (fun c9 => ?_)))))
  · replace h := tl_ip h c9
    refine tl_iconst (v := 0) dX10_pour_36 ic_0 (?_)
    exact l10_pour_p37 h1 h
  · replace h := tl_in h c9
    obtain ⟨g10, h⟩ := tl_gi h
    refine tl_aload_n dX10_pour_27 rfl (tl_iload_n dX10_pour_28 rfl (tl_iald (j := x4.toNatClampNeg) (fun _ _ => rfl) dX10_pour_29 h1 g10 rfl (tl_bipush (v := 99) dX10_pour_30 bp_99 (tl_isub dX10_pour_32 (tl_goto (tgt := 37) dX10_pour_33 (by decide) (?_))))))
    exact l10_pour_p37 h1 h

theorem cs_X10_takeOil_3 : tl_cS mX10_takeOil mX10_ofOrder 59 3 := ⟨cd_X10_ofOrder, ml_X10_59, sm_X10_ofOrder, in_X10, ⟨by decide, by decide, by decide +kernel⟩, Nat.le_of_ble_eq_true rfl, Nat.le_of_ble_eq_true rfl⟩
theorem cs_X10_takeOil_15 : tl_cS mX10_takeOil mX10_ofOrder 59 3 := ⟨cd_X10_ofOrder, ml_X10_59, sm_X10_ofOrder, in_X10, ⟨by decide, by decide, by decide +kernel⟩, Nat.le_of_ble_eq_true rfl, Nat.le_of_ble_eq_true rfl⟩
def f10_takeOil_p24 (a1 : Nat) (x2 : Int32) (u : tl_S) : Option (tl_S) :=
  tl_let ((tl_u u.1 a1 4 ((u.1 a1 4) - x2), u.2) : tl_S) (fun u4 => tl_let ((tl_u u4.1 a1 14 x2, u4.2) : tl_S) (fun u5 => tl_let ((tl_u u5.1 a1 15 1, u5.2) : tl_S) (fun u6 => some u6)))

def f10_takeOil (a1 : Nat) (u : tl_S) : Option (tl_S) :=
  tl_b2 (f10_ofOrder a1 0 2 u) (fun x5 u4 => (if (u4.1 a1 4) ≤ x5 then f10_takeOil_p24 a1 ((u4.1 a1 4)) u4 else tl_b2 (f10_ofOrder a1 0 2 u4) (fun x9 u8 => f10_takeOil_p24 a1 x9 u8)))

theorem l10_takeOil_p24 {E : tl_E} {a1 : Nat} {x2 : Int32}  {d1 : Option Value} {u : tl_S} {v : tl_S} (h1 : tl_T E.2.1 a1 = some 13) (h : f10_takeOil_p24 a1 x2 u = some v) : tl_R E mX10_takeOil tl_X0 (tl_ZB E mX10_takeOil (fun q w => q = none ∧ w = v)) 0 0 (tl_HB E u) 24 [some (.ref a1), d1] [.int x2] := by
  unfold f10_takeOil_p24 at h
  refine tl_istore_n dX10_takeOil_24 (Nat.le_of_ble_eq_true rfl) (tl_aload_n dX10_takeOil_25 rfl (tl_iconst (v := 4) dX10_takeOil_26 ic_4 (tl_dup2 dX10_takeOil_27 rfl rfl (tl_iald (j := 4) (fun _ _ => rfl) dX10_takeOil_28 h1 (li_4 104 rfl) lx_4 (tl_iload_n dX10_takeOil_29 rfl (tl_isub dX10_takeOil_30 (tl_iastK (fun _ _ => rfl) dX10_takeOil_31 h1 (4) (li_4 104 rfl) lx_4 (fun u4 e => ?_))))))))
  have h := tl_leteq e h
  clear e
  refine tl_aload_n dX10_takeOil_32 rfl (tl_bipush (v := 14) dX10_takeOil_33 bp_14 (tl_iload_n dX10_takeOil_35 rfl (tl_iastK (fun _ _ => rfl) dX10_takeOil_36 h1 (14) (li_14 104 rfl) lx_14 (fun u5 e => ?_))))
  have h := tl_leteq e h
  clear e
  refine tl_aload_n dX10_takeOil_37 rfl (tl_bipush (v := 15) dX10_takeOil_38 bp_15 (tl_iconst (v := 1) dX10_takeOil_40 ic_1 (tl_iastK (fun _ _ => rfl) dX10_takeOil_41 h1 (15) (li_15 104 rfl) lx_15 (fun u6 e => ?_))))
  have h := tl_leteq e h
  clear e
  exact tl_vretE dX10_takeOil_42 rfl h

theorem l10_takeOil {E : tl_E} {a1 : Nat}  {u : tl_S} {v : tl_S} (h1 : tl_T E.2.1 a1 = some 13) (h : f10_takeOil a1 u = some v) : tl_MB E mX10_takeOil [.ref a1] u (fun q w => q = none ∧ w = v) := by
  unfold f10_takeOil at h
  refine tl_start [some (.ref a1), none] rfl rfl rfl (Nat.le_of_ble_eq_true rfl) ?_
  obtain ⟨x5, u4, e3, h⟩ := tl_b2i h
  refine tl_aload_n dX10_takeOil_0 rfl (tl_iconst (v := 0) dX10_takeOil_1 ic_0 (tl_iconst (v := 2) dX10_takeOil_2 ic_2 (tl_iS3 (l10_ofOrder h1 e3) dX10_takeOil_3 cs_X10_takeOil_3 ⟨rfl, rfl⟩ ⟨Nat.zero_le _, Nat.zero_le _⟩ (Nat.le_of_ble_eq_true rfl) (tl_aload_n dX10_takeOil_6 rfl (tl_iconst (v := 4) dX10_takeOil_7 ic_4 (tl_iald (j := 4) (fun _ _ => rfl) dX10_takeOil_8 h1 (li_4 104 rfl) lx_4 (tl_icmp_ge (tgt := 21) dX10_takeOil_9 (by decide) (fun c6 => ?_) (fun c6 => ?_))))))))
  · replace h := tl_ip h c6
    refine tl_aload_n dX10_takeOil_21 rfl (tl_iconst (v := 4) dX10_takeOil_22 ic_4 (tl_iald (j := 4) (fun _ _ => rfl) dX10_takeOil_23 h1 (li_4 104 rfl) lx_4 (?_)))
    exact l10_takeOil_p24 h1 h
  · replace h := tl_in h c6
    obtain ⟨x9, u8, e7, h⟩ := tl_b2i h
    refine tl_aload_n dX10_takeOil_12 rfl (tl_iconst (v := 0) dX10_takeOil_13 ic_0 (tl_iconst (v := 2) dX10_takeOil_14 ic_2 (tl_iS3 (l10_ofOrder h1 e7) dX10_takeOil_15 cs_X10_takeOil_15 ⟨rfl, rfl⟩ ⟨Nat.zero_le _, Nat.zero_le _⟩ (Nat.le_of_ble_eq_true rfl) (tl_goto (tgt := 24) dX10_takeOil_18 (by decide) (?_)))))
    exact l10_takeOil_p24 h1 h

theorem cs_X10_handle_3 : tl_cS mX10_handle mX10_ofOrder 59 3 := ⟨cd_X10_ofOrder, ml_X10_59, sm_X10_ofOrder, in_X10, ⟨by decide, by decide, by decide +kernel⟩, Nat.le_of_ble_eq_true rfl, Nat.le_of_ble_eq_true rfl⟩
theorem cs_X10_handle_15 : tl_cS mX10_handle mX10_toMouth 62 1 := ⟨cd_X10_toMouth, ml_X10_62, sm_X10_toMouth, in_X10, ⟨by decide, by decide, by decide +kernel⟩, Nat.le_of_ble_eq_true rfl, Nat.le_of_ble_eq_true rfl⟩
theorem cs_X10_handle_30 : tl_cS mX10_handle mX10_goalGallery 72 1 := ⟨cd_X10_goalGallery, ml_X10_72, sm_X10_goalGallery, in_X10, ⟨by decide, by decide, by decide +kernel⟩, Nat.le_of_ble_eq_true rfl, Nat.le_of_ble_eq_true rfl⟩
theorem cs_X10_handle_37 : tl_cS mX10_handle mX10_ofOrder 59 3 := ⟨cd_X10_ofOrder, ml_X10_59, sm_X10_ofOrder, in_X10, ⟨by decide, by decide, by decide +kernel⟩, Nat.le_of_ble_eq_true rfl, Nat.le_of_ble_eq_true rfl⟩
theorem cs_X10_handle_91 : tl_cS mX10_handle mX10_ofOrder 59 3 := ⟨cd_X10_ofOrder, ml_X10_59, sm_X10_ofOrder, in_X10, ⟨by decide, by decide, by decide +kernel⟩, Nat.le_of_ble_eq_true rfl, Nat.le_of_ble_eq_true rfl⟩
theorem cs_X10_handle_102 : tl_cS mX10_handle mX10_ofOrder 59 3 := ⟨cd_X10_ofOrder, ml_X10_59, sm_X10_ofOrder, in_X10, ⟨by decide, by decide, by decide +kernel⟩, Nat.le_of_ble_eq_true rfl, Nat.le_of_ble_eq_true rfl⟩
theorem cs_X10_handle_113 : tl_cS mX10_handle mX10_orderDone 80 2 := ⟨cd_X10_orderDone, ml_X10_80, sm_X10_orderDone, in_X10, ⟨by decide, by decide, by decide +kernel⟩, Nat.le_of_ble_eq_true rfl, Nat.le_of_ble_eq_true rfl⟩
theorem cs_X10_handle_45 : tl_cS mX10_handle mX10_pour 76 2 := ⟨cd_X10_pour, ml_X10_76, sm_X10_pour, in_X10, ⟨by decide, by decide, by decide +kernel⟩, Nat.le_of_ble_eq_true rfl, Nat.le_of_ble_eq_true rfl⟩
theorem cs_X10_handle_50 : tl_cS mX10_handle mX10_orderDone 80 2 := ⟨cd_X10_orderDone, ml_X10_80, sm_X10_orderDone, in_X10, ⟨by decide, by decide, by decide +kernel⟩, Nat.le_of_ble_eq_true rfl, Nat.le_of_ble_eq_true rfl⟩
theorem cs_X10_handle_22 : tl_cS mX10_handle mX10_takeOil 69 1 := ⟨cd_X10_takeOil, ml_X10_69, sm_X10_takeOil, in_X10, ⟨by decide, by decide, by decide +kernel⟩, Nat.le_of_ble_eq_true rfl, Nat.le_of_ble_eq_true rfl⟩
def f10_handle (a1 : Nat) (u : tl_S) : Option (tl_S) :=
  tl_b2 (f10_ofOrder a1 0 1 u) (fun x5 u4 => tl_let ((48 + (4 * x5))) (fun x6 => tl_b2 (f10_toMouth a1 u4) (fun x9 u8 => (if x9 = 0 then tl_b2 (f10_goalGallery a1 u8) (fun x13 u12 => tl_let ((tl_u u12.1 a1 11 x13, u12.2) : tl_S) (fun u14 => tl_b2 (f10_ofOrder a1 0 0 u14) (fun x17 u16 => (if x17 = 0 then (if (u16.1 a1 13) = (-1) then tl_let ((tl_u u16.1 a1 13 x5, u16.2) : tl_S) (fun u20 => tl_g (¬ ((x6 + 2) < 0 ∨ 104 ≤ (x6 + 2).toNatClampNeg)) (tl_let ((tl_u u20.1 a1 ((x6 + 2).toNatClampNeg) (-1), u20.2) : tl_S) (fun u22 => tl_g (¬ ((x6 + 3) < 0 ∨ 104 ≤ (x6 + 3).toNatClampNeg)) (tl_let ((tl_u u22.1 a1 ((x6 + 3).toNatClampNeg) (-1), u22.2) : tl_S) (fun u24 => some u24))))) else tl_b2 (f10_ofOrder a1 0 2 u16) (fun x22 u21 => tl_g (¬ ((x6 + 2) < 0 ∨ 104 ≤ (x6 + 2).toNatClampNeg)) (tl_let ((tl_u u21.1 a1 ((x6 + 2).toNatClampNeg) x22, u21.2) : tl_S) (fun u24 => tl_b2 (f10_ofOrder a1 0 3 u24) (fun x27 u26 => tl_g (¬ ((x6 + 3) < 0 ∨ 104 ≤ (x6 + 3).toNatClampNeg)) (tl_let ((tl_u u26.1 a1 ((x6 + 3).toNatClampNeg) x27, u26.2) : tl_S) (fun u29 => tl_let ((tl_u u29.1 a1 13 (-1), u29.2) : tl_S) (fun u30 => tl_b (f10_orderDone a1 0 u30) (fun u32 => some u32))))))))) else tl_b (f10_pour a1 x5 u16) (fun u20 => tl_b (f10_orderDone a1 0 u20) (fun u22 => some u22)))))) else tl_b (f10_takeOil a1 u8) (fun u12 => some u12)))))

theorem l10_handle {E : tl_E} {a1 : Nat}  {u : tl_S} {v : tl_S} (h1 : tl_T E.2.1 a1 = some 13) (h : f10_handle a1 u = some v) : tl_MB E mX10_handle [.ref a1] u (fun q w => q = none ∧ w = v) := by
  unfold f10_handle at h
  refine tl_start [some (.ref a1), none, none] rfl rfl rfl (Nat.le_of_ble_eq_true rfl) ?_
  obtain ⟨x5, u4, e3, h⟩ := tl_b2i h
  refine tl_aload_n dX10_handle_0 rfl (tl_iconst (v := 0) dX10_handle_1 ic_0 (tl_iconst (v := 1) dX10_handle_2 ic_1 (tl_iS3 (l10_ofOrder h1 e3) dX10_handle_3 cs_X10_handle_3 ⟨rfl, rfl⟩ ⟨Nat.zero_le _, Nat.zero_le _⟩ (Nat.le_of_ble_eq_true rfl) (tl_istore_n dX10_handle_6 (Nat.le_of_ble_eq_true rfl) (tl_bipush (v := 48) dX10_handle_7 bp_48 (tl_iconst (v := 4) dX10_handle_9 ic_4 (tl_iload_n dX10_handle_10 rfl (tl_imul dX10_handle_11 (tl_iadd dX10_handle_12 (tl_isto_n dX10_handle_13 (Nat.le_of_ble_eq_true rfl) (fun x6 e => ?_)))))))))))
  have h := tl_leteq e h
  clear e
  obtain ⟨x9, u8, e7, h⟩ := tl_b2i h
  refine tl_aload_n dX10_handle_14 rfl (tl_iS1 (l10_toMouth h1 e7) dX10_handle_15 cs_X10_handle_15 ⟨rfl, rfl⟩ ⟨Nat.zero_le _, Nat.zero_le _⟩ (Nat.le_of_ble_eq_true rfl) (tl_if_eq (tgt := 26) dX10_handle_18 (by decide) (fun c10 => ?_) (fun c10 => ?_)))
  · replace h := tl_ip h c10
    obtain ⟨x13, u12, e11, h⟩ := tl_b2i h
    refine tl_aload_n dX10_handle_26 rfl (tl_bipush (v := 11) dX10_handle_27 bp_11 (tl_aload_n dX10_handle_29 rfl (tl_iS1 (l10_goalGallery h1 e11) dX10_handle_30 cs_X10_handle_30 ⟨rfl, rfl⟩ ⟨Nat.zero_le _, Nat.zero_le _⟩ (Nat.le_of_ble_eq_true rfl) (tl_iastK (fun _ _ => rfl) dX10_handle_33 h1 (11) (li_11 104 rfl) lx_11 (fun u14 e => ?_)))))
    have h := tl_leteq e h
    clear e
    obtain ⟨x17, u16, e15, h⟩ := tl_b2i h
    refine tl_aload_n dX10_handle_34 rfl (tl_iconst (v := 0) dX10_handle_35 ic_0 (tl_iconst (v := 0) dX10_handle_36 ic_0 (tl_iS3 (l10_ofOrder h1 e15) dX10_handle_37 cs_X10_handle_37 ⟨rfl, rfl⟩ ⟨Nat.zero_le _, Nat.zero_le _⟩ (Nat.le_of_ble_eq_true rfl) (tl_if_eq (tgt := 56) dX10_handle_40 (by decide) (fun c18 => ?_) (fun c18 => ?_)))))
    · replace h := tl_ip h c18
      refine tl_aload_n dX10_handle_56 rfl (tl_bipush (v := 13) dX10_handle_57 bp_13 (tl_iald (j := 13) (fun _ _ => rfl) dX10_handle_59 h1 (li_13 104 rfl) lx_13 (tl_iconst (v := (-1)) dX10_handle_60 ic_m1 (tl_icmp_ne (tgt := 84) dX10_handle_61 (by decide) (fun c19 => ?_) (fun c19 => ?_)))))
      · replace h := tl_in h c19
        obtain ⟨x22, u21, e20, h⟩ := tl_b2i h
        obtain ⟨g23, h⟩ := tl_gi h
        refine tl_aload_n dX10_handle_84 rfl (tl_iload_n dX10_handle_85 rfl (tl_iconst (v := 2) dX10_handle_86 ic_2 (tl_iadd dX10_handle_87 (tl_aload_n dX10_handle_88 rfl (tl_iconst (v := 0) dX10_handle_89 ic_0 (tl_iconst (v := 2) dX10_handle_90 ic_2 (tl_iS3 (l10_ofOrder h1 e20) dX10_handle_91 cs_X10_handle_91 ⟨rfl, rfl⟩ ⟨Nat.zero_le _, Nat.zero_le _⟩ (Nat.le_of_ble_eq_true rfl) (tl_iastK (fun _ _ => rfl) dX10_handle_94 h1 ((x6 + 2).toNatClampNeg) g23 rfl (fun u24 e => ?_)))))))))
        have h := tl_leteq e h
        clear e
        obtain ⟨x27, u26, e25, h⟩ := tl_b2i h
        obtain ⟨g28, h⟩ := tl_gi h
        refine tl_aload_n dX10_handle_95 rfl (tl_iload_n dX10_handle_96 rfl (tl_iconst (v := 3) dX10_handle_97 ic_3 (tl_iadd dX10_handle_98 (tl_aload_n dX10_handle_99 rfl (tl_iconst (v := 0) dX10_handle_100 ic_0 (tl_iconst (v := 3) dX10_handle_101 ic_3 (tl_iS3 (l10_ofOrder h1 e25) dX10_handle_102 cs_X10_handle_102 ⟨rfl, rfl⟩ ⟨Nat.zero_le _, Nat.zero_le _⟩ (Nat.le_of_ble_eq_true rfl) (tl_iastK (fun _ _ => rfl) dX10_handle_105 h1 ((x6 + 3).toNatClampNeg) g28 rfl (fun u29 e => ?_)))))))))
        have h := tl_leteq e h
        clear e
        refine tl_aload_n dX10_handle_106 rfl (tl_bipush (v := 13) dX10_handle_107 bp_13 (tl_iconst (v := (-1)) dX10_handle_109 ic_m1 (tl_iastK (fun _ _ => rfl) dX10_handle_110 h1 (13) (li_13 104 rfl) lx_13 (fun u30 e => ?_))))
        have h := tl_leteq e h
        clear e
        obtain ⟨u32, e31, h⟩ := tl_bi h
        exact tl_aload_n dX10_handle_111 rfl (tl_iconst (v := 0) dX10_handle_112 ic_0 (tl_vS2 (l10_orderDone h1 e31) dX10_handle_113 cs_X10_handle_113 ⟨rfl, rfl⟩ ⟨Nat.zero_le _, Nat.zero_le _⟩ (Nat.le_of_ble_eq_true rfl) (tl_vretE dX10_handle_116 rfl h)))
      · replace h := tl_ip h c19
        refine tl_aload_n dX10_handle_64 rfl (tl_bipush (v := 13) dX10_handle_65 bp_13 (tl_iload_n dX10_handle_67 rfl (tl_iastK (fun _ _ => rfl) dX10_handle_68 h1 (13) (li_13 104 rfl) lx_13 (fun u20 e => ?_))))
        have h := tl_leteq e h
        clear e
        obtain ⟨g21, h⟩ := tl_gi h
        refine tl_aload_n dX10_handle_69 rfl (tl_iload_n dX10_handle_70 rfl (tl_iconst (v := 2) dX10_handle_71 ic_2 (tl_iadd dX10_handle_72 (tl_iconst (v := (-1)) dX10_handle_73 ic_m1 (tl_iastK (fun _ _ => rfl) dX10_handle_74 h1 ((x6 + 2).toNatClampNeg) g21 rfl (fun u22 e => ?_))))))
        have h := tl_leteq e h
        clear e
        obtain ⟨g23, h⟩ := tl_gi h
        refine tl_aload_n dX10_handle_75 rfl (tl_iload_n dX10_handle_76 rfl (tl_iconst (v := 3) dX10_handle_77 ic_3 (tl_iadd dX10_handle_78 (tl_iconst (v := (-1)) dX10_handle_79 ic_m1 (tl_iastK (fun _ _ => rfl) dX10_handle_80 h1 ((x6 + 3).toNatClampNeg) g23 rfl (fun u24 e => ?_))))))
        have h := tl_leteq e h
        clear e
        exact tl_goto (tgt := 116) dX10_handle_81 (by decide) (tl_vretE dX10_handle_116 rfl h)
    · replace h := tl_in h c18
      obtain ⟨u20, e19, h⟩ := tl_bi h
      obtain ⟨u22, e21, h⟩ := tl_bi h
      exact tl_aload_n dX10_handle_43 rfl (tl_iload_n dX10_handle_44 rfl (tl_vS2 (l10_pour h1 e19) dX10_handle_45 cs_X10_handle_45 ⟨rfl, rfl⟩ ⟨Nat.zero_le _, Nat.zero_le _⟩ (Nat.le_of_ble_eq_true rfl) (tl_aload_n dX10_handle_48 rfl (tl_iconst (v := 0) dX10_handle_49 ic_0 (tl_vS2 (l10_orderDone h1 e21) dX10_handle_50 cs_X10_handle_50 ⟨rfl, rfl⟩ ⟨Nat.zero_le _, Nat.zero_le _⟩ (Nat.le_of_ble_eq_true rfl) (tl_goto (tgt := 116) dX10_handle_53 (by decide) (tl_vretE dX10_handle_116 rfl h)))))))
  · replace h := tl_in h c10
    obtain ⟨u12, e11, h⟩ := tl_bi h
    exact tl_aload_n dX10_handle_21 rfl (tl_vS1 (l10_takeOil h1 e11) dX10_handle_22 cs_X10_handle_22 ⟨rfl, rfl⟩ ⟨Nat.zero_le _, Nat.zero_le _⟩ (Nat.le_of_ble_eq_true rfl) (tl_vretE dX10_handle_25 rfl h))

theorem cs_X10_handleAll_16 : tl_cS mX10_handleAll mX10_goalGallery 72 1 := ⟨cd_X10_goalGallery, ml_X10_72, sm_X10_goalGallery, in_X10, ⟨by decide, by decide, by decide +kernel⟩, Nat.le_of_ble_eq_true rfl, Nat.le_of_ble_eq_true rfl⟩
theorem cs_X10_handleAll_20 : tl_cS mX10_handleAll mX10_goalCell 83 1 := ⟨cd_X10_goalCell, ml_X10_83, sm_X10_goalCell, in_X10, ⟨by decide, by decide, by decide +kernel⟩, Nat.le_of_ble_eq_true rfl, Nat.le_of_ble_eq_true rfl⟩
theorem cs_X10_handleAll_23 : tl_cS mX10_handleAll mX10_between 86 4 := ⟨cd_X10_between, ml_X10_86, sm_X10_between, in_X10, ⟨by decide, by decide, by decide +kernel⟩, Nat.le_of_ble_eq_true rfl, Nat.le_of_ble_eq_true rfl⟩
theorem cs_X10_handleAll_30 : tl_cS mX10_handleAll mX10_handle 90 1 := ⟨cd_X10_handle, ml_X10_90, sm_X10_handle, in_X10, ⟨by decide, by decide, by decide +kernel⟩, Nat.le_of_ble_eq_true rfl, Nat.le_of_ble_eq_true rfl⟩
def f10_handleAll_p0 : Nat → Nat → tl_S → Option (tl_S)
  | 0, _, _ => none
  | fu + 1, a1, u =>
  (if (u.1 a1 8) ≤ 0 then some u else tl_b2 (f10_goalGallery a1 u) (fun x6 u5 => tl_b2 (f10_goalCell a1 u5) (fun x9 u8 => tl_b2 (f10_between (u.1 a1 11) (u.1 a1 12) x6 x9 u8) (fun x12 u11 => (if x12 = 0 then tl_b (f10_handle a1 u11) (fun u15 => f10_handleAll_p0 fu a1 u15) else some u11)))))

def f10_handleAll (a1 : Nat) (u : tl_S) : Option (tl_S) :=
  f10_handleAll_p0 tl_F a1 u

theorem l10_handleAll_p0 {E : tl_E}  {v : tl_S} : ∀ (n : Nat) (a1 : Nat) (u : tl_S) , tl_T E.2.1 a1 = some 13 → f10_handleAll_p0 n a1 u = some v → tl_R E mX10_handleAll tl_X0 (tl_ZB E mX10_handleAll (fun q w => q = none ∧ w = v)) 0 0 (tl_HB E u) 0 [some (.ref a1)] [] := by
  intro n
  induction n with
  | zero => intro a1 u  h1 h; exact absurd h (by simp [f10_handleAll_p0])
  | succ n ih =>
    intro a1 u  h1 h
    rw [f10_handleAll_p0] at h
    refine tl_aload_n dX10_handleAll_0 rfl (tl_bipush (v := 8) dX10_handleAll_1 bp_8 (tl_iald (j := 8) (fun _ _ => rfl) dX10_handleAll_3 h1 (li_8 104 rfl) lx_8 (tl_if_le (tgt := 36) dX10_handleAll_4 (by decide) (fun c3 => ?_) (fun c3 => ?_))))
    · replace h := tl_ip h c3
      exact tl_vretE dX10_handleAll_36 rfl h
    · replace h := tl_in h c3
      obtain ⟨x6, u5, e4, h⟩ := tl_b2i h
      obtain ⟨x9, u8, e7, h⟩ := tl_b2i h
      obtain ⟨x12, u11, e10, h⟩ := tl_b2i h
      refine tl_aload_n dX10_handleAll_7 rfl (tl_bipush (v := 11) dX10_handleAll_8 bp_11 (tl_iald (j := 11) (fun _ _ => rfl) dX10_handleAll_10 h1 (li_11 104 rfl) lx_11 (tl_aload_n dX10_handleAll_11 rfl (tl_bipush (v := 12) dX10_handleAll_12 bp_12 (tl_iald (j := 12) (fun _ _ => rfl) dX10_handleAll_14 h1 (li_12 104 rfl) lx_12 (tl_aload_n dX10_handleAll_15 rfl (tl_iS1 (l10_goalGallery h1 e4) dX10_handleAll_16 cs_X10_handleAll_16 ⟨rfl, rfl⟩ ⟨Nat.zero_le _, Nat.zero_le _⟩ (Nat.le_of_ble_eq_true rfl) (tl_aload_n dX10_handleAll_19 rfl (tl_iS1 (l10_goalCell h1 e7) dX10_handleAll_20 cs_X10_handleAll_20 ⟨rfl, rfl⟩ ⟨Nat.zero_le _, Nat.zero_le _⟩ (Nat.le_of_ble_eq_true rfl) (tl_iS4 (l10_between  e10) dX10_handleAll_23 cs_X10_handleAll_23 ⟨rfl, rfl⟩ ⟨Nat.zero_le _, Nat.zero_le _⟩ (Nat.le_of_ble_eq_true rfl) (tl_if_ne (tgt := 36) dX10_handleAll_26 (by decide) (fun c13 => ?_) (fun c13 => ?_))))))))))))
      · replace h := tl_in h c13
        exact tl_vretE dX10_handleAll_36 rfl h
      · replace h := tl_ip h c13
        obtain ⟨u15, e14, h⟩ := tl_bi h
        refine tl_aload_n dX10_handleAll_29 rfl (tl_vS1 (l10_handle h1 e14) dX10_handleAll_30 cs_X10_handleAll_30 ⟨rfl, rfl⟩ ⟨Nat.zero_le _, Nat.zero_le _⟩ (Nat.le_of_ble_eq_true rfl) (tl_goto (tgt := 0) dX10_handleAll_33 (by decide) (?_)))
        exact ih _ _  h1 h

theorem l10_handleAll {E : tl_E} {a1 : Nat}  {u : tl_S} {v : tl_S} (h1 : tl_T E.2.1 a1 = some 13) (h : f10_handleAll a1 u = some v) : tl_MB E mX10_handleAll [.ref a1] u (fun q w => q = none ∧ w = v) := by
  unfold f10_handleAll at h
  refine tl_start [some (.ref a1)] rfl rfl rfl (Nat.le_of_ble_eq_true rfl) ?_
  exact l10_handleAll_p0 tl_F _ _  h1 h

theorem cs_X10_step_1 : tl_cS mX10_step mX10_goalGallery 72 1 := ⟨cd_X10_goalGallery, ml_X10_72, sm_X10_goalGallery, in_X10, ⟨by decide, by decide, by decide +kernel⟩, Nat.le_of_ble_eq_true rfl, Nat.le_of_ble_eq_true rfl⟩
theorem cs_X10_step_19 : tl_cS mX10_step mX10_goalCell 83 1 := ⟨cd_X10_goalCell, ml_X10_83, sm_X10_goalCell, in_X10, ⟨by decide, by decide, by decide +kernel⟩, Nat.le_of_ble_eq_true rfl, Nat.le_of_ble_eq_true rfl⟩
def f10_step (a1 : Nat) (u : tl_S) : Option (tl_S) :=
  tl_b2 (f10_goalGallery a1 u) (fun x5 u4 => (if x5 = (u4.1 a1 11) then tl_b2 (f10_goalCell a1 u4) (fun x9 u8 => (if x9 ≤ (u8.1 a1 12) then tl_let ((tl_u u8.1 a1 12 ((u4.1 a1 12) + (-1)), u8.2) : tl_S) (fun u11 => some u11) else tl_let ((tl_u u8.1 a1 12 ((u4.1 a1 12) + 1), u8.2) : tl_S) (fun u11 => some u11))) else (if (u4.1 a1 12) ≤ 0 then tl_let ((tl_u u4.1 a1 11 x5, u4.2) : tl_S) (fun u8 => tl_let ((tl_u u8.1 a1 12 1, u8.2) : tl_S) (fun u9 => some u9)) else tl_let ((tl_u u4.1 a1 12 ((u4.1 a1 12) - 1), u4.2) : tl_S) (fun u8 => some u8))))

theorem l10_step {E : tl_E} {a1 : Nat}  {u : tl_S} {v : tl_S} (h1 : tl_T E.2.1 a1 = some 13) (h : f10_step a1 u = some v) : tl_MB E mX10_step [.ref a1] u (fun q w => q = none ∧ w = v) := by
  unfold f10_step at h
  refine tl_start [some (.ref a1), none] rfl rfl rfl (Nat.le_of_ble_eq_true rfl) ?_
  obtain ⟨x5, u4, e3, h⟩ := tl_b2i h
  refine tl_aload_n dX10_step_0 rfl (tl_iS1 (l10_goalGallery h1 e3) dX10_step_1 cs_X10_step_1 ⟨rfl, rfl⟩ ⟨Nat.zero_le _, Nat.zero_le _⟩ (Nat.le_of_ble_eq_true rfl) (tl_istore_n dX10_step_4 (Nat.le_of_ble_eq_true rfl) (tl_iload_n dX10_step_5 rfl (tl_aload_n dX10_step_6 rfl (tl_bipush (v := 11) dX10_step_7 bp_11 (tl_iald (j := 11) (fun _ _ => rfl) dX10_step_9 h1 (li_11 104 rfl) lx_11 (tl_icmp_ne (tgt := 39) dX10_step_10 (by decide) (fun c6 => ?_) (fun c6 => ?_))))))))
  · replace h := tl_in h c6
    refine tl_aload_n dX10_step_39 rfl (tl_bipush (v := 12) dX10_step_40 bp_12 (tl_iald (j := 12) (fun _ _ => rfl) dX10_step_42 h1 (li_12 104 rfl) lx_12 (tl_if_le (tgt := 57) dX10_step_43 (by decide) (fun c7 => ?_) (fun c7 => ?_))))
    · replace h := tl_ip h c7
      refine tl_aload_n dX10_step_57 rfl (tl_bipush (v := 11) dX10_step_58 bp_11 (tl_iload_n dX10_step_60 rfl (tl_iastK (fun _ _ => rfl) dX10_step_61 h1 (11) (li_11 104 rfl) lx_11 (fun u8 e => ?_))))
      have h := tl_leteq e h
      clear e
      refine tl_aload_n dX10_step_62 rfl (tl_bipush (v := 12) dX10_step_63 bp_12 (tl_iconst (v := 1) dX10_step_65 ic_1 (tl_iastK (fun _ _ => rfl) dX10_step_66 h1 (12) (li_12 104 rfl) lx_12 (fun u9 e => ?_))))
      have h := tl_leteq e h
      clear e
      exact tl_vretE dX10_step_67 rfl h
    · replace h := tl_in h c7
      refine tl_aload_n dX10_step_46 rfl (tl_bipush (v := 12) dX10_step_47 bp_12 (tl_dup2 dX10_step_49 rfl rfl (tl_iald (j := 12) (fun _ _ => rfl) dX10_step_50 h1 (li_12 104 rfl) lx_12 (tl_iconst (v := 1) dX10_step_51 ic_1 (tl_isub dX10_step_52 (tl_iastK (fun _ _ => rfl) dX10_step_53 h1 (12) (li_12 104 rfl) lx_12 (fun u8 e => ?_)))))))
      have h := tl_leteq e h
      clear e
      exact tl_goto (tgt := 67) dX10_step_54 (by decide) (tl_vretE dX10_step_67 rfl h)
  · replace h := tl_ip h c6
    obtain ⟨x9, u8, e7, h⟩ := tl_b2i h
    refine tl_aload_n dX10_step_13 rfl (tl_bipush (v := 12) dX10_step_14 bp_12 (tl_dup2 dX10_step_16 rfl rfl (tl_iald (j := 12) (fun _ _ => rfl) dX10_step_17 h1 (li_12 104 rfl) lx_12 (tl_aload_n dX10_step_18 rfl (tl_iS1 (l10_goalCell h1 e7) dX10_step_19 cs_X10_step_19 ⟨rfl, rfl⟩ ⟨Nat.zero_le _, Nat.zero_le _⟩ (Nat.le_of_ble_eq_true rfl) (tl_aload_n dX10_step_22 rfl (tl_bipush (v := 12) dX10_step_23 bp_12 (tl_iald (j := 12) (fun _ _ => rfl) dX10_step_25 h1 (li_12 104 rfl) lx_12 (tl_icmp_le (tgt := 33) dX10_step_26 (by decide) (fun c10 => ?_) (fun c10 => ?_))))))))))
    · replace h := tl_ip h c10
      refine tl_iconst (v := (-1)) dX10_step_33 ic_m1 (tl_iadd dX10_step_34 (tl_iastK (fun _ _ => rfl) dX10_step_35 h1 (12) (li_12 104 rfl) lx_12 (fun u11 e => ?_)))
      have h := tl_leteq e h
      clear e
      exact tl_goto (tgt := 67) dX10_step_36 (by decide) (tl_vretE dX10_step_67 rfl h)
    · replace h := tl_in h c10
      refine tl_iconst (v := 1) dX10_step_29 ic_1 (tl_goto (tgt := 34) dX10_step_30 (by decide) (tl_iadd dX10_step_34 (tl_iastK (fun _ _ => rfl) dX10_step_35 h1 (12) (li_12 104 rfl) lx_12 (fun u11 e => ?_))))
      have h := tl_leteq e h
      clear e
      exact tl_goto (tgt := 67) dX10_step_36 (by decide) (tl_vretE dX10_step_67 rfl h)

theorem cs_X10_ladGoes_1 : tl_cS mX10_ladGoes mX10_handleAll 93 1 := ⟨cd_X10_handleAll, ml_X10_93, sm_X10_handleAll, in_X10, ⟨by decide, by decide, by decide +kernel⟩, Nat.le_of_ble_eq_true rfl, Nat.le_of_ble_eq_true rfl⟩
theorem cs_X10_ladGoes_22 : tl_cS mX10_ladGoes mX10_step 96 1 := ⟨cd_X10_step, ml_X10_96, sm_X10_step, in_X10, ⟨by decide, by decide, by decide +kernel⟩, Nat.le_of_ble_eq_true rfl, Nat.le_of_ble_eq_true rfl⟩
theorem cs_X10_ladGoes_26 : tl_cS mX10_ladGoes mX10_handleAll 93 1 := ⟨cd_X10_handleAll, ml_X10_93, sm_X10_handleAll, in_X10, ⟨by decide, by decide, by decide +kernel⟩, Nat.le_of_ble_eq_true rfl, Nat.le_of_ble_eq_true rfl⟩
def f10_ladGoes_p6 : Nat → Nat → Int32 → tl_S → Option (tl_S)
  | 0, _, _, _ => none
  | fu + 1, a1, x2, u =>
  (if (u.1 a1 16) ≤ x2 then some u else (if (u.1 a1 8) ≤ 0 then some u else tl_b (f10_step a1 u) (fun u7 => tl_b (f10_handleAll a1 u7) (fun u9 => tl_let (x2 + 1) (fun x10 => f10_ladGoes_p6 fu a1 x10 u9)))))

def f10_ladGoes (a1 : Nat) (u : tl_S) : Option (tl_S) :=
  tl_b (f10_handleAll a1 u) (fun u4 => f10_ladGoes_p6 tl_F a1 0 u4)

theorem l10_ladGoes_p6 {E : tl_E}  {v : tl_S} : ∀ (n : Nat) (a1 : Nat) (x2 : Int32) (u : tl_S) , tl_T E.2.1 a1 = some 13 → f10_ladGoes_p6 n a1 x2 u = some v → tl_R E mX10_ladGoes tl_X0 (tl_ZB E mX10_ladGoes (fun q w => q = none ∧ w = v)) 0 0 (tl_HB E u) 6 [some (.ref a1), some (.int x2)] [] := by
  intro n
  induction n with
  | zero => intro a1 x2 u  h1 h; exact absurd h (by simp [f10_ladGoes_p6])
  | succ n ih =>
    intro a1 x2 u  h1 h
    rw [f10_ladGoes_p6] at h
    refine tl_iload_n dX10_ladGoes_6 rfl (tl_aload_n dX10_ladGoes_7 rfl (tl_bipush (v := 16) dX10_ladGoes_8 bp_16 (tl_iald (j := 16) (fun _ _ => rfl) dX10_ladGoes_10 h1 (li_16 104 rfl) lx_16 (tl_icmp_ge (tgt := 35) dX10_ladGoes_11 (by decide) (fun c4 => ?_) (fun c4 => ?_)))))
    · replace h := tl_ip h c4
      exact tl_vretE dX10_ladGoes_35 rfl h
    · replace h := tl_in h c4
      refine tl_aload_n dX10_ladGoes_14 rfl (tl_bipush (v := 8) dX10_ladGoes_15 bp_8 (tl_iald (j := 8) (fun _ _ => rfl) dX10_ladGoes_17 h1 (li_8 104 rfl) lx_8 (tl_if_le (tgt := 35) dX10_ladGoes_18 (by decide) (fun c5 => ?_) (fun c5 => ?_))))
      · replace h := tl_ip h c5
        exact tl_vretE dX10_ladGoes_35 rfl h
      · replace h := tl_in h c5
        obtain ⟨u7, e6, h⟩ := tl_bi h
        obtain ⟨u9, e8, h⟩ := tl_bi h
        refine tl_aload_n dX10_ladGoes_21 rfl (tl_vS1 (l10_step h1 e6) dX10_ladGoes_22 cs_X10_ladGoes_22 ⟨rfl, rfl⟩ ⟨Nat.zero_le _, Nat.zero_le _⟩ (Nat.le_of_ble_eq_true rfl) (tl_aload_n dX10_ladGoes_25 rfl (tl_vS1 (l10_handleAll h1 e8) dX10_ladGoes_26 cs_X10_ladGoes_26 ⟨rfl, rfl⟩ ⟨Nat.zero_le _, Nat.zero_le _⟩ (Nat.le_of_ble_eq_true rfl) (tl_iincK dX10_ladGoes_29 rfl (ii_1 _) (Nat.le_of_ble_eq_true rfl) (fun x10 e => ?_)))))
        have h := tl_leteq e h
        clear e
        refine tl_goto (tgt := 6) dX10_ladGoes_32 (by decide) (?_)
        exact ih _ _ _  h1 h

theorem l10_ladGoes {E : tl_E} {a1 : Nat}  {u : tl_S} {v : tl_S} (h1 : tl_T E.2.1 a1 = some 13) (h : f10_ladGoes a1 u = some v) : tl_MB E mX10_ladGoes [.ref a1] u (fun q w => q = none ∧ w = v) := by
  unfold f10_ladGoes at h
  refine tl_start [some (.ref a1), none] rfl rfl rfl (Nat.le_of_ble_eq_true rfl) ?_
  obtain ⟨u4, e3, h⟩ := tl_bi h
  refine tl_aload_n dX10_ladGoes_0 rfl (tl_vS1 (l10_handleAll h1 e3) dX10_ladGoes_1 cs_X10_ladGoes_1 ⟨rfl, rfl⟩ ⟨Nat.zero_le _, Nat.zero_le _⟩ (Nat.le_of_ble_eq_true rfl) (tl_iconst (v := 0) dX10_ladGoes_4 ic_0 (tl_istore_n dX10_ladGoes_5 (Nat.le_of_ble_eq_true rfl) (?_))))
  exact l10_ladGoes_p6 tl_F _ _ _  h1 h

theorem cs_X10_mine_3 : tl_cS mX10_mine mX10_ofMiner 99 3 := ⟨cd_X10_ofMiner, ml_X10_99, sm_X10_ofMiner, in_X10, ⟨by decide, by decide, by decide +kernel⟩, Nat.le_of_ble_eq_true rfl, Nat.le_of_ble_eq_true rfl⟩
theorem cs_X10_mine_28 : tl_cS mX10_mine mX10_isLit 102 3 := ⟨cd_X10_isLit, ml_X10_102, sm_X10_isLit, in_X10, ⟨by decide, by decide, by decide +kernel⟩, Nat.le_of_ble_eq_true rfl, Nat.le_of_ble_eq_true rfl⟩
theorem cs_X10_mine_71 : tl_cS mX10_mine mX10_ofMiner 99 3 := ⟨cd_X10_ofMiner, ml_X10_99, sm_X10_ofMiner, in_X10, ⟨by decide, by decide, by decide +kernel⟩, Nat.le_of_ble_eq_true rfl, Nat.le_of_ble_eq_true rfl⟩
theorem cs_X10_mine_85 : tl_cS mX10_mine mX10_ofMiner 99 3 := ⟨cd_X10_ofMiner, ml_X10_99, sm_X10_ofMiner, in_X10, ⟨by decide, by decide, by decide +kernel⟩, Nat.le_of_ble_eq_true rfl, Nat.le_of_ble_eq_true rfl⟩
theorem cs_X10_mine_107 : tl_cS mX10_mine mX10_hard 106 2 := ⟨cd_X10_hard, ml_X10_106, sm_X10_hard, in_X10, ⟨by decide, by decide, by decide +kernel⟩, Nat.le_of_ble_eq_true rfl, Nat.le_of_ble_eq_true rfl⟩
theorem cs_X10_mine_123 : tl_cS mX10_mine mX10_hard 106 2 := ⟨cd_X10_hard, ml_X10_106, sm_X10_hard, in_X10, ⟨by decide, by decide, by decide +kernel⟩, Nat.le_of_ble_eq_true rfl, Nat.le_of_ble_eq_true rfl⟩
def f10_mine_p90 : Nat → Nat → Int32 → Int32 → tl_S → Option (tl_S)
  | 0, _, _, _, _ => none
  | fu + 1, a1, x2, x3, u =>
  tl_g (¬ (x3 < 0 ∨ 104 ≤ x3.toNatClampNeg)) ((if 60 ≤ (u.1 a1 x3.toNatClampNeg) then some u else tl_g (¬ ((x3 + 1) < 0 ∨ 104 ≤ (x3 + 1).toNatClampNeg)) (tl_g (¬ (x3 < 0 ∨ 104 ≤ x3.toNatClampNeg)) (tl_b2 (f10_hard x2 (u.1 a1 x3.toNatClampNeg) u) (fun x11 u10 => (if (u.1 a1 (x3 + 1).toNatClampNeg) < x11 then some u10 else tl_g (¬ ((x3 + 1) < 0 ∨ 104 ≤ (x3 + 1).toNatClampNeg)) (tl_g (¬ (x3 < 0 ∨ 104 ≤ x3.toNatClampNeg)) (tl_b2 (f10_hard x2 (u10.1 a1 x3.toNatClampNeg) u10) (fun x17 u16 => tl_g (¬ ((x3 + 1) < 0 ∨ 104 ≤ (x3 + 1).toNatClampNeg)) (tl_let ((tl_u u16.1 a1 ((x3 + 1).toNatClampNeg) ((u10.1 a1 (x3 + 1).toNatClampNeg) - x17), u16.2) : tl_S) (fun u19 => tl_g (¬ (x3 < 0 ∨ 104 ≤ x3.toNatClampNeg)) (tl_g (¬ (x3 < 0 ∨ 104 ≤ x3.toNatClampNeg)) (tl_let ((tl_u u19.1 a1 x3.toNatClampNeg ((u19.1 a1 x3.toNatClampNeg) + 1), u19.2) : tl_S) (fun u22 => tl_let ((tl_u u22.1 a1 10 ((u22.1 a1 10) + 1), u22.2) : tl_S) (fun u23 => f10_mine_p90 fu a1 x2 x3 u23)))))))))))))))

def f10_mine (a1 : Nat) (x2 : Int32) (u : tl_S) : Option (tl_S) :=
  tl_b2 (f10_ofMiner a1 x2 0 u) (fun x6 u5 => tl_let ((18 + (2 * x6))) (fun x7 => tl_g (¬ (x7 < 0 ∨ 104 ≤ x7.toNatClampNeg)) ((if (u5.1 a1 x7.toNatClampNeg) = 60 then some u5 else tl_g (¬ (x7 < 0 ∨ 104 ≤ x7.toNatClampNeg)) (tl_b2 (f10_isLit a1 x6 (u5.1 a1 x7.toNatClampNeg) u5) (fun x13 u12 => (if x13 = 0 then tl_g (¬ (((24 + (4 * x2)) + 3) < 0 ∨ 104 ≤ ((24 + (4 * x2)) + 3).toNatClampNeg)) (tl_g (¬ (((24 + (4 * x2)) + 3) < 0 ∨ 104 ≤ ((24 + (4 * x2)) + 3).toNatClampNeg)) (tl_let ((tl_u u12.1 a1 (((24 + (4 * x2)) + 3).toNatClampNeg) ((u12.1 a1 ((24 + (4 * x2)) + 3).toNatClampNeg) + 1), u12.2) : tl_S) (fun u17 => tl_let ((tl_u u17.1 a1 9 ((u17.1 a1 9) + 1), u17.2) : tl_S) (fun u18 => some u18)))) else tl_g (¬ (((24 + (4 * x2)) + 2) < 0 ∨ 104 ≤ ((24 + (4 * x2)) + 2).toNatClampNeg)) (tl_b2 (f10_ofMiner a1 x2 1 u12) (fun x18 u17 => tl_g (¬ (((24 + (4 * x2)) + 2) < 0 ∨ 104 ≤ ((24 + (4 * x2)) + 2).toNatClampNeg)) (tl_let ((tl_u u17.1 a1 (((24 + (4 * x2)) + 2).toNatClampNeg) ((u12.1 a1 ((24 + (4 * x2)) + 2).toNatClampNeg) + x18), u17.2) : tl_S) (fun u20 => tl_g (¬ ((x7 + 1) < 0 ∨ 104 ≤ (x7 + 1).toNatClampNeg)) (tl_b2 (f10_ofMiner a1 x2 1 u20) (fun x24 u23 => tl_g (¬ ((x7 + 1) < 0 ∨ 104 ≤ (x7 + 1).toNatClampNeg)) (tl_let ((tl_u u23.1 a1 ((x7 + 1).toNatClampNeg) ((u20.1 a1 (x7 + 1).toNatClampNeg) + x24), u23.2) : tl_S) (fun u26 => f10_mine_p90 tl_F a1 x6 x7 u26)))))))))))))))

theorem l10_mine_p90 {E : tl_E}  {v : tl_S} : ∀ (n : Nat) (a1 : Nat) (x2 : Int32) (x3 : Int32) (u : tl_S) (d1 : Option Value), tl_T E.2.1 a1 = some 13 → f10_mine_p90 n a1 x2 x3 u = some v → tl_R E mX10_mine tl_X0 (tl_ZB E mX10_mine (fun q w => q = none ∧ w = v)) 0 0 (tl_HB E u) 90 [some (.ref a1), d1, some (.int x2), some (.int x3)] [] := by
  intro n
  induction n with
  | zero => intro a1 x2 x3 u d1 h1 h; exact absurd h (by simp [f10_mine_p90])
  | succ n ih =>
    intro a1 x2 x3 u d1 h1 h
    rw [f10_mine_p90] at h
    obtain ⟨g5, h⟩ := tl_gi h
    refine tl_aload_n dX10_mine_90 rfl (tl_iload_n dX10_mine_91 rfl (tl_iald (j := x3.toNatClampNeg) (fun _ _ => rfl) dX10_mine_92 h1 g5 rfl (tl_bipush (v := 60) dX10_mine_93 bp_60 (tl_icmp_ge (tgt := 146) dX10_mine_95 (by decide) (fun c6 => ?_) (fun c6 => ?_)))))
    · replace h := tl_ip h c6
      exact tl_vretE dX10_mine_146 rfl h
    · replace h := tl_in h c6
      obtain ⟨g7, h⟩ := tl_gi h
      obtain ⟨g8, h⟩ := tl_gi h
      obtain ⟨x11, u10, e9, h⟩ := tl_b2i h
      refine tl_aload_n dX10_mine_98 rfl (tl_iload_n dX10_mine_99 rfl (tl_iconst (v := 1) dX10_mine_100 ic_1 (tl_iadd dX10_mine_101 (tl_iald (j := (x3 + 1).toNatClampNeg) (fun _ _ => rfl) dX10_mine_102 h1 g7 rfl (tl_iload_n dX10_mine_103 rfl (tl_aload_n dX10_mine_104 rfl (tl_iload_n dX10_mine_105 rfl (tl_iald (j := x3.toNatClampNeg) (fun _ _ => rfl) dX10_mine_106 h1 g8 rfl (tl_iS2 (l10_hard  e9) dX10_mine_107 cs_X10_mine_107 ⟨rfl, rfl⟩ ⟨Nat.zero_le _, Nat.zero_le _⟩ (Nat.le_of_ble_eq_true rfl) (tl_icmp_lt (tgt := 146) dX10_mine_110 (by decide) (fun c12 => ?_) (fun c12 => ?_)))))))))))
      · replace h := tl_ip h c12
        exact tl_vretE dX10_mine_146 rfl h
      · replace h := tl_in h c12
        obtain ⟨g13, h⟩ := tl_gi h
        obtain ⟨g14, h⟩ := tl_gi h
        obtain ⟨x17, u16, e15, h⟩ := tl_b2i h
        obtain ⟨g18, h⟩ := tl_gi h
        refine tl_aload_n dX10_mine_113 rfl (tl_iload_n dX10_mine_114 rfl (tl_iconst (v := 1) dX10_mine_115 ic_1 (tl_iadd dX10_mine_116 (tl_dup2 dX10_mine_117 rfl rfl (tl_iald (j := (x3 + 1).toNatClampNeg) (fun _ _ => rfl) dX10_mine_118 h1 g13 rfl (tl_iload_n dX10_mine_119 rfl (tl_aload_n dX10_mine_120 rfl (tl_iload_n dX10_mine_121 rfl (tl_iald (j := x3.toNatClampNeg) (fun _ _ => rfl) dX10_mine_122 h1 g14 rfl (tl_iS2 (l10_hard  e15) dX10_mine_123 cs_X10_mine_123 ⟨rfl, rfl⟩ ⟨Nat.zero_le _, Nat.zero_le _⟩ (Nat.le_of_ble_eq_true rfl) (tl_isub dX10_mine_126 (tl_iastK (fun _ _ => rfl) dX10_mine_127 h1 ((x3 + 1).toNatClampNeg) g18 rfl (fun u19 e => ?_)))))))))))))
        have h := tl_leteq e h
        clear e
        obtain ⟨g20, h⟩ := tl_gi h
        obtain ⟨g21, h⟩ := tl_gi h
        refine tl_aload_n dX10_mine_128 rfl (tl_iload_n dX10_mine_129 rfl (tl_dup2 dX10_mine_130 rfl rfl (tl_iald (j := x3.toNatClampNeg) (fun _ _ => rfl) dX10_mine_131 h1 g20 rfl (tl_iconst (v := 1) dX10_mine_132 ic_1 (tl_iadd dX10_mine_133 (tl_iastK (fun _ _ => rfl) dX10_mine_134 h1 (x3.toNatClampNeg) g21 rfl (fun u22 e => ?_)))))))
        have h := tl_leteq e h
        clear e
        refine tl_aload_n dX10_mine_135 rfl (tl_bipush (v := 10) dX10_mine_136 bp_10 (tl_dup2 dX10_mine_138 rfl rfl (tl_iald (j := 10) (fun _ _ => rfl) dX10_mine_139 h1 (li_10 104 rfl) lx_10 (tl_iconst (v := 1) dX10_mine_140 ic_1 (tl_iadd dX10_mine_141 (tl_iastK (fun _ _ => rfl) dX10_mine_142 h1 (10) (li_10 104 rfl) lx_10 (fun u23 e => ?_)))))))
        have h := tl_leteq e h
        clear e
        refine tl_goto (tgt := 90) dX10_mine_143 (by decide) (?_)
        exact ih _ _ _ _ _ h1 h

theorem l10_mine {E : tl_E} {a1 : Nat} {x2 : Int32}  {u : tl_S} {v : tl_S} (h1 : tl_T E.2.1 a1 = some 13) (h : f10_mine a1 x2 u = some v) : tl_MB E mX10_mine [.ref a1, .int x2] u (fun q w => q = none ∧ w = v) := by
  unfold f10_mine at h
  refine tl_start [some (.ref a1), some (.int x2), none, none] rfl rfl rfl (Nat.le_of_ble_eq_true rfl) ?_
  obtain ⟨x6, u5, e4, h⟩ := tl_b2i h
  refine tl_aload_n dX10_mine_0 rfl (tl_iload_n dX10_mine_1 rfl (tl_iconst (v := 0) dX10_mine_2 ic_0 (tl_iS3 (l10_ofMiner h1 e4) dX10_mine_3 cs_X10_mine_3 ⟨rfl, rfl⟩ ⟨Nat.zero_le _, Nat.zero_le _⟩ (Nat.le_of_ble_eq_true rfl) (tl_istore_n dX10_mine_6 (Nat.le_of_ble_eq_true rfl) (tl_bipush (v := 18) dX10_mine_7 bp_18 (tl_iconst (v := 2) dX10_mine_9 ic_2 (tl_iload_n dX10_mine_10 rfl (tl_imul dX10_mine_11 (tl_iadd dX10_mine_12 (tl_isto_n dX10_mine_13 (Nat.le_of_ble_eq_true rfl) (fun x7 e => ?_)))))))))))
  have h := tl_leteq e h
  clear e
  obtain ⟨g8, h⟩ := tl_gi h
  refine tl_aload_n dX10_mine_14 rfl (tl_iload_n dX10_mine_15 rfl (tl_iald (j := x7.toNatClampNeg) (fun _ _ => rfl) dX10_mine_16 h1 g8 rfl (tl_bipush (v := 60) dX10_mine_17 bp_60 (tl_icmp_ne (tgt := 23) dX10_mine_19 (by decide) (fun c9 => ?_) (fun c9 => ?_)))))
  · replace h := tl_in h c9
    obtain ⟨g10, h⟩ := tl_gi h
    obtain ⟨x13, u12, e11, h⟩ := tl_b2i h
    refine tl_aload_n dX10_mine_23 rfl (tl_iload_n dX10_mine_24 rfl (tl_aload_n dX10_mine_25 rfl (tl_iload_n dX10_mine_26 rfl (tl_iald (j := x7.toNatClampNeg) (fun _ _ => rfl) dX10_mine_27 h1 g10 rfl (tl_iS3 (l10_isLit h1 e11) dX10_mine_28 cs_X10_mine_28 ⟨rfl, rfl⟩ ⟨Nat.zero_le _, Nat.zero_le _⟩ (Nat.le_of_ble_eq_true rfl) (tl_if_ne (tgt := 57) dX10_mine_31 (by decide) (fun c14 => ?_) (fun c14 => ?_)))))))
    · replace h := tl_in h c14
      obtain ⟨g15, h⟩ := tl_gi h
      obtain ⟨x18, u17, e16, h⟩ := tl_b2i h
      obtain ⟨g19, h⟩ := tl_gi h
      refine tl_aload_n dX10_mine_57 rfl (tl_bipush (v := 24) dX10_mine_58 bp_24 (tl_iconst (v := 4) dX10_mine_60 ic_4 (tl_iload_n dX10_mine_61 rfl (tl_imul dX10_mine_62 (tl_iadd dX10_mine_63 (tl_iconst (v := 2) dX10_mine_64 ic_2 (tl_iadd dX10_mine_65 (tl_dup2 dX10_mine_66 rfl rfl (tl_iald (j := ((24 + (4 * x2)) + 2).toNatClampNeg) (fun _ _ => rfl) dX10_mine_67 h1 g15 rfl (tl_aload_n dX10_mine_68 rfl (tl_iload_n dX10_mine_69 rfl (tl_iconst (v := 1) dX10_mine_70 ic_1 (tl_iS3 (l10_ofMiner h1 e16) dX10_mine_71 cs_X10_mine_71 ⟨rfl, rfl⟩ ⟨Nat.zero_le _, Nat.zero_le _⟩ (Nat.le_of_ble_eq_true rfl) (tl_iadd dX10_mine_74 (tl_iastK (fun _ _ => rfl) dX10_mine_75 h1 (((24 + (4 * x2)) + 2).toNatClampNeg) g19 rfl (fun u20 e => ?_))))))))))))))))
      have h := tl_leteq e h
      clear e
      obtain ⟨g21, h⟩ := tl_gi h
      obtain ⟨x24, u23, e22, h⟩ := tl_b2i h
      obtain ⟨g25, h⟩ := tl_gi h
      refine tl_aload_n dX10_mine_76 rfl (tl_iload_n dX10_mine_77 rfl (tl_iconst (v := 1) dX10_mine_78 ic_1 (tl_iadd dX10_mine_79 (tl_dup2 dX10_mine_80 rfl rfl (tl_iald (j := (x7 + 1).toNatClampNeg) (fun _ _ => rfl) dX10_mine_81 h1 g21 rfl (tl_aload_n dX10_mine_82 rfl (tl_iload_n dX10_mine_83 rfl (tl_iconst (v := 1) dX10_mine_84 ic_1 (tl_iS3 (l10_ofMiner h1 e22) dX10_mine_85 cs_X10_mine_85 ⟨rfl, rfl⟩ ⟨Nat.zero_le _, Nat.zero_le _⟩ (Nat.le_of_ble_eq_true rfl) (tl_iadd dX10_mine_88 (tl_iastK (fun _ _ => rfl) dX10_mine_89 h1 ((x7 + 1).toNatClampNeg) g25 rfl (fun u26 e => ?_))))))))))))
      have h := tl_leteq e h
      clear e
      exact l10_mine_p90 tl_F _ _ _ _ _ h1 h
    · replace h := tl_ip h c14
      obtain ⟨g15, h⟩ := tl_gi h
      obtain ⟨g16, h⟩ := tl_gi h
      refine tl_aload_n dX10_mine_34 rfl (tl_bipush (v := 24) dX10_mine_35 bp_24 (tl_iconst (v := 4) dX10_mine_37 ic_4 (tl_iload_n dX10_mine_38 rfl (tl_imul dX10_mine_39 (tl_iadd dX10_mine_40 (tl_iconst (v := 3) dX10_mine_41 ic_3 (tl_iadd dX10_mine_42 (tl_dup2 dX10_mine_43 rfl rfl (tl_iald (j := ((24 + (4 * x2)) + 3).toNatClampNeg) (fun _ _ => rfl) dX10_mine_44 h1 g15 rfl (tl_iconst (v := 1) dX10_mine_45 ic_1 (tl_iadd dX10_mine_46 (tl_iastK (fun _ _ => rfl) dX10_mine_47 h1 (((24 + (4 * x2)) + 3).toNatClampNeg) g16 rfl (fun u17 e => ?_)))))))))))))
      have h := tl_leteq e h
      clear e
      refine tl_aload_n dX10_mine_48 rfl (tl_bipush (v := 9) dX10_mine_49 bp_9 (tl_dup2 dX10_mine_51 rfl rfl (tl_iald (j := 9) (fun _ _ => rfl) dX10_mine_52 h1 (li_9 104 rfl) lx_9 (tl_iconst (v := 1) dX10_mine_53 ic_1 (tl_iadd dX10_mine_54 (tl_iastK (fun _ _ => rfl) dX10_mine_55 h1 (9) (li_9 104 rfl) lx_9 (fun u18 e => ?_)))))))
      have h := tl_leteq e h
      clear e
      exact tl_vretE dX10_mine_56 rfl h
  · replace h := tl_ip h c9
    exact tl_vretE dX10_mine_22 rfl h

theorem cs_X10_burn_12 : tl_cS mX10_burn mX10_ofLamp 51 3 := ⟨cd_X10_ofLamp, ml_X10_51, sm_X10_ofLamp, in_X10, ⟨by decide, by decide, by decide +kernel⟩, Nat.le_of_ble_eq_true rfl, Nat.le_of_ble_eq_true rfl⟩
def f10_burn_p2 : Nat → Nat → Int32 → tl_S → Option (tl_S)
  | 0, _, _, _ => none
  | fu + 1, a1, x2, u =>
  (if (u.1 a1 2) ≤ x2 then some u else tl_b2 (f10_ofLamp a1 x2 1 u) (fun x7 u6 => (if x7 ≤ 0 then tl_let (x2 + 1) (fun x9 => f10_burn_p2 fu a1 x9 u6) else tl_g (¬ (((48 + (4 * x2)) + 1) < 0 ∨ 104 ≤ ((48 + (4 * x2)) + 1).toNatClampNeg)) (tl_g (¬ (((48 + (4 * x2)) + 1) < 0 ∨ 104 ≤ ((48 + (4 * x2)) + 1).toNatClampNeg)) (tl_let ((tl_u u6.1 a1 (((48 + (4 * x2)) + 1).toNatClampNeg) ((u6.1 a1 ((48 + (4 * x2)) + 1).toNatClampNeg) - 1), u6.2) : tl_S) (fun u11 => tl_let ((tl_u u11.1 a1 5 ((u11.1 a1 5) + 1), u11.2) : tl_S) (fun u12 => tl_let (x2 + 1) (fun x13 => f10_burn_p2 fu a1 x13 u12))))))))

def f10_burn (a1 : Nat) (u : tl_S) : Option (tl_S) :=
  f10_burn_p2 tl_F a1 0 u

theorem l10_burn_p2 {E : tl_E}  {v : tl_S} : ∀ (n : Nat) (a1 : Nat) (x2 : Int32) (u : tl_S) , tl_T E.2.1 a1 = some 13 → f10_burn_p2 n a1 x2 u = some v → tl_R E mX10_burn tl_X0 (tl_ZB E mX10_burn (fun q w => q = none ∧ w = v)) 0 0 (tl_HB E u) 2 [some (.ref a1), some (.int x2)] [] := by
  intro n
  induction n with
  | zero => intro a1 x2 u  h1 h; exact absurd h (by simp [f10_burn_p2])
  | succ n ih =>
    intro a1 x2 u  h1 h
    rw [f10_burn_p2] at h
    refine tl_iload_n dX10_burn_2 rfl (tl_aload_n dX10_burn_3 rfl (tl_iconst (v := 2) dX10_burn_4 ic_2 (tl_iald (j := 2) (fun _ _ => rfl) dX10_burn_5 h1 (li_2 104 rfl) lx_2 (tl_icmp_ge (tgt := 45) dX10_burn_6 (by decide) (fun c4 => ?_) (fun c4 => ?_)))))
    · replace h := tl_ip h c4
      exact tl_vretE dX10_burn_45 rfl h
    · replace h := tl_in h c4
      obtain ⟨x7, u6, e5, h⟩ := tl_b2i h
      refine tl_aload_n dX10_burn_9 rfl (tl_iload_n dX10_burn_10 rfl (tl_iconst (v := 1) dX10_burn_11 ic_1 (tl_iS3 (l10_ofLamp h1 e5) dX10_burn_12 cs_X10_burn_12 ⟨rfl, rfl⟩ ⟨Nat.zero_le _, Nat.zero_le _⟩ (Nat.le_of_ble_eq_true rfl) (tl_if_le (tgt := 39) dX10_burn_15 (by decide) (fun c8 => ?_) (fun c8 => ?_)))))
      · replace h := tl_ip h c8
        refine tl_iincK dX10_burn_39 rfl (ii_1 _) (Nat.le_of_ble_eq_true rfl) (fun x9 e => ?_)
        have h := tl_leteq e h
        clear e
        refine tl_goto (tgt := 2) dX10_burn_42 (by decide) (?_)
        exact ih _ _ _  h1 h
      · replace h := tl_in h c8
        obtain ⟨g9, h⟩ := tl_gi h
        obtain ⟨g10, h⟩ := tl_gi h
        refine tl_aload_n dX10_burn_18 rfl (tl_bipush (v := 48) dX10_burn_19 bp_48 (tl_iconst (v := 4) dX10_burn_21 ic_4 (tl_iload_n dX10_burn_22 rfl (tl_imul dX10_burn_23 (tl_iadd dX10_burn_24 (tl_iconst (v := 1) dX10_burn_25 ic_1 (tl_iadd dX10_burn_26 (tl_dup2 dX10_burn_27 rfl rfl (tl_iald (j := ((48 + (4 * x2)) + 1).toNatClampNeg) (fun _ _ => rfl) dX10_burn_28 h1 g9 rfl (tl_iconst (v := 1) dX10_burn_29 ic_1 (tl_isub dX10_burn_30 (tl_iastK (fun _ _ => rfl) dX10_burn_31 h1 (((48 + (4 * x2)) + 1).toNatClampNeg) g10 rfl (fun u11 e => ?_)))))))))))))
        have h := tl_leteq e h
        clear e
        refine tl_aload_n dX10_burn_32 rfl (tl_iconst (v := 5) dX10_burn_33 ic_5 (tl_dup2 dX10_burn_34 rfl rfl (tl_iald (j := 5) (fun _ _ => rfl) dX10_burn_35 h1 (li_5 104 rfl) lx_5 (tl_iconst (v := 1) dX10_burn_36 ic_1 (tl_iadd dX10_burn_37 (tl_iastK (fun _ _ => rfl) dX10_burn_38 h1 (5) (li_5 104 rfl) lx_5 (fun u12 e => ?_)))))))
        have h := tl_leteq e h
        clear e
        refine tl_iincK dX10_burn_39 rfl (ii_1 _) (Nat.le_of_ble_eq_true rfl) (fun x13 e => ?_)
        have h := tl_leteq e h
        clear e
        refine tl_goto (tgt := 2) dX10_burn_42 (by decide) (?_)
        exact ih _ _ _  h1 h

theorem l10_burn {E : tl_E} {a1 : Nat}  {u : tl_S} {v : tl_S} (h1 : tl_T E.2.1 a1 = some 13) (h : f10_burn a1 u = some v) : tl_MB E mX10_burn [.ref a1] u (fun q w => q = none ∧ w = v) := by
  unfold f10_burn at h
  refine tl_start [some (.ref a1), none] rfl rfl rfl (Nat.le_of_ble_eq_true rfl) ?_
  refine tl_iconst (v := 0) dX10_burn_0 ic_0 (tl_istore_n dX10_burn_1 (Nat.le_of_ble_eq_true rfl) (?_))
  exact l10_burn_p2 tl_F _ _ _  h1 h

theorem cs_X10_forward_14 : tl_cS mX10_forward mX10_ofLamp 51 3 := ⟨cd_X10_ofLamp, ml_X10_51, sm_X10_ofLamp, in_X10, ⟨by decide, by decide, by decide +kernel⟩, Nat.le_of_ble_eq_true rfl, Nat.le_of_ble_eq_true rfl⟩
theorem cs_X10_forward_66 : tl_cS mX10_forward mX10_ofLamp 51 3 := ⟨cd_X10_ofLamp, ml_X10_51, sm_X10_ofLamp, in_X10, ⟨by decide, by decide, by decide +kernel⟩, Nat.le_of_ble_eq_true rfl, Nat.le_of_ble_eq_true rfl⟩
theorem cs_X10_forward_72 : tl_cS mX10_forward mX10_ofLamp 51 3 := ⟨cd_X10_ofLamp, ml_X10_51, sm_X10_ofLamp, in_X10, ⟨by decide, by decide, by decide +kernel⟩, Nat.le_of_ble_eq_true rfl, Nat.le_of_ble_eq_true rfl⟩
theorem cs_X10_forward_24 : tl_cS mX10_forward mX10_ofLamp 51 3 := ⟨cd_X10_ofLamp, ml_X10_51, sm_X10_ofLamp, in_X10, ⟨by decide, by decide, by decide +kernel⟩, Nat.le_of_ble_eq_true rfl, Nat.le_of_ble_eq_true rfl⟩
theorem cs_X10_forward_33 : tl_cS mX10_forward mX10_ofLamp 51 3 := ⟨cd_X10_ofLamp, ml_X10_51, sm_X10_ofLamp, in_X10, ⟨by decide, by decide, by decide +kernel⟩, Nat.le_of_ble_eq_true rfl, Nat.le_of_ble_eq_true rfl⟩
theorem cs_X10_forward_38 : tl_cS mX10_forward mX10_depth 45 2 := ⟨cd_X10_depth, ml_X10_45, sm_X10_depth, in_X10, ⟨by decide, by decide, by decide +kernel⟩, Nat.le_of_ble_eq_true rfl, Nat.le_of_ble_eq_true rfl⟩
def f10_forward_p4 : Nat → Nat → Int32 → Int32 → Int32 → tl_S → Option (Int32 × tl_S)
  | 0, _, _, _, _, _ => none
  | fu + 1, a1, x2, x3, x4, u =>
  (if (u.1 a1 2) ≤ x4 then some (x3, u) else tl_b2 (f10_ofLamp a1 x4 2 u) (fun x9 u8 => (if x9 = x2 then tl_b2 (f10_ofLamp a1 x4 1 u8) (fun x13 u12 => (if x13 ≤ 0 then (if (0 : Int32) = 0 then tl_let (x4 + 1) (fun x16 => f10_forward_p4 fu a1 x2 x3 x16 u12) else (if x3 = (-1) then tl_let (x4 + 1) (fun x17 => f10_forward_p4 fu a1 x2 x4 x17 u12) else tl_b2 (f10_ofLamp a1 x4 1 u12) (fun x19 u18 => tl_b2 (f10_ofLamp a1 x3 1 u18) (fun x22 u21 => (if x19 ≤ x22 then tl_let (x4 + 1) (fun x24 => f10_forward_p4 fu a1 x2 x3 x24 u21) else tl_let (x4 + 1) (fun x24 => f10_forward_p4 fu a1 x2 x4 x24 u21)))))) else tl_b2 (f10_ofLamp a1 x4 3 u12) (fun x17 u16 => tl_b2 (f10_depth a1 x2 u16) (fun x20 u19 => (if (x20 - 1) ≤ x17 then (if (0 : Int32) = 0 then tl_let (x4 + 1) (fun x23 => f10_forward_p4 fu a1 x2 x3 x23 u19) else (if x3 = (-1) then tl_let (x4 + 1) (fun x24 => f10_forward_p4 fu a1 x2 x4 x24 u19) else tl_b2 (f10_ofLamp a1 x4 1 u19) (fun x26 u25 => tl_b2 (f10_ofLamp a1 x3 1 u25) (fun x29 u28 => (if x26 ≤ x29 then tl_let (x4 + 1) (fun x31 => f10_forward_p4 fu a1 x2 x3 x31 u28) else tl_let (x4 + 1) (fun x31 => f10_forward_p4 fu a1 x2 x4 x31 u28)))))) else (if (1 : Int32) = 0 then tl_let (x4 + 1) (fun x23 => f10_forward_p4 fu a1 x2 x3 x23 u19) else (if x3 = (-1) then tl_let (x4 + 1) (fun x24 => f10_forward_p4 fu a1 x2 x4 x24 u19) else tl_b2 (f10_ofLamp a1 x4 1 u19) (fun x26 u25 => tl_b2 (f10_ofLamp a1 x3 1 u25) (fun x29 u28 => (if x26 ≤ x29 then tl_let (x4 + 1) (fun x31 => f10_forward_p4 fu a1 x2 x3 x31 u28) else tl_let (x4 + 1) (fun x31 => f10_forward_p4 fu a1 x2 x4 x31 u28))))))))))) else (if (0 : Int32) = 0 then tl_let (x4 + 1) (fun x12 => f10_forward_p4 fu a1 x2 x3 x12 u8) else (if x3 = (-1) then tl_let (x4 + 1) (fun x13 => f10_forward_p4 fu a1 x2 x4 x13 u8) else tl_b2 (f10_ofLamp a1 x4 1 u8) (fun x15 u14 => tl_b2 (f10_ofLamp a1 x3 1 u14) (fun x18 u17 => (if x15 ≤ x18 then tl_let (x4 + 1) (fun x20 => f10_forward_p4 fu a1 x2 x3 x20 u17) else tl_let (x4 + 1) (fun x20 => f10_forward_p4 fu a1 x2 x4 x20 u17)))))))))

def f10_forward (a1 : Nat) (x2 : Int32) (u : tl_S) : Option (Int32 × tl_S) :=
  f10_forward_p4 tl_F a1 x2 ((-1)) 0 u

theorem l10_forward_p4 {E : tl_E}  {r : Int32} {v : tl_S} : ∀ (n : Nat) (a1 : Nat) (x2 : Int32) (x3 : Int32) (x4 : Int32) (u : tl_S) (d4 : Option Value), tl_T E.2.1 a1 = some 13 → f10_forward_p4 n a1 x2 x3 x4 u = some (r, v) → tl_R E mX10_forward tl_X0 (tl_ZB E mX10_forward (fun q w => q = some (.int r) ∧ w = v)) 0 0 (tl_HB E u) 4 [some (.ref a1), some (.int x2), some (.int x3), some (.int x4), d4] [] := by
  intro n
  induction n with
  | zero => intro a1 x2 x3 x4 u d4 h1 h; exact absurd h (by simp [f10_forward_p4])
  | succ n ih =>
    intro a1 x2 x3 x4 u d4 h1 h
    rw [f10_forward_p4] at h
    refine tl_iload_n dX10_forward_4 rfl (tl_aload_n dX10_forward_5 rfl (tl_iconst (v := 2) dX10_forward_6 ic_2 (tl_iald (j := 2) (fun _ _ => rfl) dX10_forward_7 h1 (li_2 104 rfl) lx_2 (tl_icmp_ge (tgt := 90) dX10_forward_8 (by decide) (fun c6 => ?_) (fun c6 => ?_)))))
    · replace h := tl_ip h c6
      exact tl_iload_n dX10_forward_90 rfl (tl_iretE dX10_forward_91 rfl rfl h)
    · replace h := tl_in h c6
      obtain ⟨x9, u8, e7, h⟩ := tl_b2i h
      refine tl_aload_n dX10_forward_11 rfl (tl_iload_n dX10_forward_12 rfl (tl_iconst (v := 2) dX10_forward_13 ic_2 (tl_iS3 (l10_ofLamp h1 e7) dX10_forward_14 cs_X10_forward_14 ⟨rfl, rfl⟩ ⟨Nat.zero_le _, Nat.zero_le _⟩ (Nat.le_of_ble_eq_true rfl) (tl_iload_n dX10_forward_17 rfl (tl_icmp_ne (tgt := 50) dX10_forward_18 (by decide) (fun c10 => ?_) (fun c10 => ?_))))))
      · replace h := tl_in h c10
        refine tl_iconst (v := 0) dX10_forward_50 ic_0 (tl_istore dX10_forward_51 (Nat.le_of_ble_eq_true rfl) (tl_iload dX10_forward_53 rfl (tl_if_eq (tgt := 82) dX10_forward_55 (by decide) (fun c11 => ?_) (fun c11 => ?_))))
        · replace h := tl_ip h c11
          refine tl_iload_n dX10_forward_82 rfl (tl_istore_n dX10_forward_83 (Nat.le_of_ble_eq_true rfl) (tl_iincK dX10_forward_84 rfl (ii_1 _) (Nat.le_of_ble_eq_true rfl) (fun x12 e => ?_)))
          have h := tl_leteq e h
          clear e
          refine tl_goto (tgt := 4) dX10_forward_87 (by decide) (?_)
          exact ih _ _ _ _ _ _ h1 h
        · replace h := tl_in h c11
          refine tl_iload_n dX10_forward_58 rfl (tl_iconst (v := (-1)) dX10_forward_59 ic_m1 (tl_icmp_eq (tgt := 78) dX10_forward_60 (by decide) (fun c12 => ?_) (fun c12 => ?_)))
          · replace h := tl_ip h c12
            refine tl_iload_n dX10_forward_78 rfl (tl_goto (tgt := 83) dX10_forward_79 (by decide) (tl_istore_n dX10_forward_83 (Nat.le_of_ble_eq_true rfl) (tl_iincK dX10_forward_84 rfl (ii_1 _) (Nat.le_of_ble_eq_true rfl) (fun x13 e => ?_))))
            have h := tl_leteq e h
            clear e
            refine tl_goto (tgt := 4) dX10_forward_87 (by decide) (?_)
            exact ih _ _ _ _ _ _ h1 h
          · replace h := tl_in h c12
            obtain ⟨x15, u14, e13, h⟩ := tl_b2i h
            obtain ⟨x18, u17, e16, h⟩ := tl_b2i h
            refine tl_aload_n dX10_forward_63 rfl (tl_iload_n dX10_forward_64 rfl (tl_iconst (v := 1) dX10_forward_65 ic_1 (tl_iS3 (l10_ofLamp h1 e13) dX10_forward_66 cs_X10_forward_66 ⟨rfl, rfl⟩ ⟨Nat.zero_le _, Nat.zero_le _⟩ (Nat.le_of_ble_eq_true rfl) (tl_aload_n dX10_forward_69 rfl (tl_iload_n dX10_forward_70 rfl (tl_iconst (v := 1) dX10_forward_71 ic_1 (tl_iS3 (l10_ofLamp h1 e16) dX10_forward_72 cs_X10_forward_72 ⟨rfl, rfl⟩ ⟨Nat.zero_le _, Nat.zero_le _⟩ (Nat.le_of_ble_eq_true rfl) (tl_icmp_le (tgt := 82) dX10_forward_75 (by decide) (fun c19 => ?_) (fun c19 => ?_)))))))))
            · replace h := tl_ip h c19
              refine tl_iload_n dX10_forward_82 rfl (tl_istore_n dX10_forward_83 (Nat.le_of_ble_eq_true rfl) (tl_iincK dX10_forward_84 rfl (ii_1 _) (Nat.le_of_ble_eq_true rfl) (fun x20 e => ?_)))
              have h := tl_leteq e h
              clear e
              refine tl_goto (tgt := 4) dX10_forward_87 (by decide) (?_)
              exact ih _ _ _ _ _ _ h1 h
            · replace h := tl_in h c19
              refine tl_iload_n dX10_forward_78 rfl (tl_goto (tgt := 83) dX10_forward_79 (by decide) (tl_istore_n dX10_forward_83 (Nat.le_of_ble_eq_true rfl) (tl_iincK dX10_forward_84 rfl (ii_1 _) (Nat.le_of_ble_eq_true rfl) (fun x20 e => ?_))))
              have h := tl_leteq e h
              clear e
              refine tl_goto (tgt := 4) dX10_forward_87 (by decide) (?_)
              exact ih _ _ _ _ _ _ h1 h
      · replace h := tl_ip h c10
        obtain ⟨x13, u12, e11, h⟩ := tl_b2i h
        refine tl_aload_n dX10_forward_21 rfl (tl_iload_n dX10_forward_22 rfl (tl_iconst (v := 1) dX10_forward_23 ic_1 (tl_iS3 (l10_ofLamp h1 e11) dX10_forward_24 cs_X10_forward_24 ⟨rfl, rfl⟩ ⟨Nat.zero_le _, Nat.zero_le _⟩ (Nat.le_of_ble_eq_true rfl) (tl_if_le (tgt := 50) dX10_forward_27 (by decide) (fun c14 => ?_) (fun c14 => ?_)))))
        · replace h := tl_ip h c14
          refine tl_iconst (v := 0) dX10_forward_50 ic_0 (tl_istore dX10_forward_51 (Nat.le_of_ble_eq_true rfl) (tl_iload dX10_forward_53 rfl (tl_if_eq (tgt := 82) dX10_forward_55 (by decide) (fun c15 => ?_) (fun c15 => ?_))))
          · replace h := tl_ip h c15
            refine tl_iload_n dX10_forward_82 rfl (tl_istore_n dX10_forward_83 (Nat.le_of_ble_eq_true rfl) (tl_iincK dX10_forward_84 rfl (ii_1 _) (Nat.le_of_ble_eq_true rfl) (fun x16 e => ?_)))
            have h := tl_leteq e h
            clear e
            refine tl_goto (tgt := 4) dX10_forward_87 (by decide) (?_)
            exact ih _ _ _ _ _ _ h1 h
          · replace h := tl_in h c15
            refine tl_iload_n dX10_forward_58 rfl (tl_iconst (v := (-1)) dX10_forward_59 ic_m1 (tl_icmp_eq (tgt := 78) dX10_forward_60 (by decide) (fun c16 => ?_) (fun c16 => ?_)))
            · replace h := tl_ip h c16
              refine tl_iload_n dX10_forward_78 rfl (tl_goto (tgt := 83) dX10_forward_79 (by decide) (tl_istore_n dX10_forward_83 (Nat.le_of_ble_eq_true rfl) (tl_iincK dX10_forward_84 rfl (ii_1 _) (Nat.le_of_ble_eq_true rfl) (fun x17 e => ?_))))
              have h := tl_leteq e h
              clear e
              refine tl_goto (tgt := 4) dX10_forward_87 (by decide) (?_)
              exact ih _ _ _ _ _ _ h1 h
            · replace h := tl_in h c16
              obtain ⟨x19, u18, e17, h⟩ := tl_b2i h
              obtain ⟨x22, u21, e20, h⟩ := tl_b2i h
              refine tl_aload_n dX10_forward_63 rfl (tl_iload_n dX10_forward_64 rfl (tl_iconst (v := 1) dX10_forward_65 ic_1 (tl_iS3 (l10_ofLamp h1 e17) dX10_forward_66 cs_X10_forward_66 ⟨rfl, rfl⟩ ⟨Nat.zero_le _, Nat.zero_le _⟩ (Nat.le_of_ble_eq_true rfl) (tl_aload_n dX10_forward_69 rfl (tl_iload_n dX10_forward_70 rfl (tl_iconst (v := 1) dX10_forward_71 ic_1 (tl_iS3 (l10_ofLamp h1 e20) dX10_forward_72 cs_X10_forward_72 ⟨rfl, rfl⟩ ⟨Nat.zero_le _, Nat.zero_le _⟩ (Nat.le_of_ble_eq_true rfl) (tl_icmp_le (tgt := 82) dX10_forward_75 (by decide) (fun c23 => ?_) (fun c23 => ?_)))))))))
              · replace h := tl_ip h c23
                refine tl_iload_n dX10_forward_82 rfl (tl_istore_n dX10_forward_83 (Nat.le_of_ble_eq_true rfl) (tl_iincK dX10_forward_84 rfl (ii_1 _) (Nat.le_of_ble_eq_true rfl) (fun x24 e => ?_)))
                have h := tl_leteq e h
                clear e
                refine tl_goto (tgt := 4) dX10_forward_87 (by decide) (?_)
                exact ih _ _ _ _ _ _ h1 h
              · replace h := tl_in h c23
                refine tl_iload_n dX10_forward_78 rfl (tl_goto (tgt := 83) dX10_forward_79 (by decide) (tl_istore_n dX10_forward_83 (Nat.le_of_ble_eq_true rfl) (tl_iincK dX10_forward_84 rfl (ii_1 _) (Nat.le_of_ble_eq_true rfl) (fun x24 e => ?_))))
                have h := tl_leteq e h
                clear e
                refine tl_goto (tgt := 4) dX10_forward_87 (by decide) (?_)
                exact ih _ _ _ _ _ _ h1 h
        · replace h := tl_in h c14
          obtain ⟨x17, u16, e15, h⟩ := tl_b2i h
          obtain ⟨x20, u19, e18, h⟩ := tl_b2i h
          refine tl_aload_n dX10_forward_30 rfl (tl_iload_n dX10_forward_31 rfl (tl_iconst (v := 3) dX10_forward_32 ic_3 (tl_iS3 (l10_ofLamp h1 e15) dX10_forward_33 cs_X10_forward_33 ⟨rfl, rfl⟩ ⟨Nat.zero_le _, Nat.zero_le _⟩ (Nat.le_of_ble_eq_true rfl) (tl_aload_n dX10_forward_36 rfl (tl_iload_n dX10_forward_37 rfl (tl_iS2 (l10_depth h1 e18) dX10_forward_38 cs_X10_forward_38 ⟨rfl, rfl⟩ ⟨Nat.zero_le _, Nat.zero_le _⟩ (Nat.le_of_ble_eq_true rfl) (tl_iconst (v := 1) dX10_forward_41 ic_1 (tl_isub dX10_forward_42 (tl_icmp_ge (tgt := 50) dX10_forward_43 (by decide) (fun c21 => ?_) (fun c21 => ?_))))))))))
          · replace h := tl_ip h c21
            refine tl_iconst (v := 0) dX10_forward_50 ic_0 (tl_istore dX10_forward_51 (Nat.le_of_ble_eq_true rfl) (tl_iload dX10_forward_53 rfl (tl_if_eq (tgt := 82) dX10_forward_55 (by decide) (fun c22 => ?_) (fun c22 => ?_))))
            · replace h := tl_ip h c22
              refine tl_iload_n dX10_forward_82 rfl (tl_istore_n dX10_forward_83 (Nat.le_of_ble_eq_true rfl) (tl_iincK dX10_forward_84 rfl (ii_1 _) (Nat.le_of_ble_eq_true rfl) (fun x23 e => ?_)))
              have h := tl_leteq e h
              clear e
              refine tl_goto (tgt := 4) dX10_forward_87 (by decide) (?_)
              exact ih _ _ _ _ _ _ h1 h
            · replace h := tl_in h c22
              refine tl_iload_n dX10_forward_58 rfl (tl_iconst (v := (-1)) dX10_forward_59 ic_m1 (tl_icmp_eq (tgt := 78) dX10_forward_60 (by decide) (fun c23 => ?_) (fun c23 => ?_)))
              · replace h := tl_ip h c23
                refine tl_iload_n dX10_forward_78 rfl (tl_goto (tgt := 83) dX10_forward_79 (by decide) (tl_istore_n dX10_forward_83 (Nat.le_of_ble_eq_true rfl) (tl_iincK dX10_forward_84 rfl (ii_1 _) (Nat.le_of_ble_eq_true rfl) (fun x24 e => ?_))))
                have h := tl_leteq e h
                clear e
                refine tl_goto (tgt := 4) dX10_forward_87 (by decide) (?_)
                exact ih _ _ _ _ _ _ h1 h
              · replace h := tl_in h c23
                obtain ⟨x26, u25, e24, h⟩ := tl_b2i h
                obtain ⟨x29, u28, e27, h⟩ := tl_b2i h
                refine tl_aload_n dX10_forward_63 rfl (tl_iload_n dX10_forward_64 rfl (tl_iconst (v := 1) dX10_forward_65 ic_1 (tl_iS3 (l10_ofLamp h1 e24) dX10_forward_66 cs_X10_forward_66 ⟨rfl, rfl⟩ ⟨Nat.zero_le _, Nat.zero_le _⟩ (Nat.le_of_ble_eq_true rfl) (tl_aload_n dX10_forward_69 rfl (tl_iload_n dX10_forward_70 rfl (tl_iconst (v := 1) dX10_forward_71 ic_1 (tl_iS3 (l10_ofLamp h1 e27) dX10_forward_72 cs_X10_forward_72 ⟨rfl, rfl⟩ ⟨Nat.zero_le _, Nat.zero_le _⟩ (Nat.le_of_ble_eq_true rfl) (tl_icmp_le (tgt := 82) dX10_forward_75 (by decide) (fun c30 => ?_) (fun c30 => ?_)))))))))
                · replace h := tl_ip h c30
                  refine tl_iload_n dX10_forward_82 rfl (tl_istore_n dX10_forward_83 (Nat.le_of_ble_eq_true rfl) (tl_iincK dX10_forward_84 rfl (ii_1 _) (Nat.le_of_ble_eq_true rfl) (fun x31 e => ?_)))
                  have h := tl_leteq e h
                  clear e
                  refine tl_goto (tgt := 4) dX10_forward_87 (by decide) (?_)
                  exact ih _ _ _ _ _ _ h1 h
                · replace h := tl_in h c30
                  refine tl_iload_n dX10_forward_78 rfl (tl_goto (tgt := 83) dX10_forward_79 (by decide) (tl_istore_n dX10_forward_83 (Nat.le_of_ble_eq_true rfl) (tl_iincK dX10_forward_84 rfl (ii_1 _) (Nat.le_of_ble_eq_true rfl) (fun x31 e => ?_))))
                  have h := tl_leteq e h
                  clear e
                  refine tl_goto (tgt := 4) dX10_forward_87 (by decide) (?_)
                  exact ih _ _ _ _ _ _ h1 h
          · replace h := tl_in h c21
            refine tl_iconst (v := 1) dX10_forward_46 ic_1 (tl_goto (tgt := 51) dX10_forward_47 (by decide) (tl_istore dX10_forward_51 (Nat.le_of_ble_eq_true rfl) (tl_iload dX10_forward_53 rfl (tl_if_eq (tgt := 82) dX10_forward_55 (by decide) (fun c22 => ?_) (fun c22 => ?_)))))
            · replace h := tl_ip h c22
              refine tl_iload_n dX10_forward_82 rfl (tl_istore_n dX10_forward_83 (Nat.le_of_ble_eq_true rfl) (tl_iincK dX10_forward_84 rfl (ii_1 _) (Nat.le_of_ble_eq_true rfl) (fun x23 e => ?_)))
              have h := tl_leteq e h
              clear e
              refine tl_goto (tgt := 4) dX10_forward_87 (by decide) (?_)
              exact ih _ _ _ _ _ _ h1 h
            · replace h := tl_in h c22
              refine tl_iload_n dX10_forward_58 rfl (tl_iconst (v := (-1)) dX10_forward_59 ic_m1 (tl_icmp_eq (tgt := 78) dX10_forward_60 (by decide) (fun c23 => ?_) (fun c23 => ?_)))
              · replace h := tl_ip h c23
                refine tl_iload_n dX10_forward_78 rfl (tl_goto (tgt := 83) dX10_forward_79 (by decide) (tl_istore_n dX10_forward_83 (Nat.le_of_ble_eq_true rfl) (tl_iincK dX10_forward_84 rfl (ii_1 _) (Nat.le_of_ble_eq_true rfl) (fun x24 e => ?_))))
                have h := tl_leteq e h
                clear e
                refine tl_goto (tgt := 4) dX10_forward_87 (by decide) (?_)
                exact ih _ _ _ _ _ _ h1 h
              · replace h := tl_in h c23
                obtain ⟨x26, u25, e24, h⟩ := tl_b2i h
                obtain ⟨x29, u28, e27, h⟩ := tl_b2i h
                refine tl_aload_n dX10_forward_63 rfl (tl_iload_n dX10_forward_64 rfl (tl_iconst (v := 1) dX10_forward_65 ic_1 (tl_iS3 (l10_ofLamp h1 e24) dX10_forward_66 cs_X10_forward_66 ⟨rfl, rfl⟩ ⟨Nat.zero_le _, Nat.zero_le _⟩ (Nat.le_of_ble_eq_true rfl) (tl_aload_n dX10_forward_69 rfl (tl_iload_n dX10_forward_70 rfl (tl_iconst (v := 1) dX10_forward_71 ic_1 (tl_iS3 (l10_ofLamp h1 e27) dX10_forward_72 cs_X10_forward_72 ⟨rfl, rfl⟩ ⟨Nat.zero_le _, Nat.zero_le _⟩ (Nat.le_of_ble_eq_true rfl) (tl_icmp_le (tgt := 82) dX10_forward_75 (by decide) (fun c30 => ?_) (fun c30 => ?_)))))))))
                · replace h := tl_ip h c30
                  refine tl_iload_n dX10_forward_82 rfl (tl_istore_n dX10_forward_83 (Nat.le_of_ble_eq_true rfl) (tl_iincK dX10_forward_84 rfl (ii_1 _) (Nat.le_of_ble_eq_true rfl) (fun x31 e => ?_)))
                  have h := tl_leteq e h
                  clear e
                  refine tl_goto (tgt := 4) dX10_forward_87 (by decide) (?_)
                  exact ih _ _ _ _ _ _ h1 h
                · replace h := tl_in h c30
                  refine tl_iload_n dX10_forward_78 rfl (tl_goto (tgt := 83) dX10_forward_79 (by decide) (tl_istore_n dX10_forward_83 (Nat.le_of_ble_eq_true rfl) (tl_iincK dX10_forward_84 rfl (ii_1 _) (Nat.le_of_ble_eq_true rfl) (fun x31 e => ?_))))
                  have h := tl_leteq e h
                  clear e
                  refine tl_goto (tgt := 4) dX10_forward_87 (by decide) (?_)
                  exact ih _ _ _ _ _ _ h1 h

theorem l10_forward {E : tl_E} {a1 : Nat} {x2 : Int32}  {u : tl_S} {r : Int32} {v : tl_S} (h1 : tl_T E.2.1 a1 = some 13) (h : f10_forward a1 x2 u = some (r, v)) : tl_MB E mX10_forward [.ref a1, .int x2] u (fun q w => q = some (.int r) ∧ w = v) := by
  unfold f10_forward at h
  refine tl_start [some (.ref a1), some (.int x2), none, none, none] rfl rfl rfl (Nat.le_of_ble_eq_true rfl) ?_
  refine tl_iconst (v := (-1)) dX10_forward_0 ic_m1 (tl_istore_n dX10_forward_1 (Nat.le_of_ble_eq_true rfl) (tl_iconst (v := 0) dX10_forward_2 ic_0 (tl_istore_n dX10_forward_3 (Nat.le_of_ble_eq_true rfl) (?_))))
  exact l10_forward_p4 tl_F _ _ _ _ _ _ h1 h

theorem cs_X10_isWorked_12 : tl_cS mX10_isWorked mX10_ofMiner 99 3 := ⟨cd_X10_ofMiner, ml_X10_99, sm_X10_ofMiner, in_X10, ⟨by decide, by decide, by decide +kernel⟩, Nat.le_of_ble_eq_true rfl, Nat.le_of_ble_eq_true rfl⟩
def f10_isWorked_p2 : Nat → Nat → Int32 → Int32 → tl_S → Option (Int32 × tl_S)
  | 0, _, _, _, _ => none
  | fu + 1, a1, x2, x3, u =>
  (if (u.1 a1 1) ≤ x3 then some (0, u) else tl_b2 (f10_ofMiner a1 x3 0 u) (fun x8 u7 => (if x8 = x2 then some (1, u7) else tl_let (x3 + 1) (fun x10 => f10_isWorked_p2 fu a1 x2 x10 u7))))

def f10_isWorked (a1 : Nat) (x2 : Int32) (u : tl_S) : Option (Int32 × tl_S) :=
  f10_isWorked_p2 tl_F a1 x2 0 u

theorem l10_isWorked_p2 {E : tl_E}  {r : Int32} {v : tl_S} : ∀ (n : Nat) (a1 : Nat) (x2 : Int32) (x3 : Int32) (u : tl_S) , tl_T E.2.1 a1 = some 13 → f10_isWorked_p2 n a1 x2 x3 u = some (r, v) → tl_R E mX10_isWorked tl_X0 (tl_ZB E mX10_isWorked (fun q w => q = some (.int r) ∧ w = v)) 0 0 (tl_HB E u) 2 [some (.ref a1), some (.int x2), some (.int x3)] [] := by
  intro n
  induction n with
  | zero => intro a1 x2 x3 u  h1 h; exact absurd h (by simp [f10_isWorked_p2])
  | succ n ih =>
    intro a1 x2 x3 u  h1 h
    rw [f10_isWorked_p2] at h
    refine tl_iload_n dX10_isWorked_2 rfl (tl_aload_n dX10_isWorked_3 rfl (tl_iconst (v := 1) dX10_isWorked_4 ic_1 (tl_iald (j := 1) (fun _ _ => rfl) dX10_isWorked_5 h1 (li_1 104 rfl) lx_1 (tl_icmp_ge (tgt := 27) dX10_isWorked_6 (by decide) (fun c5 => ?_) (fun c5 => ?_)))))
    · replace h := tl_ip h c5
      exact tl_iconst (v := 0) dX10_isWorked_27 ic_0 (tl_iretE dX10_isWorked_28 rfl rfl h)
    · replace h := tl_in h c5
      obtain ⟨x8, u7, e6, h⟩ := tl_b2i h
      refine tl_aload_n dX10_isWorked_9 rfl (tl_iload_n dX10_isWorked_10 rfl (tl_iconst (v := 0) dX10_isWorked_11 ic_0 (tl_iS3 (l10_ofMiner h1 e6) dX10_isWorked_12 cs_X10_isWorked_12 ⟨rfl, rfl⟩ ⟨Nat.zero_le _, Nat.zero_le _⟩ (Nat.le_of_ble_eq_true rfl) (tl_iload_n dX10_isWorked_15 rfl (tl_icmp_ne (tgt := 21) dX10_isWorked_16 (by decide) (fun c9 => ?_) (fun c9 => ?_))))))
      · replace h := tl_in h c9
        refine tl_iincK dX10_isWorked_21 rfl (ii_1 _) (Nat.le_of_ble_eq_true rfl) (fun x10 e => ?_)
        have h := tl_leteq e h
        clear e
        refine tl_goto (tgt := 2) dX10_isWorked_24 (by decide) (?_)
        exact ih _ _ _ _  h1 h
      · replace h := tl_ip h c9
        exact tl_iconst (v := 1) dX10_isWorked_19 ic_1 (tl_iretE dX10_isWorked_20 rfl rfl h)

theorem l10_isWorked {E : tl_E} {a1 : Nat} {x2 : Int32}  {u : tl_S} {r : Int32} {v : tl_S} (h1 : tl_T E.2.1 a1 = some 13) (h : f10_isWorked a1 x2 u = some (r, v)) : tl_MB E mX10_isWorked [.ref a1, .int x2] u (fun q w => q = some (.int r) ∧ w = v) := by
  unfold f10_isWorked at h
  refine tl_start [some (.ref a1), some (.int x2), none] rfl rfl rfl (Nat.le_of_ble_eq_true rfl) ?_
  refine tl_iconst (v := 0) dX10_isWorked_0 ic_0 (tl_istore_n dX10_isWorked_1 (Nat.le_of_ble_eq_true rfl) (?_))
  exact l10_isWorked_p2 tl_F _ _ _ _  h1 h


def f10_orderOn (a1 : Nat) (x2 : Int32) (x3 : Int32) (x4 : Int32) (x5 : Int32) (u : tl_S) : Option (Int32 × tl_S) :=
  tl_let ((80 + (4 * (u.1 a1 8)))) (fun x7 => tl_g (¬ (x7 < 0 ∨ 104 ≤ x7.toNatClampNeg)) (tl_let ((tl_u u.1 a1 x7.toNatClampNeg x2, u.2) : tl_S) (fun u9 => tl_g (¬ ((x7 + 1) < 0 ∨ 104 ≤ (x7 + 1).toNatClampNeg)) (tl_let ((tl_u u9.1 a1 ((x7 + 1).toNatClampNeg) x3, u9.2) : tl_S) (fun u11 => tl_g (¬ ((x7 + 2) < 0 ∨ 104 ≤ (x7 + 2).toNatClampNeg)) (tl_let ((tl_u u11.1 a1 ((x7 + 2).toNatClampNeg) x4, u11.2) : tl_S) (fun u13 => tl_g (¬ ((x7 + 3) < 0 ∨ 104 ≤ (x7 + 3).toNatClampNeg)) (tl_let ((tl_u u13.1 a1 ((x7 + 3).toNatClampNeg) x5, u13.2) : tl_S) (fun u15 => tl_let ((tl_u u15.1 a1 8 ((u15.1 a1 8) + 1), u15.2) : tl_S) (fun u16 => some ((u16.1 a1 8), u16)))))))))))

theorem l10_orderOn {E : tl_E} {a1 : Nat} {x2 : Int32} {x3 : Int32} {x4 : Int32} {x5 : Int32}  {u : tl_S} {r : Int32} {v : tl_S} (h1 : tl_T E.2.1 a1 = some 13) (h : f10_orderOn a1 x2 x3 x4 x5 u = some (r, v)) : tl_MB E mX10_orderOn [.ref a1, .int x2, .int x3, .int x4, .int x5] u (fun q w => q = some (.int r) ∧ w = v) := by
  unfold f10_orderOn at h
  refine tl_start [some (.ref a1), some (.int x2), some (.int x3), some (.int x4), some (.int x5), none] rfl rfl rfl (Nat.le_of_ble_eq_true rfl) ?_
  refine tl_bipush (v := 80) dX10_orderOn_0 bp_80 (tl_iconst (v := 4) dX10_orderOn_2 ic_4 (tl_aload_n dX10_orderOn_3 rfl (tl_bipush (v := 8) dX10_orderOn_4 bp_8 (tl_iald (j := 8) (fun _ _ => rfl) dX10_orderOn_6 h1 (li_8 104 rfl) lx_8 (tl_imul dX10_orderOn_7 (tl_iadd dX10_orderOn_8 (tl_isto dX10_orderOn_9 (Nat.le_of_ble_eq_true rfl) (fun x7 e => ?_))))))))
  have h := tl_leteq e h
  clear e
  obtain ⟨g8, h⟩ := tl_gi h
  refine tl_aload_n dX10_orderOn_11 rfl (tl_iload dX10_orderOn_12 rfl (tl_iload_n dX10_orderOn_14 rfl (tl_iastK (fun _ _ => rfl) dX10_orderOn_15 h1 (x7.toNatClampNeg) g8 rfl (fun u9 e => ?_))))
  have h := tl_leteq e h
  clear e
  obtain ⟨g10, h⟩ := tl_gi h
  refine tl_aload_n dX10_orderOn_16 rfl (tl_iload dX10_orderOn_17 rfl (tl_iconst (v := 1) dX10_orderOn_19 ic_1 (tl_iadd dX10_orderOn_20 (tl_iload_n dX10_orderOn_21 rfl (tl_iastK (fun _ _ => rfl) dX10_orderOn_22 h1 ((x7 + 1).toNatClampNeg) g10 rfl (fun u11 e => ?_))))))
  have h := tl_leteq e h
  clear e
  obtain ⟨g12, h⟩ := tl_gi h
  refine tl_aload_n dX10_orderOn_23 rfl (tl_iload dX10_orderOn_24 rfl (tl_iconst (v := 2) dX10_orderOn_26 ic_2 (tl_iadd dX10_orderOn_27 (tl_iload_n dX10_orderOn_28 rfl (tl_iastK (fun _ _ => rfl) dX10_orderOn_29 h1 ((x7 + 2).toNatClampNeg) g12 rfl (fun u13 e => ?_))))))
  have h := tl_leteq e h
  clear e
  obtain ⟨g14, h⟩ := tl_gi h
  refine tl_aload_n dX10_orderOn_30 rfl (tl_iload dX10_orderOn_31 rfl (tl_iconst (v := 3) dX10_orderOn_33 ic_3 (tl_iadd dX10_orderOn_34 (tl_iload dX10_orderOn_35 rfl (tl_iastK (fun _ _ => rfl) dX10_orderOn_37 h1 ((x7 + 3).toNatClampNeg) g14 rfl (fun u15 e => ?_))))))
  have h := tl_leteq e h
  clear e
  refine tl_aload_n dX10_orderOn_38 rfl (tl_bipush (v := 8) dX10_orderOn_39 bp_8 (tl_dup2 dX10_orderOn_41 rfl rfl (tl_iald (j := 8) (fun _ _ => rfl) dX10_orderOn_42 h1 (li_8 104 rfl) lx_8 (tl_iconst (v := 1) dX10_orderOn_43 ic_1 (tl_iadd dX10_orderOn_44 (tl_iastK (fun _ _ => rfl) dX10_orderOn_45 h1 (8) (li_8 104 rfl) lx_8 (fun u16 e => ?_)))))))
  have h := tl_leteq e h
  clear e
  exact tl_aload_n dX10_orderOn_46 rfl (tl_bipush (v := 8) dX10_orderOn_47 bp_8 (tl_iald (j := 8) (fun _ _ => rfl) dX10_orderOn_49 h1 (li_8 104 rfl) lx_8 (tl_iretE dX10_orderOn_50 rfl rfl h)))

theorem cs_X10_looksHimself_11 : tl_cS mX10_looksHimself mX10_isWorked 110 2 := ⟨cd_X10_isWorked, ml_X10_110, sm_X10_isWorked, in_X10, ⟨by decide, by decide, by decide +kernel⟩, Nat.le_of_ble_eq_true rfl, Nat.le_of_ble_eq_true rfl⟩
theorem cs_X10_looksHimself_60 : tl_cS mX10_looksHimself mX10_forward 117 2 := ⟨cd_X10_forward, ml_X10_117, sm_X10_forward, in_X10, ⟨by decide, by decide, by decide +kernel⟩, Nat.le_of_ble_eq_true rfl, Nat.le_of_ble_eq_true rfl⟩
theorem cs_X10_looksHimself_71 : tl_cS mX10_looksHimself mX10_forward 117 2 := ⟨cd_X10_forward, ml_X10_117, sm_X10_forward, in_X10, ⟨by decide, by decide, by decide +kernel⟩, Nat.le_of_ble_eq_true rfl, Nat.le_of_ble_eq_true rfl⟩
theorem cs_X10_looksHimself_77 : tl_cS mX10_looksHimself mX10_depth 45 2 := ⟨cd_X10_depth, ml_X10_45, sm_X10_depth, in_X10, ⟨by decide, by decide, by decide +kernel⟩, Nat.le_of_ble_eq_true rfl, Nat.le_of_ble_eq_true rfl⟩
theorem cs_X10_looksHimself_82 : tl_cS mX10_looksHimself mX10_orderOn 120 5 := ⟨cd_X10_orderOn, ml_X10_120, sm_X10_orderOn, in_X10, ⟨by decide, by decide, by decide +kernel⟩, Nat.le_of_ble_eq_true rfl, Nat.le_of_ble_eq_true rfl⟩
theorem cs_X10_looksHimself_19 : tl_cS mX10_looksHimself mX10_depth 45 2 := ⟨cd_X10_depth, ml_X10_45, sm_X10_depth, in_X10, ⟨by decide, by decide, by decide +kernel⟩, Nat.le_of_ble_eq_true rfl, Nat.le_of_ble_eq_true rfl⟩
theorem cs_X10_looksHimself_29 : tl_cS mX10_looksHimself mX10_in 37 3 := ⟨cd_X10_in, ml_X10_37, sm_X10_in, in_X10, ⟨by decide, by decide, by decide +kernel⟩, Nat.le_of_ble_eq_true rfl, Nat.le_of_ble_eq_true rfl⟩
theorem cs_X10_looksHimself_39 : tl_cS mX10_looksHimself mX10_depth 45 2 := ⟨cd_X10_depth, ml_X10_45, sm_X10_depth, in_X10, ⟨by decide, by decide, by decide +kernel⟩, Nat.le_of_ble_eq_true rfl, Nat.le_of_ble_eq_true rfl⟩
theorem cs_X10_looksHimself_42 : tl_cS mX10_looksHimself mX10_isLit 102 3 := ⟨cd_X10_isLit, ml_X10_102, sm_X10_isLit, in_X10, ⟨by decide, by decide, by decide +kernel⟩, Nat.le_of_ble_eq_true rfl, Nat.le_of_ble_eq_true rfl⟩
def f10_looksHimself_p2 : Nat → Nat → Int32 → tl_S → Option (tl_S)
  | 0, _, _, _ => none
  | fu + 1, a1, x2, u =>
  (if (u.1 a1 0) ≤ x2 then some u else tl_b2 (f10_isWorked a1 x2 u) (fun x7 u6 => (if x7 = 0 then (if (0 : Int32) = 0 then tl_let (x2 + 1) (fun x10 => f10_looksHimself_p2 fu a1 x10 u6) else tl_b2 (f10_forward a1 x2 u6) (fun x12 u11 => (if x12 = (-1) then tl_let (x2 + 1) (fun x14 => f10_looksHimself_p2 fu a1 x14 u11) else tl_b2 (f10_forward a1 x2 u11) (fun x16 u15 => tl_b2 (f10_depth a1 x2 u15) (fun x19 u18 => tl_b2 (f10_orderOn a1 0 x16 x2 (x19 - 1) u18) (fun x22 u21 => some u21)))))) else tl_b2 (f10_depth a1 x2 u6) (fun x11 u10 => tl_b2 (f10_in ((x11 : Int32).toInt64) 2 59 u10) (fun x14 u13 => (if x14 = 0 then (if (0 : Int32) = 0 then tl_let (x2 + 1) (fun x17 => f10_looksHimself_p2 fu a1 x17 u13) else tl_b2 (f10_forward a1 x2 u13) (fun x19 u18 => (if x19 = (-1) then tl_let (x2 + 1) (fun x21 => f10_looksHimself_p2 fu a1 x21 u18) else tl_b2 (f10_forward a1 x2 u18) (fun x23 u22 => tl_b2 (f10_depth a1 x2 u22) (fun x26 u25 => tl_b2 (f10_orderOn a1 0 x23 x2 (x26 - 1) u25) (fun x29 u28 => some u28)))))) else tl_b2 (f10_depth a1 x2 u13) (fun x18 u17 => tl_b2 (f10_isLit a1 x2 x18 u17) (fun x21 u20 => (if x21 = 0 then (if (1 : Int32) = 0 then tl_let (x2 + 1) (fun x24 => f10_looksHimself_p2 fu a1 x24 u20) else tl_b2 (f10_forward a1 x2 u20) (fun x26 u25 => (if x26 = (-1) then tl_let (x2 + 1) (fun x28 => f10_looksHimself_p2 fu a1 x28 u25) else tl_b2 (f10_forward a1 x2 u25) (fun x30 u29 => tl_b2 (f10_depth a1 x2 u29) (fun x33 u32 => tl_b2 (f10_orderOn a1 0 x30 x2 (x33 - 1) u32) (fun x36 u35 => some u35)))))) else (if (0 : Int32) = 0 then tl_let (x2 + 1) (fun x24 => f10_looksHimself_p2 fu a1 x24 u20) else tl_b2 (f10_forward a1 x2 u20) (fun x26 u25 => (if x26 = (-1) then tl_let (x2 + 1) (fun x28 => f10_looksHimself_p2 fu a1 x28 u25) else tl_b2 (f10_forward a1 x2 u25) (fun x30 u29 => tl_b2 (f10_depth a1 x2 u29) (fun x33 u32 => tl_b2 (f10_orderOn a1 0 x30 x2 (x33 - 1) u32) (fun x36 u35 => some u35)))))))))))))))

def f10_looksHimself (a1 : Nat) (u : tl_S) : Option (tl_S) :=
  f10_looksHimself_p2 tl_F a1 0 u

theorem l10_looksHimself_p2 {E : tl_E}  {v : tl_S} : ∀ (n : Nat) (a1 : Nat) (x2 : Int32) (u : tl_S) (d2 : Option Value), tl_T E.2.1 a1 = some 13 → f10_looksHimself_p2 n a1 x2 u = some v → tl_R E mX10_looksHimself tl_X0 (tl_ZB E mX10_looksHimself (fun q w => q = none ∧ w = v)) 0 0 (tl_HB E u) 2 [some (.ref a1), some (.int x2), d2] [] := by
  intro n
  induction n with
  | zero => intro a1 x2 u d2 h1 h; exact absurd h (by simp [f10_looksHimself_p2])
  | succ n ih =>
    intro a1 x2 u d2 h1 h
    rw [f10_looksHimself_p2] at h
    refine tl_iload_n dX10_looksHimself_2 rfl (tl_aload_n dX10_looksHimself_3 rfl (tl_iconst (v := 0) dX10_looksHimself_4 ic_0 (tl_iald (j := 0) (fun _ _ => rfl) dX10_looksHimself_5 h1 (li_0 104 rfl) lx_0 (tl_icmp_ge (tgt := 93) dX10_looksHimself_6 (by decide) (fun c4 => ?_) (fun c4 => ?_)))))
    · replace h := tl_ip h c4
      exact tl_vretE dX10_looksHimself_93 rfl h
    · replace h := tl_in h c4
      obtain ⟨x7, u6, e5, h⟩ := tl_b2i h
      refine tl_aload_n dX10_looksHimself_9 rfl (tl_iload_n dX10_looksHimself_10 rfl (tl_iS2 (l10_isWorked h1 e5) dX10_looksHimself_11 cs_X10_looksHimself_11 ⟨rfl, rfl⟩ ⟨Nat.zero_le _, Nat.zero_le _⟩ (Nat.le_of_ble_eq_true rfl) (tl_if_eq (tgt := 52) dX10_looksHimself_14 (by decide) (fun c8 => ?_) (fun c8 => ?_))))
      · replace h := tl_ip h c8
        refine tl_iconst (v := 0) dX10_looksHimself_52 ic_0 (tl_istore_n dX10_looksHimself_53 (Nat.le_of_ble_eq_true rfl) (tl_iload_n dX10_looksHimself_54 rfl (tl_if_eq (tgt := 87) dX10_looksHimself_55 (by decide) (fun c9 => ?_) (fun c9 => ?_))))
        · replace h := tl_ip h c9
          refine tl_iincK dX10_looksHimself_87 rfl (ii_1 _) (Nat.le_of_ble_eq_true rfl) (fun x10 e => ?_)
          have h := tl_leteq e h
          clear e
          refine tl_goto (tgt := 2) dX10_looksHimself_90 (by decide) (?_)
          exact ih _ _ _ _ h1 h
        · replace h := tl_in h c9
          obtain ⟨x12, u11, e10, h⟩ := tl_b2i h
          refine tl_aload_n dX10_looksHimself_58 rfl (tl_iload_n dX10_looksHimself_59 rfl (tl_iS2 (l10_forward h1 e10) dX10_looksHimself_60 cs_X10_looksHimself_60 ⟨rfl, rfl⟩ ⟨Nat.zero_le _, Nat.zero_le _⟩ (Nat.le_of_ble_eq_true rfl) (tl_iconst (v := (-1)) dX10_looksHimself_63 ic_m1 (tl_icmp_eq (tgt := 87) dX10_looksHimself_64 (by decide) (fun c13 => ?_) (fun c13 => ?_)))))
          · replace h := tl_ip h c13
            refine tl_iincK dX10_looksHimself_87 rfl (ii_1 _) (Nat.le_of_ble_eq_true rfl) (fun x14 e => ?_)
            have h := tl_leteq e h
            clear e
            refine tl_goto (tgt := 2) dX10_looksHimself_90 (by decide) (?_)
            exact ih _ _ _ _ h1 h
          · replace h := tl_in h c13
            obtain ⟨x16, u15, e14, h⟩ := tl_b2i h
            obtain ⟨x19, u18, e17, h⟩ := tl_b2i h
            obtain ⟨x22, u21, e20, h⟩ := tl_b2i h
            exact tl_aload_n dX10_looksHimself_67 rfl (tl_iconst (v := 0) dX10_looksHimself_68 ic_0 (tl_aload_n dX10_looksHimself_69 rfl (tl_iload_n dX10_looksHimself_70 rfl (tl_iS2 (l10_forward h1 e14) dX10_looksHimself_71 cs_X10_looksHimself_71 ⟨rfl, rfl⟩ ⟨Nat.zero_le _, Nat.zero_le _⟩ (Nat.le_of_ble_eq_true rfl) (tl_iload_n dX10_looksHimself_74 rfl (tl_aload_n dX10_looksHimself_75 rfl (tl_iload_n dX10_looksHimself_76 rfl (tl_iS2 (l10_depth h1 e17) dX10_looksHimself_77 cs_X10_looksHimself_77 ⟨rfl, rfl⟩ ⟨Nat.zero_le _, Nat.zero_le _⟩ (Nat.le_of_ble_eq_true rfl) (tl_iconst (v := 1) dX10_looksHimself_80 ic_1 (tl_isub dX10_looksHimself_81 (tl_iS5 (l10_orderOn h1 e20) dX10_looksHimself_82 cs_X10_looksHimself_82 ⟨rfl, rfl⟩ ⟨Nat.zero_le _, Nat.zero_le _⟩ (Nat.le_of_ble_eq_true rfl) (tl_pop dX10_looksHimself_85 rfl (tl_vretE dX10_looksHimself_86 rfl h)))))))))))))
      · replace h := tl_in h c8
        obtain ⟨x11, u10, e9, h⟩ := tl_b2i h
        obtain ⟨x14, u13, e12, h⟩ := tl_b2i h
        refine tl_aload_n dX10_looksHimself_17 rfl (tl_iload_n dX10_looksHimself_18 rfl (tl_iS2 (l10_depth h1 e9) dX10_looksHimself_19 cs_X10_looksHimself_19 ⟨rfl, rfl⟩ ⟨Nat.zero_le _, Nat.zero_le _⟩ (Nat.le_of_ble_eq_true rfl) (tl_i2l dX10_looksHimself_22 (tl_ldc2 dX10_looksHimself_23 kl_X10_113 (tl_ldc2 dX10_looksHimself_26 kl_X10_115 (tl_iS3 (l10_in  e12) dX10_looksHimself_29 cs_X10_looksHimself_29 ⟨rfl, rfl⟩ ⟨Nat.zero_le _, Nat.zero_le _⟩ (Nat.le_of_ble_eq_true rfl) (tl_if_eq (tgt := 52) dX10_looksHimself_32 (by decide) (fun c15 => ?_) (fun c15 => ?_))))))))
        · replace h := tl_ip h c15
          refine tl_iconst (v := 0) dX10_looksHimself_52 ic_0 (tl_istore_n dX10_looksHimself_53 (Nat.le_of_ble_eq_true rfl) (tl_iload_n dX10_looksHimself_54 rfl (tl_if_eq (tgt := 87) dX10_looksHimself_55 (by decide) (fun c16 => ?_) (fun c16 => ?_))))
          · replace h := tl_ip h c16
            refine tl_iincK dX10_looksHimself_87 rfl (ii_1 _) (Nat.le_of_ble_eq_true rfl) (fun x17 e => ?_)
            have h := tl_leteq e h
            clear e
            refine tl_goto (tgt := 2) dX10_looksHimself_90 (by decide) (?_)
            exact ih _ _ _ _ h1 h
          · replace h := tl_in h c16
            obtain ⟨x19, u18, e17, h⟩ := tl_b2i h
            refine tl_aload_n dX10_looksHimself_58 rfl (tl_iload_n dX10_looksHimself_59 rfl (tl_iS2 (l10_forward h1 e17) dX10_looksHimself_60 cs_X10_looksHimself_60 ⟨rfl, rfl⟩ ⟨Nat.zero_le _, Nat.zero_le _⟩ (Nat.le_of_ble_eq_true rfl) (tl_iconst (v := (-1)) dX10_looksHimself_63 ic_m1 (tl_icmp_eq (tgt := 87) dX10_looksHimself_64 (by decide) (fun c20 => ?_) (fun c20 => ?_)))))
            · replace h := tl_ip h c20
              refine tl_iincK dX10_looksHimself_87 rfl (ii_1 _) (Nat.le_of_ble_eq_true rfl) (fun x21 e => ?_)
              have h := tl_leteq e h
              clear e
              refine tl_goto (tgt := 2) dX10_looksHimself_90 (by decide) (?_)
              exact ih _ _ _ _ h1 h
            · replace h := tl_in h c20
              obtain ⟨x23, u22, e21, h⟩ := tl_b2i h
              obtain ⟨x26, u25, e24, h⟩ := tl_b2i h
              obtain ⟨x29, u28, e27, h⟩ := tl_b2i h
              exact tl_aload_n dX10_looksHimself_67 rfl (tl_iconst (v := 0) dX10_looksHimself_68 ic_0 (tl_aload_n dX10_looksHimself_69 rfl (tl_iload_n dX10_looksHimself_70 rfl (tl_iS2 (l10_forward h1 e21) dX10_looksHimself_71 cs_X10_looksHimself_71 ⟨rfl, rfl⟩ ⟨Nat.zero_le _, Nat.zero_le _⟩ (Nat.le_of_ble_eq_true rfl) (tl_iload_n dX10_looksHimself_74 rfl (tl_aload_n dX10_looksHimself_75 rfl (tl_iload_n dX10_looksHimself_76 rfl (tl_iS2 (l10_depth h1 e24) dX10_looksHimself_77 cs_X10_looksHimself_77 ⟨rfl, rfl⟩ ⟨Nat.zero_le _, Nat.zero_le _⟩ (Nat.le_of_ble_eq_true rfl) (tl_iconst (v := 1) dX10_looksHimself_80 ic_1 (tl_isub dX10_looksHimself_81 (tl_iS5 (l10_orderOn h1 e27) dX10_looksHimself_82 cs_X10_looksHimself_82 ⟨rfl, rfl⟩ ⟨Nat.zero_le _, Nat.zero_le _⟩ (Nat.le_of_ble_eq_true rfl) (tl_pop dX10_looksHimself_85 rfl (tl_vretE dX10_looksHimself_86 rfl h)))))))))))))
        · replace h := tl_in h c15
          obtain ⟨x18, u17, e16, h⟩ := tl_b2i h
          obtain ⟨x21, u20, e19, h⟩ := tl_b2i h
          refine tl_aload_n dX10_looksHimself_35 rfl (tl_iload_n dX10_looksHimself_36 rfl (tl_aload_n dX10_looksHimself_37 rfl (tl_iload_n dX10_looksHimself_38 rfl (tl_iS2 (l10_depth h1 e16) dX10_looksHimself_39 cs_X10_looksHimself_39 ⟨rfl, rfl⟩ ⟨Nat.zero_le _, Nat.zero_le _⟩ (Nat.le_of_ble_eq_true rfl) (tl_iS3 (l10_isLit h1 e19) dX10_looksHimself_42 cs_X10_looksHimself_42 ⟨rfl, rfl⟩ ⟨Nat.zero_le _, Nat.zero_le _⟩ (Nat.le_of_ble_eq_true rfl) (tl_if_ne (tgt := 52) dX10_looksHimself_45 (by decide) (fun c22 => ?_) (fun c22 => ?_)))))))
          · replace h := tl_in h c22
            refine tl_iconst (v := 0) dX10_looksHimself_52 ic_0 (tl_istore_n dX10_looksHimself_53 (Nat.le_of_ble_eq_true rfl) (tl_iload_n dX10_looksHimself_54 rfl (tl_if_eq (tgt := 87) dX10_looksHimself_55 (by decide) (fun c23 => ?_) (fun c23 => ?_))))
            · replace h := tl_ip h c23
              refine tl_iincK dX10_looksHimself_87 rfl (ii_1 _) (Nat.le_of_ble_eq_true rfl) (fun x24 e => ?_)
              have h := tl_leteq e h
              clear e
              refine tl_goto (tgt := 2) dX10_looksHimself_90 (by decide) (?_)
              exact ih _ _ _ _ h1 h
            · replace h := tl_in h c23
              obtain ⟨x26, u25, e24, h⟩ := tl_b2i h
              refine tl_aload_n dX10_looksHimself_58 rfl (tl_iload_n dX10_looksHimself_59 rfl (tl_iS2 (l10_forward h1 e24) dX10_looksHimself_60 cs_X10_looksHimself_60 ⟨rfl, rfl⟩ ⟨Nat.zero_le _, Nat.zero_le _⟩ (Nat.le_of_ble_eq_true rfl) (tl_iconst (v := (-1)) dX10_looksHimself_63 ic_m1 (tl_icmp_eq (tgt := 87) dX10_looksHimself_64 (by decide) (fun c27 => ?_) (fun c27 => ?_)))))
              · replace h := tl_ip h c27
                refine tl_iincK dX10_looksHimself_87 rfl (ii_1 _) (Nat.le_of_ble_eq_true rfl) (fun x28 e => ?_)
                have h := tl_leteq e h
                clear e
                refine tl_goto (tgt := 2) dX10_looksHimself_90 (by decide) (?_)
                exact ih _ _ _ _ h1 h
              · replace h := tl_in h c27
                obtain ⟨x30, u29, e28, h⟩ := tl_b2i h
                obtain ⟨x33, u32, e31, h⟩ := tl_b2i h
                obtain ⟨x36, u35, e34, h⟩ := tl_b2i h
                exact tl_aload_n dX10_looksHimself_67 rfl (tl_iconst (v := 0) dX10_looksHimself_68 ic_0 (tl_aload_n dX10_looksHimself_69 rfl (tl_iload_n dX10_looksHimself_70 rfl (tl_iS2 (l10_forward h1 e28) dX10_looksHimself_71 cs_X10_looksHimself_71 ⟨rfl, rfl⟩ ⟨Nat.zero_le _, Nat.zero_le _⟩ (Nat.le_of_ble_eq_true rfl) (tl_iload_n dX10_looksHimself_74 rfl (tl_aload_n dX10_looksHimself_75 rfl (tl_iload_n dX10_looksHimself_76 rfl (tl_iS2 (l10_depth h1 e31) dX10_looksHimself_77 cs_X10_looksHimself_77 ⟨rfl, rfl⟩ ⟨Nat.zero_le _, Nat.zero_le _⟩ (Nat.le_of_ble_eq_true rfl) (tl_iconst (v := 1) dX10_looksHimself_80 ic_1 (tl_isub dX10_looksHimself_81 (tl_iS5 (l10_orderOn h1 e34) dX10_looksHimself_82 cs_X10_looksHimself_82 ⟨rfl, rfl⟩ ⟨Nat.zero_le _, Nat.zero_le _⟩ (Nat.le_of_ble_eq_true rfl) (tl_pop dX10_looksHimself_85 rfl (tl_vretE dX10_looksHimself_86 rfl h)))))))))))))
          · replace h := tl_ip h c22
            refine tl_iconst (v := 1) dX10_looksHimself_48 ic_1 (tl_goto (tgt := 53) dX10_looksHimself_49 (by decide) (tl_istore_n dX10_looksHimself_53 (Nat.le_of_ble_eq_true rfl) (tl_iload_n dX10_looksHimself_54 rfl (tl_if_eq (tgt := 87) dX10_looksHimself_55 (by decide) (fun c23 => ?_) (fun c23 => ?_)))))
            · replace h := tl_ip h c23
              refine tl_iincK dX10_looksHimself_87 rfl (ii_1 _) (Nat.le_of_ble_eq_true rfl) (fun x24 e => ?_)
              have h := tl_leteq e h
              clear e
              refine tl_goto (tgt := 2) dX10_looksHimself_90 (by decide) (?_)
              exact ih _ _ _ _ h1 h
            · replace h := tl_in h c23
              obtain ⟨x26, u25, e24, h⟩ := tl_b2i h
              refine tl_aload_n dX10_looksHimself_58 rfl (tl_iload_n dX10_looksHimself_59 rfl (tl_iS2 (l10_forward h1 e24) dX10_looksHimself_60 cs_X10_looksHimself_60 ⟨rfl, rfl⟩ ⟨Nat.zero_le _, Nat.zero_le _⟩ (Nat.le_of_ble_eq_true rfl) (tl_iconst (v := (-1)) dX10_looksHimself_63 ic_m1 (tl_icmp_eq (tgt := 87) dX10_looksHimself_64 (by decide) (fun c27 => ?_) (fun c27 => ?_)))))
              · replace h := tl_ip h c27
                refine tl_iincK dX10_looksHimself_87 rfl (ii_1 _) (Nat.le_of_ble_eq_true rfl) (fun x28 e => ?_)
                have h := tl_leteq e h
                clear e
                refine tl_goto (tgt := 2) dX10_looksHimself_90 (by decide) (?_)
                exact ih _ _ _ _ h1 h
              · replace h := tl_in h c27
                obtain ⟨x30, u29, e28, h⟩ := tl_b2i h
                obtain ⟨x33, u32, e31, h⟩ := tl_b2i h
                obtain ⟨x36, u35, e34, h⟩ := tl_b2i h
                exact tl_aload_n dX10_looksHimself_67 rfl (tl_iconst (v := 0) dX10_looksHimself_68 ic_0 (tl_aload_n dX10_looksHimself_69 rfl (tl_iload_n dX10_looksHimself_70 rfl (tl_iS2 (l10_forward h1 e28) dX10_looksHimself_71 cs_X10_looksHimself_71 ⟨rfl, rfl⟩ ⟨Nat.zero_le _, Nat.zero_le _⟩ (Nat.le_of_ble_eq_true rfl) (tl_iload_n dX10_looksHimself_74 rfl (tl_aload_n dX10_looksHimself_75 rfl (tl_iload_n dX10_looksHimself_76 rfl (tl_iS2 (l10_depth h1 e31) dX10_looksHimself_77 cs_X10_looksHimself_77 ⟨rfl, rfl⟩ ⟨Nat.zero_le _, Nat.zero_le _⟩ (Nat.le_of_ble_eq_true rfl) (tl_iconst (v := 1) dX10_looksHimself_80 ic_1 (tl_isub dX10_looksHimself_81 (tl_iS5 (l10_orderOn h1 e34) dX10_looksHimself_82 cs_X10_looksHimself_82 ⟨rfl, rfl⟩ ⟨Nat.zero_le _, Nat.zero_le _⟩ (Nat.le_of_ble_eq_true rfl) (tl_pop dX10_looksHimself_85 rfl (tl_vretE dX10_looksHimself_86 rfl h)))))))))))))

theorem l10_looksHimself {E : tl_E} {a1 : Nat}  {u : tl_S} {v : tl_S} (h1 : tl_T E.2.1 a1 = some 13) (h : f10_looksHimself a1 u = some v) : tl_MB E mX10_looksHimself [.ref a1] u (fun q w => q = none ∧ w = v) := by
  unfold f10_looksHimself at h
  refine tl_start [some (.ref a1), none, none] rfl rfl rfl (Nat.le_of_ble_eq_true rfl) ?_
  refine tl_iconst (v := 0) dX10_looksHimself_0 ic_0 (tl_istore_n dX10_looksHimself_1 (Nat.le_of_ble_eq_true rfl) (?_))
  exact l10_looksHimself_p2 tl_F _ _ _ _ h1 h

theorem cs_X10_hour_28 : tl_cS mX10_hour mX10_burn 127 1 := ⟨cd_X10_burn, ml_X10_127, sm_X10_burn, in_X10, ⟨by decide, by decide, by decide +kernel⟩, Nat.le_of_ble_eq_true rfl, Nat.le_of_ble_eq_true rfl⟩
theorem cs_X10_hour_32 : tl_cS mX10_hour mX10_ladGoes 130 1 := ⟨cd_X10_ladGoes, ml_X10_130, sm_X10_ladGoes, in_X10, ⟨by decide, by decide, by decide +kernel⟩, Nat.le_of_ble_eq_true rfl, Nat.le_of_ble_eq_true rfl⟩
theorem cs_X10_hour_51 : tl_cS mX10_hour mX10_looksHimself 133 1 := ⟨cd_X10_looksHimself, ml_X10_133, sm_X10_looksHimself, in_X10, ⟨by decide, by decide, by decide +kernel⟩, Nat.le_of_ble_eq_true rfl, Nat.le_of_ble_eq_true rfl⟩
theorem cs_X10_hour_18 : tl_cS mX10_hour mX10_mine 124 2 := ⟨cd_X10_mine, ml_X10_124, sm_X10_mine, in_X10, ⟨by decide, by decide, by decide +kernel⟩, Nat.le_of_ble_eq_true rfl, Nat.le_of_ble_eq_true rfl⟩
def f10_hour_p9 : Nat → Nat → Int32 → tl_S → Option (tl_S)
  | 0, _, _, _ => none
  | fu + 1, a1, x2, u =>
  (if (u.1 a1 1) ≤ x2 then tl_b (f10_burn a1 u) (fun u6 => tl_b (f10_ladGoes a1 u6) (fun u8 => (if (u8.1 a1 17) = 1 then (if (u8.1 a1 8) = 0 then tl_b (f10_looksHimself a1 u8) (fun u12 => some u12) else some u8) else some u8))) else tl_b (f10_mine a1 x2 u) (fun u6 => tl_let (x2 + 1) (fun x7 => f10_hour_p9 fu a1 x7 u6)))

def f10_hour (a1 : Nat) (u : tl_S) : Option (tl_S) :=
  tl_let ((tl_u u.1 a1 3 ((u.1 a1 3) + 1), u.2) : tl_S) (fun u3 => f10_hour_p9 tl_F a1 0 u3)

theorem l10_hour_p9 {E : tl_E}  {v : tl_S} : ∀ (n : Nat) (a1 : Nat) (x2 : Int32) (u : tl_S) , tl_T E.2.1 a1 = some 13 → f10_hour_p9 n a1 x2 u = some v → tl_R E mX10_hour tl_X0 (tl_ZB E mX10_hour (fun q w => q = none ∧ w = v)) 0 0 (tl_HB E u) 9 [some (.ref a1), some (.int x2)] [] := by
  intro n
  induction n with
  | zero => intro a1 x2 u  h1 h; exact absurd h (by simp [f10_hour_p9])
  | succ n ih =>
    intro a1 x2 u  h1 h
    rw [f10_hour_p9] at h
    refine tl_iload_n dX10_hour_9 rfl (tl_aload_n dX10_hour_10 rfl (tl_iconst (v := 1) dX10_hour_11 ic_1 (tl_iald (j := 1) (fun _ _ => rfl) dX10_hour_12 h1 (li_1 104 rfl) lx_1 (tl_icmp_ge (tgt := 27) dX10_hour_13 (by decide) (fun c4 => ?_) (fun c4 => ?_)))))
    · replace h := tl_ip h c4
      obtain ⟨u6, e5, h⟩ := tl_bi h
      obtain ⟨u8, e7, h⟩ := tl_bi h
      refine tl_aload_n dX10_hour_27 rfl (tl_vS1 (l10_burn h1 e5) dX10_hour_28 cs_X10_hour_28 ⟨rfl, rfl⟩ ⟨Nat.zero_le _, Nat.zero_le _⟩ (Nat.le_of_ble_eq_true rfl) (tl_aload_n dX10_hour_31 rfl (tl_vS1 (l10_ladGoes h1 e7) dX10_hour_32 cs_X10_hour_32 ⟨rfl, rfl⟩ ⟨Nat.zero_le _, Nat.zero_le _⟩ (Nat.le_of_ble_eq_true rfl) (tl_aload_n dX10_hour_35 rfl (tl_bipush (v := 17) dX10_hour_36 bp_17 (tl_iald (j := 17) (fun _ _ => rfl) dX10_hour_38 h1 (li_17 104 rfl) lx_17 (tl_iconst (v := 1) dX10_hour_39 ic_1 (tl_icmp_ne (tgt := 54) dX10_hour_40 (by decide) (fun c9 => ?_) (fun c9 => ?_)))))))))
      · replace h := tl_in h c9
        exact tl_vretE dX10_hour_54 rfl h
      · replace h := tl_ip h c9
        refine tl_aload_n dX10_hour_43 rfl (tl_bipush (v := 8) dX10_hour_44 bp_8 (tl_iald (j := 8) (fun _ _ => rfl) dX10_hour_46 h1 (li_8 104 rfl) lx_8 (tl_if_ne (tgt := 54) dX10_hour_47 (by decide) (fun c10 => ?_) (fun c10 => ?_))))
        · replace h := tl_in h c10
          exact tl_vretE dX10_hour_54 rfl h
        · replace h := tl_ip h c10
          obtain ⟨u12, e11, h⟩ := tl_bi h
          exact tl_aload_n dX10_hour_50 rfl (tl_vS1 (l10_looksHimself h1 e11) dX10_hour_51 cs_X10_hour_51 ⟨rfl, rfl⟩ ⟨Nat.zero_le _, Nat.zero_le _⟩ (Nat.le_of_ble_eq_true rfl) (tl_vretE dX10_hour_54 rfl h))
    · replace h := tl_in h c4
      obtain ⟨u6, e5, h⟩ := tl_bi h
      refine tl_aload_n dX10_hour_16 rfl (tl_iload_n dX10_hour_17 rfl (tl_vS2 (l10_mine h1 e5) dX10_hour_18 cs_X10_hour_18 ⟨rfl, rfl⟩ ⟨Nat.zero_le _, Nat.zero_le _⟩ (Nat.le_of_ble_eq_true rfl) (tl_iincK dX10_hour_21 rfl (ii_1 _) (Nat.le_of_ble_eq_true rfl) (fun x7 e => ?_))))
      have h := tl_leteq e h
      clear e
      refine tl_goto (tgt := 9) dX10_hour_24 (by decide) (?_)
      exact ih _ _ _  h1 h

theorem l10_hour {E : tl_E} {a1 : Nat}  {u : tl_S} {v : tl_S} (h1 : tl_T E.2.1 a1 = some 13) (h : f10_hour a1 u = some v) : tl_MB E mX10_hour [.ref a1] u (fun q w => q = none ∧ w = v) := by
  unfold f10_hour at h
  refine tl_start [some (.ref a1), none] rfl rfl rfl (Nat.le_of_ble_eq_true rfl) ?_
  refine tl_aload_n dX10_hour_0 rfl (tl_iconst (v := 3) dX10_hour_1 ic_3 (tl_dup2 dX10_hour_2 rfl rfl (tl_iald (j := 3) (fun _ _ => rfl) dX10_hour_3 h1 (li_3 104 rfl) lx_3 (tl_iconst (v := 1) dX10_hour_4 ic_1 (tl_iadd dX10_hour_5 (tl_iastK (fun _ _ => rfl) dX10_hour_6 h1 (3) (li_3 104 rfl) lx_3 (fun u3 e => ?_)))))))
  have h := tl_leteq e h
  clear e
  refine tl_iconst (v := 0) dX10_hour_7 ic_0 (tl_istore_n dX10_hour_8 (Nat.le_of_ble_eq_true rfl) (?_))
  exact l10_hour_p9 tl_F _ _ _  h1 h

theorem cs_X10_hoursOn_13 : tl_cS mX10_hoursOn mX10_hour 136 1 := ⟨cd_X10_hour, ml_X10_136, sm_X10_hour, in_X10, ⟨by decide, by decide, by decide +kernel⟩, Nat.le_of_ble_eq_true rfl, Nat.le_of_ble_eq_true rfl⟩
def f10_hoursOn_p7 : Nat → Nat → Int32 → Int32 → Int32 → tl_S → Option (Int32 × tl_S)
  | 0, _, _, _, _, _ => none
  | fu + 1, a1, x2, x3, x4, u =>
  (if x2 ≤ x4 then some (((u.1 a1 10) - x3), u) else tl_b (f10_hour a1 u) (fun u8 => tl_let (x4 + 1) (fun x9 => f10_hoursOn_p7 fu a1 x2 x3 x9 u8)))

def f10_hoursOn (a1 : Nat) (x2 : Int32) (u : tl_S) : Option (Int32 × tl_S) :=
  tl_let ((u.1 a1 10)) (fun x4 => f10_hoursOn_p7 tl_F a1 x2 x4 0 u)

theorem l10_hoursOn_p7 {E : tl_E}  {r : Int32} {v : tl_S} : ∀ (n : Nat) (a1 : Nat) (x2 : Int32) (x3 : Int32) (x4 : Int32) (u : tl_S) , tl_T E.2.1 a1 = some 13 → f10_hoursOn_p7 n a1 x2 x3 x4 u = some (r, v) → tl_R E mX10_hoursOn tl_X0 (tl_ZB E mX10_hoursOn (fun q w => q = some (.int r) ∧ w = v)) 0 0 (tl_HB E u) 7 [some (.ref a1), some (.int x2), some (.int x3), some (.int x4)] [] := by
  intro n
  induction n with
  | zero => intro a1 x2 x3 x4 u  h1 h; exact absurd h (by simp [f10_hoursOn_p7])
  | succ n ih =>
    intro a1 x2 x3 x4 u  h1 h
    rw [f10_hoursOn_p7] at h
    refine tl_iload_n dX10_hoursOn_7 rfl (tl_iload_n dX10_hoursOn_8 rfl (tl_icmp_ge (tgt := 22) dX10_hoursOn_9 (by decide) (fun c6 => ?_) (fun c6 => ?_)))
    · replace h := tl_ip h c6
      exact tl_aload_n dX10_hoursOn_22 rfl (tl_bipush (v := 10) dX10_hoursOn_23 bp_10 (tl_iald (j := 10) (fun _ _ => rfl) dX10_hoursOn_25 h1 (li_10 104 rfl) lx_10 (tl_iload_n dX10_hoursOn_26 rfl (tl_isub dX10_hoursOn_27 (tl_iretE dX10_hoursOn_28 rfl rfl h)))))
    · replace h := tl_in h c6
      obtain ⟨u8, e7, h⟩ := tl_bi h
      refine tl_aload_n dX10_hoursOn_12 rfl (tl_vS1 (l10_hour h1 e7) dX10_hoursOn_13 cs_X10_hoursOn_13 ⟨rfl, rfl⟩ ⟨Nat.zero_le _, Nat.zero_le _⟩ (Nat.le_of_ble_eq_true rfl) (tl_iincK dX10_hoursOn_16 rfl (ii_1 _) (Nat.le_of_ble_eq_true rfl) (fun x9 e => ?_)))
      have h := tl_leteq e h
      clear e
      refine tl_goto (tgt := 7) dX10_hoursOn_19 (by decide) (?_)
      exact ih _ _ _ _ _  h1 h

theorem l10_hoursOn {E : tl_E} {a1 : Nat} {x2 : Int32}  {u : tl_S} {r : Int32} {v : tl_S} (h1 : tl_T E.2.1 a1 = some 13) (h : f10_hoursOn a1 x2 u = some (r, v)) : tl_MB E mX10_hoursOn [.ref a1, .int x2] u (fun q w => q = some (.int r) ∧ w = v) := by
  unfold f10_hoursOn at h
  refine tl_start [some (.ref a1), some (.int x2), none, none] rfl rfl rfl (Nat.le_of_ble_eq_true rfl) ?_
  refine tl_aload_n dX10_hoursOn_0 rfl (tl_bipush (v := 10) dX10_hoursOn_1 bp_10 (tl_iald (j := 10) (fun _ _ => rfl) dX10_hoursOn_3 h1 (li_10 104 rfl) lx_10 (tl_isto_n dX10_hoursOn_4 (Nat.le_of_ble_eq_true rfl) (fun x4 e => ?_))))
  have h := tl_leteq e h
  clear e
  refine tl_iconst (v := 0) dX10_hoursOn_5 ic_0 (tl_istore_n dX10_hoursOn_6 (Nat.le_of_ble_eq_true rfl) (?_))
  exact l10_hoursOn_p7 tl_F _ _ _ _ _  h1 h


def f10_galleryOn (a1 : Nat) (x2 : Int32) (u : tl_S) : Option (Int32 × tl_S) :=
  tl_let ((u.1 a1 0)) (fun x4 => tl_g (¬ ((18 + (2 * x4)) < 0 ∨ 104 ≤ (18 + (2 * x4)).toNatClampNeg)) (tl_let ((tl_u u.1 a1 ((18 + (2 * x4)).toNatClampNeg) x2, u.2) : tl_S) (fun u6 => tl_g (¬ (((18 + (2 * x4)) + 1) < 0 ∨ 104 ≤ ((18 + (2 * x4)) + 1).toNatClampNeg)) (tl_let ((tl_u u6.1 a1 (((18 + (2 * x4)) + 1).toNatClampNeg) 0, u6.2) : tl_S) (fun u8 => tl_let ((tl_u u8.1 a1 0 ((u8.1 a1 0) + 1), u8.2) : tl_S) (fun u9 => some (x4, u9)))))))

theorem l10_galleryOn {E : tl_E} {a1 : Nat} {x2 : Int32}  {u : tl_S} {r : Int32} {v : tl_S} (h1 : tl_T E.2.1 a1 = some 13) (h : f10_galleryOn a1 x2 u = some (r, v)) : tl_MB E mX10_galleryOn [.ref a1, .int x2] u (fun q w => q = some (.int r) ∧ w = v) := by
  unfold f10_galleryOn at h
  refine tl_start [some (.ref a1), some (.int x2), none] rfl rfl rfl (Nat.le_of_ble_eq_true rfl) ?_
  refine tl_aload_n dX10_galleryOn_0 rfl (tl_iconst (v := 0) dX10_galleryOn_1 ic_0 (tl_iald (j := 0) (fun _ _ => rfl) dX10_galleryOn_2 h1 (li_0 104 rfl) lx_0 (tl_isto_n dX10_galleryOn_3 (Nat.le_of_ble_eq_true rfl) (fun x4 e => ?_))))
  have h := tl_leteq e h
  clear e
  obtain ⟨g5, h⟩ := tl_gi h
  refine tl_aload_n dX10_galleryOn_4 rfl (tl_bipush (v := 18) dX10_galleryOn_5 bp_18 (tl_iconst (v := 2) dX10_galleryOn_7 ic_2 (tl_iload_n dX10_galleryOn_8 rfl (tl_imul dX10_galleryOn_9 (tl_iadd dX10_galleryOn_10 (tl_iload_n dX10_galleryOn_11 rfl (tl_iastK (fun _ _ => rfl) dX10_galleryOn_12 h1 ((18 + (2 * x4)).toNatClampNeg) g5 rfl (fun u6 e => ?_))))))))
  have h := tl_leteq e h
  clear e
  obtain ⟨g7, h⟩ := tl_gi h
  refine tl_aload_n dX10_galleryOn_13 rfl (tl_bipush (v := 18) dX10_galleryOn_14 bp_18 (tl_iconst (v := 2) dX10_galleryOn_16 ic_2 (tl_iload_n dX10_galleryOn_17 rfl (tl_imul dX10_galleryOn_18 (tl_iadd dX10_galleryOn_19 (tl_iconst (v := 1) dX10_galleryOn_20 ic_1 (tl_iadd dX10_galleryOn_21 (tl_iconst (v := 0) dX10_galleryOn_22 ic_0 (tl_iastK (fun _ _ => rfl) dX10_galleryOn_23 h1 (((18 + (2 * x4)) + 1).toNatClampNeg) g7 rfl (fun u8 e => ?_))))))))))
  have h := tl_leteq e h
  clear e
  refine tl_aload_n dX10_galleryOn_24 rfl (tl_iconst (v := 0) dX10_galleryOn_25 ic_0 (tl_dup2 dX10_galleryOn_26 rfl rfl (tl_iald (j := 0) (fun _ _ => rfl) dX10_galleryOn_27 h1 (li_0 104 rfl) lx_0 (tl_iconst (v := 1) dX10_galleryOn_28 ic_1 (tl_iadd dX10_galleryOn_29 (tl_iastK (fun _ _ => rfl) dX10_galleryOn_30 h1 (0) (li_0 104 rfl) lx_0 (fun u9 e => ?_)))))))
  have h := tl_leteq e h
  clear e
  exact tl_iload_n dX10_galleryOn_31 rfl (tl_iretE dX10_galleryOn_32 rfl rfl h)


def f10_minerOn (a1 : Nat) (x2 : Int32) (x3 : Int32) (u : tl_S) : Option (Int32 × tl_S) :=
  tl_let ((24 + (4 * (u.1 a1 1)))) (fun x5 => tl_g (¬ (x5 < 0 ∨ 104 ≤ x5.toNatClampNeg)) (tl_let ((tl_u u.1 a1 x5.toNatClampNeg x2, u.2) : tl_S) (fun u7 => tl_g (¬ ((x5 + 1) < 0 ∨ 104 ≤ (x5 + 1).toNatClampNeg)) (tl_let ((tl_u u7.1 a1 ((x5 + 1).toNatClampNeg) x3, u7.2) : tl_S) (fun u9 => tl_g (¬ ((x5 + 2) < 0 ∨ 104 ≤ (x5 + 2).toNatClampNeg)) (tl_let ((tl_u u9.1 a1 ((x5 + 2).toNatClampNeg) 0, u9.2) : tl_S) (fun u11 => tl_g (¬ ((x5 + 3) < 0 ∨ 104 ≤ (x5 + 3).toNatClampNeg)) (tl_let ((tl_u u11.1 a1 ((x5 + 3).toNatClampNeg) 0, u11.2) : tl_S) (fun u13 => tl_let ((tl_u u13.1 a1 1 ((u13.1 a1 1) + 1), u13.2) : tl_S) (fun u14 => some (((u14.1 a1 1) - 1), u14)))))))))))

theorem l10_minerOn {E : tl_E} {a1 : Nat} {x2 : Int32} {x3 : Int32}  {u : tl_S} {r : Int32} {v : tl_S} (h1 : tl_T E.2.1 a1 = some 13) (h : f10_minerOn a1 x2 x3 u = some (r, v)) : tl_MB E mX10_minerOn [.ref a1, .int x2, .int x3] u (fun q w => q = some (.int r) ∧ w = v) := by
  unfold f10_minerOn at h
  refine tl_start [some (.ref a1), some (.int x2), some (.int x3), none] rfl rfl rfl (Nat.le_of_ble_eq_true rfl) ?_
  refine tl_bipush (v := 24) dX10_minerOn_0 bp_24 (tl_iconst (v := 4) dX10_minerOn_2 ic_4 (tl_aload_n dX10_minerOn_3 rfl (tl_iconst (v := 1) dX10_minerOn_4 ic_1 (tl_iald (j := 1) (fun _ _ => rfl) dX10_minerOn_5 h1 (li_1 104 rfl) lx_1 (tl_imul dX10_minerOn_6 (tl_iadd dX10_minerOn_7 (tl_isto_n dX10_minerOn_8 (Nat.le_of_ble_eq_true rfl) (fun x5 e => ?_))))))))
  have h := tl_leteq e h
  clear e
  obtain ⟨g6, h⟩ := tl_gi h
  refine tl_aload_n dX10_minerOn_9 rfl (tl_iload_n dX10_minerOn_10 rfl (tl_iload_n dX10_minerOn_11 rfl (tl_iastK (fun _ _ => rfl) dX10_minerOn_12 h1 (x5.toNatClampNeg) g6 rfl (fun u7 e => ?_))))
  have h := tl_leteq e h
  clear e
  obtain ⟨g8, h⟩ := tl_gi h
  refine tl_aload_n dX10_minerOn_13 rfl (tl_iload_n dX10_minerOn_14 rfl (tl_iconst (v := 1) dX10_minerOn_15 ic_1 (tl_iadd dX10_minerOn_16 (tl_iload_n dX10_minerOn_17 rfl (tl_iastK (fun _ _ => rfl) dX10_minerOn_18 h1 ((x5 + 1).toNatClampNeg) g8 rfl (fun u9 e => ?_))))))
  have h := tl_leteq e h
  clear e
  obtain ⟨g10, h⟩ := tl_gi h
  refine tl_aload_n dX10_minerOn_19 rfl (tl_iload_n dX10_minerOn_20 rfl (tl_iconst (v := 2) dX10_minerOn_21 ic_2 (tl_iadd dX10_minerOn_22 (tl_iconst (v := 0) dX10_minerOn_23 ic_0 (tl_iastK (fun _ _ => rfl) dX10_minerOn_24 h1 ((x5 + 2).toNatClampNeg) g10 rfl (fun u11 e => ?_))))))
  have h := tl_leteq e h
  clear e
  obtain ⟨g12, h⟩ := tl_gi h
  refine tl_aload_n dX10_minerOn_25 rfl (tl_iload_n dX10_minerOn_26 rfl (tl_iconst (v := 3) dX10_minerOn_27 ic_3 (tl_iadd dX10_minerOn_28 (tl_iconst (v := 0) dX10_minerOn_29 ic_0 (tl_iastK (fun _ _ => rfl) dX10_minerOn_30 h1 ((x5 + 3).toNatClampNeg) g12 rfl (fun u13 e => ?_))))))
  have h := tl_leteq e h
  clear e
  refine tl_aload_n dX10_minerOn_31 rfl (tl_iconst (v := 1) dX10_minerOn_32 ic_1 (tl_dup2 dX10_minerOn_33 rfl rfl (tl_iald (j := 1) (fun _ _ => rfl) dX10_minerOn_34 h1 (li_1 104 rfl) lx_1 (tl_iconst (v := 1) dX10_minerOn_35 ic_1 (tl_iadd dX10_minerOn_36 (tl_iastK (fun _ _ => rfl) dX10_minerOn_37 h1 (1) (li_1 104 rfl) lx_1 (fun u14 e => ?_)))))))
  have h := tl_leteq e h
  clear e
  exact tl_aload_n dX10_minerOn_38 rfl (tl_iconst (v := 1) dX10_minerOn_39 ic_1 (tl_iald (j := 1) (fun _ _ => rfl) dX10_minerOn_40 h1 (li_1 104 rfl) lx_1 (tl_iconst (v := 1) dX10_minerOn_41 ic_1 (tl_isub dX10_minerOn_42 (tl_iretE dX10_minerOn_43 rfl rfl h)))))


def f10_lampOn (a1 : Nat) (x2 : Int32) (x3 : Int32) (x4 : Int32) (x5 : Int32) (u : tl_S) : Option (Int32 × tl_S) :=
  tl_let ((48 + (4 * (u.1 a1 2)))) (fun x7 => tl_g (¬ (x7 < 0 ∨ 104 ≤ x7.toNatClampNeg)) (tl_let ((tl_u u.1 a1 x7.toNatClampNeg x4, u.2) : tl_S) (fun u9 => tl_g (¬ ((x7 + 1) < 0 ∨ 104 ≤ (x7 + 1).toNatClampNeg)) (tl_let ((tl_u u9.1 a1 ((x7 + 1).toNatClampNeg) x5, u9.2) : tl_S) (fun u11 => tl_g (¬ ((x7 + 2) < 0 ∨ 104 ≤ (x7 + 2).toNatClampNeg)) (tl_let ((tl_u u11.1 a1 ((x7 + 2).toNatClampNeg) x2, u11.2) : tl_S) (fun u13 => tl_g (¬ ((x7 + 3) < 0 ∨ 104 ≤ (x7 + 3).toNatClampNeg)) (tl_let ((tl_u u13.1 a1 ((x7 + 3).toNatClampNeg) x3, u13.2) : tl_S) (fun u15 => tl_let ((tl_u u15.1 a1 7 ((u15.1 a1 7) + x5), u15.2) : tl_S) (fun u16 => tl_let ((tl_u u16.1 a1 2 ((u16.1 a1 2) + 1), u16.2) : tl_S) (fun u17 => some (((u17.1 a1 2) - 1), u17))))))))))))

theorem l10_lampOn {E : tl_E} {a1 : Nat} {x2 : Int32} {x3 : Int32} {x4 : Int32} {x5 : Int32}  {u : tl_S} {r : Int32} {v : tl_S} (h1 : tl_T E.2.1 a1 = some 13) (h : f10_lampOn a1 x2 x3 x4 x5 u = some (r, v)) : tl_MB E mX10_lampOn [.ref a1, .int x2, .int x3, .int x4, .int x5] u (fun q w => q = some (.int r) ∧ w = v) := by
  unfold f10_lampOn at h
  refine tl_start [some (.ref a1), some (.int x2), some (.int x3), some (.int x4), some (.int x5), none] rfl rfl rfl (Nat.le_of_ble_eq_true rfl) ?_
  refine tl_bipush (v := 48) dX10_lampOn_0 bp_48 (tl_iconst (v := 4) dX10_lampOn_2 ic_4 (tl_aload_n dX10_lampOn_3 rfl (tl_iconst (v := 2) dX10_lampOn_4 ic_2 (tl_iald (j := 2) (fun _ _ => rfl) dX10_lampOn_5 h1 (li_2 104 rfl) lx_2 (tl_imul dX10_lampOn_6 (tl_iadd dX10_lampOn_7 (tl_isto dX10_lampOn_8 (Nat.le_of_ble_eq_true rfl) (fun x7 e => ?_))))))))
  have h := tl_leteq e h
  clear e
  obtain ⟨g8, h⟩ := tl_gi h
  refine tl_aload_n dX10_lampOn_10 rfl (tl_iload dX10_lampOn_11 rfl (tl_iload_n dX10_lampOn_13 rfl (tl_iastK (fun _ _ => rfl) dX10_lampOn_14 h1 (x7.toNatClampNeg) g8 rfl (fun u9 e => ?_))))
  have h := tl_leteq e h
  clear e
  obtain ⟨g10, h⟩ := tl_gi h
  refine tl_aload_n dX10_lampOn_15 rfl (tl_iload dX10_lampOn_16 rfl (tl_iconst (v := 1) dX10_lampOn_18 ic_1 (tl_iadd dX10_lampOn_19 (tl_iload dX10_lampOn_20 rfl (tl_iastK (fun _ _ => rfl) dX10_lampOn_22 h1 ((x7 + 1).toNatClampNeg) g10 rfl (fun u11 e => ?_))))))
  have h := tl_leteq e h
  clear e
  obtain ⟨g12, h⟩ := tl_gi h
  refine tl_aload_n dX10_lampOn_23 rfl (tl_iload dX10_lampOn_24 rfl (tl_iconst (v := 2) dX10_lampOn_26 ic_2 (tl_iadd dX10_lampOn_27 (tl_iload_n dX10_lampOn_28 rfl (tl_iastK (fun _ _ => rfl) dX10_lampOn_29 h1 ((x7 + 2).toNatClampNeg) g12 rfl (fun u13 e => ?_))))))
  have h := tl_leteq e h
  clear e
  obtain ⟨g14, h⟩ := tl_gi h
  refine tl_aload_n dX10_lampOn_30 rfl (tl_iload dX10_lampOn_31 rfl (tl_iconst (v := 3) dX10_lampOn_33 ic_3 (tl_iadd dX10_lampOn_34 (tl_iload_n dX10_lampOn_35 rfl (tl_iastK (fun _ _ => rfl) dX10_lampOn_36 h1 ((x7 + 3).toNatClampNeg) g14 rfl (fun u15 e => ?_))))))
  have h := tl_leteq e h
  clear e
  refine tl_aload_n dX10_lampOn_37 rfl (tl_bipush (v := 7) dX10_lampOn_38 bp_7 (tl_dup2 dX10_lampOn_40 rfl rfl (tl_iald (j := 7) (fun _ _ => rfl) dX10_lampOn_41 h1 (li_7 104 rfl) lx_7 (tl_iload dX10_lampOn_42 rfl (tl_iadd dX10_lampOn_44 (tl_iastK (fun _ _ => rfl) dX10_lampOn_45 h1 (7) (li_7 104 rfl) lx_7 (fun u16 e => ?_)))))))
  have h := tl_leteq e h
  clear e
  refine tl_aload_n dX10_lampOn_46 rfl (tl_iconst (v := 2) dX10_lampOn_47 ic_2 (tl_dup2 dX10_lampOn_48 rfl rfl (tl_iald (j := 2) (fun _ _ => rfl) dX10_lampOn_49 h1 (li_2 104 rfl) lx_2 (tl_iconst (v := 1) dX10_lampOn_50 ic_1 (tl_iadd dX10_lampOn_51 (tl_iastK (fun _ _ => rfl) dX10_lampOn_52 h1 (2) (li_2 104 rfl) lx_2 (fun u17 e => ?_)))))))
  have h := tl_leteq e h
  clear e
  exact tl_aload_n dX10_lampOn_53 rfl (tl_iconst (v := 2) dX10_lampOn_54 ic_2 (tl_iald (j := 2) (fun _ _ => rfl) dX10_lampOn_55 h1 (li_2 104 rfl) lx_2 (tl_iconst (v := 1) dX10_lampOn_56 ic_1 (tl_isub dX10_lampOn_57 (tl_iretE dX10_lampOn_58 rfl rfl h)))))


def f10_storeOn (a1 : Nat) (x2 : Int32) (u : tl_S) : Option (Int32 × tl_S) :=
  tl_let ((tl_u u.1 a1 4 ((u.1 a1 4) + x2), u.2) : tl_S) (fun u4 => tl_let ((tl_u u4.1 a1 7 ((u4.1 a1 7) + x2), u4.2) : tl_S) (fun u5 => some ((u5.1 a1 4), u5)))

theorem l10_storeOn {E : tl_E} {a1 : Nat} {x2 : Int32}  {u : tl_S} {r : Int32} {v : tl_S} (h1 : tl_T E.2.1 a1 = some 13) (h : f10_storeOn a1 x2 u = some (r, v)) : tl_MB E mX10_storeOn [.ref a1, .int x2] u (fun q w => q = some (.int r) ∧ w = v) := by
  unfold f10_storeOn at h
  refine tl_start [some (.ref a1), some (.int x2)] rfl rfl rfl (Nat.le_of_ble_eq_true rfl) ?_
  refine tl_aload_n dX10_storeOn_0 rfl (tl_iconst (v := 4) dX10_storeOn_1 ic_4 (tl_dup2 dX10_storeOn_2 rfl rfl (tl_iald (j := 4) (fun _ _ => rfl) dX10_storeOn_3 h1 (li_4 104 rfl) lx_4 (tl_iload_n dX10_storeOn_4 rfl (tl_iadd dX10_storeOn_5 (tl_iastK (fun _ _ => rfl) dX10_storeOn_6 h1 (4) (li_4 104 rfl) lx_4 (fun u4 e => ?_)))))))
  have h := tl_leteq e h
  clear e
  refine tl_aload_n dX10_storeOn_7 rfl (tl_bipush (v := 7) dX10_storeOn_8 bp_7 (tl_dup2 dX10_storeOn_10 rfl rfl (tl_iald (j := 7) (fun _ _ => rfl) dX10_storeOn_11 h1 (li_7 104 rfl) lx_7 (tl_iload_n dX10_storeOn_12 rfl (tl_iadd dX10_storeOn_13 (tl_iastK (fun _ _ => rfl) dX10_storeOn_14 h1 (7) (li_7 104 rfl) lx_7 (fun u5 e => ?_)))))))
  have h := tl_leteq e h
  clear e
  exact tl_aload_n dX10_storeOn_15 rfl (tl_iconst (v := 4) dX10_storeOn_16 ic_4 (tl_iald (j := 4) (fun _ _ => rfl) dX10_storeOn_17 h1 (li_4 104 rfl) lx_4 (tl_iretE dX10_storeOn_18 rfl rfl h)))

