/-! The law, from its entry. -/
theorem tw_and (x : Int32) : ∃ c, c < 32 ∧ x &&& 31 = nI c := by
  refine ⟨(x &&& 31).toBitVec.toNat, ?_, ?_⟩
  · show (x.toBitVec &&& (31 : Int32).toBitVec).toNat < 32
    rw [BitVec.toNat_and]
    exact Nat.lt_of_le_of_lt Nat.and_le_right (by decide)
  · apply Int32.toBitVec_inj.mp
    show _ = BitVec.ofNat 32 _
    rw [BitVec.ofNat_toNat, BitVec.setWidth_eq]
theorem tw_small : ∀ L, L < 5 → nI L - nI 5 < nI 0 := by decide
theorem i9_5 : Int32.ofInt 5 = nI 5 := by decide
section TWL
variable {E : tl_E} {nm : String} {b L : Nat} {xs : Nat → Int32} {k n : Nat} {l5 l6 : Option Value}
set_option maxHeartbeats 4000000 in
theorem tw_case {i : Nat} {u : tl_S} {c : Nat} {x : Int32} (hc : c < 32) (hx : x = nI c) (h : tp_JJ E.2.1 u) (hk : k + 1 ≤ 634490) (hn : n + 6 ≤ 7192633) (hi : i + 4 < L) (hL : L ≤ 2560) (K : ∀ u1, tp_JJ E.2.1 u1 → ∀ l5 l6, tl_R E (mW nm) (tw_X E b L xs) lw_Z (k + 1) (n + 6) (tl_HB E u1) 2087 (tw_ls E b i l5 l6) []) : tl_R E (mW nm) (tw_X E b L xs) lw_Z k n (tl_HB E u) 39 (tw_ls E b i l5 l6) [.int x] := by
  exact match c, hc, hx with
  | 0, _, e => by rw [e]; exact tl_tableIn (tgt := 176) (off := 137) dW_39 (by decide) (by decide) rfl (by decide) (tw_c0 h hk hn hi hL K)
  | 1, _, e => by rw [e]; exact tl_tableIn (tgt := 232) (off := 193) dW_39 (by decide) (by decide) rfl (by decide) (tw_c1 h hk hn hi hL K)
  | 2, _, e => by rw [e]; exact tl_tableIn (tgt := 245) (off := 206) dW_39 (by decide) (by decide) rfl (by decide) (tw_c2 h hk hn hi hL K)
  | 3, _, e => by rw [e]; exact tl_tableIn (tgt := 258) (off := 219) dW_39 (by decide) (by decide) rfl (by decide) (tw_c3 h hk hn hi hL K)
  | 4, _, e => by rw [e]; exact tl_tableIn (tgt := 302) (off := 263) dW_39 (by decide) (by decide) rfl (by decide) (tw_c4 h hk hn hi hL K)
  | 5, _, e => by rw [e]; exact tl_tableIn (tgt := 358) (off := 319) dW_39 (by decide) (by decide) rfl (by decide) (tw_c5 h hk hn hi hL K)
  | 6, _, e => by rw [e]; exact tl_tableIn (tgt := 426) (off := 387) dW_39 (by decide) (by decide) rfl (by decide) (tw_c6 h hk hn hi hL K)
  | 7, _, e => by rw [e]; exact tl_tableIn (tgt := 494) (off := 455) dW_39 (by decide) (by decide) rfl (by decide) (tw_c7 h hk hn hi hL K)
  | 8, _, e => by rw [e]; exact tl_tableIn (tgt := 562) (off := 523) dW_39 (by decide) (by decide) rfl (by decide) (tw_c8 h hk hn hi hL K)
  | 9, _, e => by rw [e]; exact tl_tableIn (tgt := 618) (off := 579) dW_39 (by decide) (by decide) rfl (by decide) (tw_c9 h hk hn hi hL K)
  | 10, _, e => by rw [e]; exact tl_tableIn (tgt := 686) (off := 647) dW_39 (by decide) (by decide) rfl (by decide) (tw_c10 h hk hn hi hL K)
  | 11, _, e => by rw [e]; exact tl_tableIn (tgt := 754) (off := 715) dW_39 (by decide) (by decide) rfl (by decide) (tw_c11 h hk hn hi hL K)
  | 12, _, e => by rw [e]; exact tl_tableIn (tgt := 810) (off := 771) dW_39 (by decide) (by decide) rfl (by decide) (tw_c12 h hk hn hi hL K)
  | 13, _, e => by rw [e]; exact tl_tableIn (tgt := 878) (off := 839) dW_39 (by decide) (by decide) rfl (by decide) (tw_c13 h hk hn hi hL K)
  | 14, _, e => by rw [e]; exact tl_tableIn (tgt := 946) (off := 907) dW_39 (by decide) (by decide) rfl (by decide) (tw_c14 h hk hn hi hL K)
  | 15, _, e => by rw [e]; exact tl_tableIn (tgt := 1038) (off := 999) dW_39 (by decide) (by decide) rfl (by decide) (tw_c15 h hk hn hi hL K)
  | 16, _, e => by rw [e]; exact tl_tableIn (tgt := 1094) (off := 1055) dW_39 (by decide) (by decide) rfl (by decide) (tw_c16 h hk hn hi hL K)
  | 17, _, e => by rw [e]; exact tl_tableIn (tgt := 1174) (off := 1135) dW_39 (by decide) (by decide) rfl (by decide) (tw_c17 h hk hn hi hL K)
  | 18, _, e => by rw [e]; exact tl_tableIn (tgt := 1242) (off := 1203) dW_39 (by decide) (by decide) rfl (by decide) (tw_c18 h hk hn hi hL K)
  | 19, _, e => by rw [e]; exact tl_tableIn (tgt := 1298) (off := 1259) dW_39 (by decide) (by decide) rfl (by decide) (tw_c19 h hk hn hi hL K)
  | 20, _, e => by rw [e]; exact tl_tableIn (tgt := 1366) (off := 1327) dW_39 (by decide) (by decide) rfl (by decide) (tw_c20 h hk hn hi hL K)
  | 21, _, e => by rw [e]; exact tl_tableIn (tgt := 1422) (off := 1383) dW_39 (by decide) (by decide) rfl (by decide) (tw_c21 h hk hn hi hL K)
  | 22, _, e => by rw [e]; exact tl_tableIn (tgt := 1466) (off := 1427) dW_39 (by decide) (by decide) rfl (by decide) (tw_c22 h hk hn hi hL K)
  | 23, _, e => by rw [e]; exact tl_tableIn (tgt := 1522) (off := 1483) dW_39 (by decide) (by decide) rfl (by decide) (tw_c23 h hk hn hi hL K)
  | 24, _, e => by rw [e]; exact tl_tableIn (tgt := 1590) (off := 1551) dW_39 (by decide) (by decide) rfl (by decide) (tw_c24 h hk hn hi hL K)
  | 25, _, e => by rw [e]; exact tl_tableIn (tgt := 1603) (off := 1564) dW_39 (by decide) (by decide) rfl (by decide) (tw_c25 h hk hn hi hL K)
  | 26, _, e => by rw [e]; exact tl_tableIn (tgt := 1683) (off := 1644) dW_39 (by decide) (by decide) rfl (by decide) (tw_c26 h hk hn hi hL K)
  | 27, _, e => by rw [e]; exact tl_tableIn (tgt := 1775) (off := 1736) dW_39 (by decide) (by decide) rfl (by decide) (tw_c27 h hk hn hi hL K)
  | 28, _, e => by rw [e]; exact tl_tableIn (tgt := 1875) (off := 1836) dW_39 (by decide) (by decide) rfl (by decide) (tw_c28 h hk hn hi hL K)
  | 29, _, e => by rw [e]; exact tl_tableIn (tgt := 1975) (off := 1936) dW_39 (by decide) (by decide) rfl (by decide) (tw_c29 h hk hn hi hL K)
  | 30, _, e => by rw [e]; exact tl_tableIn (tgt := 2031) (off := 1992) dW_39 (by decide) (by decide) rfl (by decide) (tw_c30 h hk hn hi hL K)
  | 31, _, e => by rw [e]; exact tl_tableOut (tgt := 2087) dW_39 (Or.inr (by decide)) (by decide) (tl_widen (k2 := k + 1) (n2 := n + 6) (by omega) (by omega) (K u h l5 l6))
  | q + 32, hq, _ => absurd hq (by omega)
theorem tw_loop (hL : L ≤ 2560) : ∀ (m j : Nat), 5 * j ≤ L → L + 1 ≤ 5 * j + m → ∀ (u : tl_S), tp_JJ E.2.1 u → ∀ l5 l6, tl_R E (mW nm) (tw_X E b L xs) lw_Z (567 + j) (4785 + 6 * j) (tl_HB E u) 23 (tw_ls E b (5 * j) l5 l6) [] := by
  intro m
  induction m with
  | zero => intro j h1 h2; exact absurd h2 (by omega)
  | succ m ih =>
    intro j h1 h2 u h l5 l6
    refine tl_iload (i := 4) dW_23 rfl (tl_aload_n (q := 0) dW_25 rfl (tw_len dW_26 (tl_iconst dW_27 i9_5 (tl_isub dW_28 ?_))))
    refine tl_icmp_gt (tgt := 2093) dW_29 (by decide) (fun _ => ?_) (fun hng => ?_)
    · exact tl_iconst (v := 1) dW_2093 rfl (tw_ret dW_2094 (by omega) (by omega))
    · have h5 : 5 * j + 5 ≤ L := by
        rcases Nat.lt_or_ge L (5 * j + 5) with q | q
        · exfalso
          rcases Nat.lt_or_ge L 5 with q5 | q5
          · have j0 : j = 0 := by omega
            subst j0
            exact hng (tw_small L q5)
          · refine hng ?_
            rw [pk_sub q5]
            exact nI_lt (by omega) (by omega)
        · exact q
      refine tl_aload_n (q := 0) dW_32 rfl (tl_iload (i := 4) dW_33 rfl (tw_sld dW_35 (by omega) (by omega) (tl_bipush (v := 31) dW_36 (by decide) (tl_iand dW_38 ?_))))
      obtain ⟨c, hc, hx⟩ := tw_and (xs (5 * j))
      refine tw_case hc hx h (by omega) (by omega) (by omega) hL (fun u1 h1 l5 l6 => ?_)
      refine tl_iinc (i := 4) dW_2087 rfl (v := nI (5 * (j + 1))) ?_ (Nat.le_of_ble_eq_true rfl) (tl_goto (tgt := 23) dW_2090 (by decide) ?_)
      · rw [i9_5, nI_add, Nat.mul_succ]
      · exact ih (j + 1) (by omega) (by omega) u1 h1 l5 l6
theorem tw_Tlt {z q K : Nat} (h : tl_T z q = some K) : q < z + 567 := by
  unfold tl_T at h
  split at h
  · have h2 := (List.getElem?_eq_some_iff.mp h).1
    have h3 : tl_kinds.length = 567 := by decide +kernel
    omega
  · cases h
theorem tw_start {F : Nat → va_E} (hL : L ≤ 2560) : tl_R E (mW nm) (tw_X E b L xs) lw_Z 0 0 (tl_G E F E.2.1) 0 [some (.ref b), none, none, none, none, none, none] [] := by
  refine tg_new (fs := [.null, .null, .null, .null, .null, .null, .null, .null]) tl_ck9 dW_0 kk_L_8 ia_X9 in_X9 (fun j hj => by rcases (show j = 0 ∨ j = 1 ∨ j = 2 ∨ j = 3 ∨ j = 4 ∨ j = 5 ∨ j = 6 ∨ j = 7 by omega) with rfl | rfl | rfl | rfl | rfl | rfl | rfl | rfl <;> rfl) (Nat.le_of_ble_eq_true rfl) (Nat.le_of_ble_eq_true rfl) ?_
  refine tl_dup dW_3 rfl ?_
  refine tg_callI (ct_X9 _ E.2.1 (Nat.le_refl _) tl_T9 (tl_fus _ _ _)) dW_4 cI_X9 ⟨(Nat.le_of_ble_eq_true rfl), (Nat.le_of_ble_eq_true rfl)⟩ (Nat.le_of_ble_eq_true rfl) ?_
  refine tl_astore_n (q := 1) dW_7 (Nat.le_of_ble_eq_true rfl) ?_
  refine tg_new (fs := [.int 0, .null, .int 0, .null, .null, .null, .int 0, .null, .null, .int 0, .int 0]) tl_ck10 dW_8 kk_L_107 ia_X10 in_X10 (fun j hj => by rcases (show j = 0 ∨ j = 1 ∨ j = 2 ∨ j = 3 ∨ j = 4 ∨ j = 5 ∨ j = 6 ∨ j = 7 ∨ j = 8 ∨ j = 9 ∨ j = 10 by omega) with rfl | rfl | rfl | rfl | rfl | rfl | rfl | rfl | rfl | rfl | rfl <;> rfl) (Nat.le_of_ble_eq_true rfl) (Nat.le_of_ble_eq_true rfl) ?_
  refine tl_dup dW_11 rfl ?_
  refine tg_callI (ct_X10 rfl (tl_fus _ _ _)) dW_12 cI_X10 ⟨(Nat.le_of_ble_eq_true rfl), (Nat.le_of_ble_eq_true rfl)⟩ (Nat.le_of_ble_eq_true rfl) ?_
  refine tl_astore_n (q := 2) dW_15 (Nat.le_of_ble_eq_true rfl) (tl_iconst (v := 1) dW_16 rfl ?_)
  refine tg_newa (t := 3) (NN := 1) (ty := .long) (a0 := (1, .inr (.inl (fun _ => 0)))) dW_17 ac_long rfl rfl (fun _ _ h => h) (fun _ => rfl) (by decide) (by decide) (by decide) (Nat.le_of_ble_eq_true rfl) (Nat.le_of_ble_eq_true rfl) ?_
  refine tl_astore_n (q := 3) dW_19 (Nat.le_of_ble_eq_true rfl) (tl_iconst (v := 0) dW_20 rfl (tl_istore (i := 4) dW_21 (Nat.le_of_ble_eq_true rfl) ?_))
  refine tl_heap (HP2 := tl_HB E (tl_u0 E.2.1)) (fun H hH => ?_) (tw_loop hL (L + 1) 0 (Nat.zero_le _) (by omega) (tl_u0 E.2.1) (tl_JJ0 E.2.1) none none)
  intro q K hT
  have hq1 := tl_T_le hT
  have hq2 := tw_Tlt hT
  have hat := hH.2 q hq1 (by omega)
  by_cases c : q = E.2.1 + 566
  · subst c
    have hK : K = 17 := Option.some.inj (hT.symm.trans tw_T17)
    subst hK
    rw [show E.2.1 + 559 + 7 = E.2.1 + 566 by omega, tl_fus] at hat
    exact hat
  · rw [tl_fun (by omega)] at hat
    rw [← tl_g0_k hT]
    by_cases c2 : E.2.1 + 559 ≤ q
    · rw [tl_ovi (by omega)] at hat
      exact hat
    · rw [tl_ovo (by omega), tl_fun (by omega), tl_ovi (by omega)] at hat
      exact hat
end TWL
theorem tw_prim {s : State} {args : Array Value} {ty : FieldType} (h : (Cond.arrayClass ty).before args s = true) : ∃ c : ClassId, ArrOfT s c ty ∧ s.vm.findClass ("[" ++ ty.toString) = some c := by
  obtain ⟨c, k, comp, h1, h2, h3⟩ := Cond.arrayClass_spec h
  exact ⟨c, fun n z => ⟨fun k h => (by cases h), k, h2, comp, h3⟩, h1⟩
theorem tw_obj {s : State} {args : Array Value} {C : String} (h : (Cond.arrayOver (.object C)).before args s = true) : ∃ c : ClassId, ArrOfT s c (.object C) ∧ va_RA s c (.object C) := by
  obtain ⟨comp, c, k, h1, h2, h3, h4, h5⟩ := Cond.arrayOver_spec h
  exact ⟨c, fun n z => ⟨fun k h => (by cases h), k, h3, comp, h4⟩, k, comp, h3, h4, h1, h5⟩
theorem tw_str {s : State} {args : Array Value} {own tx : String} {k : Nat} (h : (Cond.stringRef own k tx).before args s = true) (hx : (Cond.exactly (.string own k) "java/lang/String").before args s = true) : ∃ a, vk_R own k tx a s := by
  obtain ⟨a, c, cA, kA, q1, -⟩ := Cond.exactly_spec (args := args) (first := s) (o := none) (s := s) (idx := []) (t := .string own k) (cls := "java/lang/String") hx
  exact ⟨a, vk_R.of h q1⟩
theorem tw_wM : ∀ w ∈ tl_NM, Cond.methodLinkNest w.1 w.2.1 w.2.2 RX9 ∈ lw_tbl := by decide +kernel
theorem tw_wD : ∀ w ∈ tl_ND, Cond.declares w ∈ lw_tbl := by decide +kernel
theorem tw_wC : ∀ w ∈ tl_NC, Cond.castable w w ∈ lw_tbl := by decide +kernel
theorem tw_wA : ∀ w ∈ tl_NA, Cond.arrayOver (.object w) ∈ lw_tbl := by decide +kernel
theorem tw_wS1 : Cond.stringRef RX9 314 "there is no such thing" ∈ lw_tbl := by decide +kernel
theorem tw_wS2 : Cond.stringRef RX9 321 "an argument is out of its range" ∈ lw_tbl := by decide +kernel
theorem tw_wS3 : Cond.stringRef RX9 326 "this is not possible now" ∈ lw_tbl := by decide +kernel
theorem tw_wZ1 : Cond.laysStatic Bundle.tN "UNASSIGNED_STACK" Bundle.steD ∈ lw_tbl := by decide +kernel
theorem tw_wZ2 : Cond.laysStatic Bundle.tN "SUPPRESSED_SENTINEL" Bundle.listD ∈ lw_tbl := by decide +kernel
theorem tw_wZ3 : Cond.initialized Bundle.tN ∈ lw_tbl := by decide +kernel
theorem tw_gN : ∀ w ∈ tl_NC, ∀ v ∈ tl_NC, w ≠ v → Cond.not (.castable w v) ∈ flatC (Jvm.Cond.and given_1 narrow_1) := by decide +kernel
theorem tw_gS1 : Cond.exactly (.string RX9 314) "java/lang/String" ∈ flatC (Jvm.Cond.and given_1 narrow_1) := by decide +kernel
theorem tw_gS2 : Cond.exactly (.string RX9 321) "java/lang/String" ∈ flatC (Jvm.Cond.and given_1 narrow_1) := by decide +kernel
theorem tw_gS3 : Cond.exactly (.string RX9 326) "java/lang/String" ∈ flatC (Jvm.Cond.and given_1 narrow_1) := by decide +kernel
theorem tw_gZ1 : Cond.isRef (.static Bundle.tN "UNASSIGNED_STACK" Bundle.steD) ∈ flatC (Jvm.Cond.and given_1 narrow_1) := by decide +kernel
theorem tw_gZ2 : Cond.isRef (.static Bundle.tN "SUPPRESSED_SENTINEL" Bundle.listD) ∈ flatC (Jvm.Cond.and given_1 narrow_1) := by decide +kernel
theorem tw_KK {s : State} {b : Nat} (l : Launch) (hflags : l.flags = flags0) (hts : ∀ w ∈ lw_tbl, w.before #[Value.ref b] s = true) (hgv : (Jvm.Cond.and given_1 narrow_1).before #[Value.ref b] s = true) : ∃ (D : va_G) (dA : Nat → ClassId), tl_KK (l, s.heap.size, D, dA) s := by
  have hG : ∀ w ∈ tl_GW, w.before #[Value.ref b] s = true := fun w hw => hts w (List.mem_filter.mp hw).1
  have hg := flat_of_before _ hgv
  obtain ⟨c0, s0, k0⟩ := u_known (C := RX0) (T := TX0) (N := 5) (n := 5) hG tl_ck0.2.2.1 (hG _ ia_X0)
  obtain ⟨c1, s1, k1⟩ := u_known (C := RX1) (T := TX1) (N := 2) (n := 2) hG tl_ck1.2.2.1 (hG _ ia_X1)
  obtain ⟨c2, s2, k2⟩ := u_known (C := RX2) (T := TX2) (N := 3) (n := 3) hG tl_ck2.2.2.1 (hG _ ia_X2)
  obtain ⟨c3, s3, k3⟩ := u_known (C := RX3) (T := TX3) (N := 7) (n := 7) hG tl_ck3.2.2.1 (hG _ ia_X3)
  obtain ⟨c4, s4, k4⟩ := u_known (C := RX4) (T := TX4) (N := 4) (n := 4) hG tl_ck4.2.2.1 (hG _ ia_X4)
  obtain ⟨c5, s5, k5⟩ := u_known (C := RX5) (T := TX5) (N := 16) (n := 16) hG tl_ck5.2.2.1 (hG _ ia_X5)
  obtain ⟨c6, s6, k6⟩ := u_known (C := RX6) (T := TX6) (N := 3) (n := 3) hG tl_ck6.2.2.1 (hG _ ia_X6)
  obtain ⟨c7, s7, k7⟩ := u_known (C := RX7) (T := TX7) (N := 4) (n := 4) hG tl_ck7.2.2.1 (hG _ ia_X7)
  obtain ⟨c8, s8, k8⟩ := u_known (C := RX8) (T := TX8) (N := 5) (n := 5) hG tl_ck8.2.2.1 (hG _ ia_X8)
  obtain ⟨c9, s9, k9⟩ := u_known (C := RX9) (T := TX9) (N := 8) (n := 8) hG tl_ck9.2.2.1 (hG _ ia_X9)
  obtain ⟨c10, s10, k10⟩ := u_known (C := RX10) (T := TX10) (N := 11) (n := 11) hG tl_ck10.2.2.1 (hG _ ia_X10)
  obtain ⟨a0, p0, q0⟩ := tw_prim (ty := .int) (hG _ ac_int)
  obtain ⟨a1, p1, q1⟩ := tw_prim (ty := .char) (hG _ ac_char)
  obtain ⟨a2, p2, q2⟩ := tw_prim (ty := .boolean) (hG _ ac_boolean)
  obtain ⟨a3, p3, q3⟩ := tw_prim (ty := .long) (hG _ ac_long)
  obtain ⟨a4, p4, q4⟩ := tw_obj (hts _ (tw_wA RX1 (by decide +kernel)))
  obtain ⟨a5, p5, q5⟩ := tw_obj (hts _ (tw_wA RX7 (by decide +kernel)))
  obtain ⟨a6, p6, q6⟩ := tw_obj (hts _ (tw_wA RX4 (by decide +kernel)))
  obtain ⟨a7, p7, q7⟩ := tw_obj (hts _ (tw_wA RX8 (by decide +kernel)))
  obtain ⟨a8, p8, q8⟩ := tw_obj (hts _ (tw_wA RX5 (by decide +kernel)))
  refine ⟨(fun k => [c0, c1, c2, c3, c4, c5, c6, c7, c8, c9, c10].getD k 0, fun k => [s0, s1, s2, s3, s4, s5, s6, s7, s8, s9, s10].getD k (fun _ => 0)), fun k => [a0, a1, a2, a3, a4, a5, a6, a7, a8].getD k 0, ⟨fun k q hq => ?_, fun k q hq => ?_⟩, fun C hC => va_AO.of (hts _ (tw_wA C hC)), fun w hw => va_Nw.of rfl (hts _ (tw_wM w hw)), fun w hw => va_Nw.of rfl (hts _ (tw_wD w hw)), fun w hw => va_Nw.of rfl (hts _ (tw_wC w hw)), ⟨vx_Zqof (hts _ tw_wZ1) (hts _ tw_wZ3) (hg _ tw_gZ1) (fun a h1 h2 => absurd h1 (Nat.not_lt.mpr h2)), vx_Zqof (hts _ tw_wZ2) (hts _ tw_wZ3) (hg _ tw_gZ2) (fun a h1 h2 => absurd h1 (Nat.not_lt.mpr h2))⟩, tw_str (hts _ tw_wS1) (hg _ tw_gS1), tw_str (hts _ tw_wS2) (hg _ tw_gS2), tw_str (hts _ tw_wS3) (hg _ tw_gS3), fun C hC D hD hne => va_Nc.of (hg _ (tw_gN C hC D hD hne)), ?_⟩
  · match k, hq with
    | 0, hq => cases hq; exact k0
    | 1, hq => cases hq; exact k1
    | 2, hq => cases hq; exact k2
    | 3, hq => cases hq; exact k3
    | 4, hq => cases hq; exact k4
    | 5, hq => cases hq; exact k5
    | 6, hq => cases hq; exact k6
    | 7, hq => cases hq; exact k7
    | 8, hq => cases hq; exact k8
    | 9, hq => cases hq; exact k9
    | 10, hq => cases hq; exact k10
    | k + 11, hq => cases hq
  · match k, hq with
    | 0, hq => cases hq; exact ⟨p0, q0⟩
    | 1, hq => cases hq; exact ⟨p1, q1⟩
    | 2, hq => cases hq; exact ⟨p2, q2⟩
    | 3, hq => cases hq; exact ⟨p3, q3⟩
    | 4, hq => cases hq; exact ⟨p4, q4⟩
    | 5, hq => cases hq; exact ⟨p5, q5⟩
    | 6, hq => cases hq; exact ⟨p6, q6⟩
    | 7, hq => cases hq; exact ⟨p7, q7⟩
    | 8, hq => cases hq; exact ⟨p8, q8⟩
    | k + 9, hq => cases hq
  · show l.stackTraces = false
    unfold Launch.stackTraces
    rw [hflags]
    decide +kernel
set_option maxHeartbeats 4000000 in
/-- THE LAW, from its entry -/
theorem whole_start {p : Program} {e : Env} {s : State} {m : MethodId} {below : List Frame} {meth : Method} {c : Code} (l : Launch) (hflags : l.flags = flags0) {b L : Nat} {xs : Nat → Int32} (hL : L ≤ 2560) (C0 : lw_At p s m meth c b L xs) : W p l e room_1 s m #[Value.ref b] below meth c s.heap [] 0 0 (lw_Z below #[Value.ref b] s) (entryFrame m ([Value.ref b] : List Value).toArray 7) := by
  obtain ⟨hx, hb, hr, hml, hown, hts, hX, hbl, hlocks, hgv⟩ := C0
  obtain ⟨D, dA, hKK⟩ := tw_KK l hflags hts hgv
  have main := tw_start (E := (l, s.heap.size, D, dA)) (nm := meth.name) (b := b) (xs := xs) (F := fun _ => .inr (0, [])) hL
  rw [lg_entry_eq]
  exact main p e s m #[Value.ref b] below meth c ⟨hx, hb, hr, hml, hown, fun w hw => hts w (List.mem_filter.mp hw).1, hlocks, rfl, hKK, Nat.le_refl _⟩ ⟨rfl, hX, hbl, rfl⟩ s.heap _ [] ⟨rfl, fun q h1 h2 => absurd h1 (Nat.not_le.mpr h2)⟩ va_S.rf ⟨rfl, lv_entry ([.ref b]) (n := 7) (Nat.le_of_ble_eq_true rfl)⟩
