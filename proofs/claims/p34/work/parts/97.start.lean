/-! The law, from its entry. -/
theorem cI_X9 {nm : String} : tl_cI (mW nm) mX9_init 212 0 := ⟨cd_X9_init, ml_L_212, im_X9_init, in_X9, rfl, rfl, ⟨by decide, by decide, by decide +kernel⟩, Nat.le_of_ble_eq_true rfl, Nat.le_of_ble_eq_true rfl⟩
section TWL
variable {E : tl_E} {nm : String} {b L : Nat} {xs : Nat → Int32} {k n pc : Nat} {HP : Heap → Prop} {ls : List (Option Value)}
theorem tw_ret (hd : decode code pc = .ok (.ireturn, 1)) (hk : k ≤ 631769) (hn : n ≤ 7206318) : tl_R E (mW nm) (tw_X E b L xs) lw_Z k n HP pc ls [.int 1] := by
  intro p e s m args below meth c hC hX H la locs hH hS hL
  obtain ⟨rfl, hx, hbl, hz⟩ := hX
  refine va_forget (fun q hq => by have h1 := hS.2.2 q hq; rw [hz]; exact h1) (W.widen hk hn ?_)
  exact lw_ret hC.1 hC.2.1 hC.2.2.1 hC.2.2.2.2.2.2.1 hd
theorem tw_Tlt {z q K : Nat} (h : tl_T z q = some K) : q < z + 1118 := by
  unfold tl_T at h
  split at h
  · have h2 := (List.getElem?_eq_some_iff.mp h).1
    have h3 : tl_kinds.length = 1118 := by decide +kernel
    omega
  · cases h
theorem tw_HB {F : Nat → va_E} {f1 f2 : va_E} {H : Heap} (hH : tl_G E (tl_ov E (tl_fu (tl_ov E (tl_fu F E.2.1 f1) E.2.1 (E.2.1 + 559)) (E.2.1 + 559) f2) (E.2.1 + 559) (E.2.1 + 559 + 559)) (E.2.1 + 559 + 559) H) : tl_HB E (tl_u0 E.2.1) H := by
  intro q K hT
  have hq1 := tl_T_le hT
  have hq2 := tw_Tlt hT
  have hat := hH.2 q hq1 (by omega)
  rw [← tl_g0_k hT]
  by_cases c2 : E.2.1 + 559 ≤ q
  · rw [tl_ovi (by omega)] at hat
    exact hat
  · rw [tl_ovo (by omega), tl_fun (by omega), tl_ovi (by omega)] at hat
    exact hat
theorem tw_main (hL : L ≤ 260) : tz_R E (mW nm) (tw_X E b L xs) lw_Z 1118 (tz_HU E (fun _ => tz_s0)) 16 [some (.ref b), some (.ref E.2.1), some (.ref (E.2.1 + 559)), none, none, none, none, none, none] [] := by
  obtain ⟨n0, h0, e0⟩ := tz_sc_N L xs 0
  have hab : E.2.1 ≠ E.2.1 + 559 := by omega
  have eN : (12 : Int32) + (tz_sc L xs 0 - tz_sc L xs 0 / 21 * 21) = nI (12 + n0 % 21) := by
    have e21 : nI n0 - nI n0 / 21 * 21 = nI (n0 % 21) := pk_rem (d := 21) h0 (by decide) (by decide)
    rw [e0, e21]
    exact nI_add 12 _
  obtain ⟨U1, s1, l1, P1, J1⟩ := tz_law41 (a := E.2.1) (b := E.2.1 + 559) (U := fun _ => tz_s0) (x5 := tz_sc L xs 1) (sc := tz_sc L xs) (x4 := nI (12 + n0 % 21)) ⟨rfl, rfl⟩ hab
  obtain ⟨U2, l2⟩ := tz_turns (sc := tz_sc L xs) (N := 12 + n0 % 21) (tz_sc_N L xs) hab (by omega) 33 0 s1 U1 P1 J1 (Nat.zero_le _) (by omega)
  refine tl_bipush (v := 12) dL_law_16 (by decide) (tl_aload_n (q := 0) dL_law_18 rfl (tl_iconst (v := 0) dL_law_19 ic_0 (tz_cC dL_law_20 cs_L_law_213 hL (by decide) (CM := 1118) ⟨Nat.le_of_ble_eq_true rfl, Nat.le_of_ble_eq_true rfl⟩ (Nat.le_refl _) (Nat.le_of_ble_eq_true rfl) (fun x ex => ?_))))
  subst ex
  refine tl_bipush (v := 21) dL_law_23 (by decide) (tl_irem dL_law_25 (by decide) (tl_iadd dL_law_26 ?_))
  rw [eN]
  refine tl_istore_n (q := 3) dL_law_27 (Nat.le_of_ble_eq_true rfl) (tl_aload_n (q := 0) dL_law_28 rfl (tl_iconst (v := 1) dL_law_29 ic_1 (tz_cC dL_law_30 cs_L_law_213 hL (by decide) (CM := 1118) ⟨Nat.le_of_ble_eq_true rfl, Nat.le_of_ble_eq_true rfl⟩ (Nat.le_refl _) (Nat.le_of_ble_eq_true rfl) (fun x ex => ?_))))
  subst ex
  refine tl_istore (i := 4) dL_law_33 (Nat.le_of_ble_eq_true rfl) (tl_iconst (v := 1) dL_law_35 ic_1 (tl_istore (i := 5) dL_law_36 (Nat.le_of_ble_eq_true rfl) (tl_iconst (v := 0) dL_law_38 ic_0 (tl_istore (i := 6) dL_law_39 (Nat.le_of_ble_eq_true rfl) ?_))))
  refine lL_law_p41 (kE := 1130) 3 E.2.1 (E.2.1 + 559) (nI (12 + n0 % 21)) (tz_sc L xs 1) 1 0 (fun _ => tz_s0) (1, U1) 1118 (Or.inl rfl) (Or.inr rfl) l1 (Nat.le_refl _) hL (by decide) ?_
  refine tl_iconst (v := 0) dL_law_161 ic_0 (tl_istore (i := 6) dL_law_162 (Nat.le_of_ble_eq_true rfl) ?_)
  refine lL_law_p164 (kE := 315488) 33 E.2.1 (E.2.1 + 559) (nI (12 + n0 % 21)) 1 0 U1 (1, U2) 1130 (Or.inl rfl) (Or.inr rfl) l2 (Nat.le_refl _) hL (Nat.le_refl _) ?_
  exact tl_iload (i := 5) dL_law_329 rfl (tw_ret dL_law_331 (Nat.le_of_ble_eq_true rfl) (Nat.le_of_ble_eq_true rfl))
theorem tw_start {F : Nat → va_E} (hL : L ≤ 260) : tl_R E (mW nm) (tw_X E b L xs) lw_Z 0 0 (tl_G E F E.2.1) 0 [some (.ref b), none, none, none, none, none, none, none, none] [] := by
  refine tg_new (fs := [.null, .null, .null, .null, .null, .null, .null, .null]) tl_ck9 dL_law_0 kk_L_8 ia_X9 in_X9 (fun j hj => by rcases (show j = 0 ∨ j = 1 ∨ j = 2 ∨ j = 3 ∨ j = 4 ∨ j = 5 ∨ j = 6 ∨ j = 7 by omega) with rfl | rfl | rfl | rfl | rfl | rfl | rfl | rfl <;> rfl) (Nat.le_of_ble_eq_true rfl) (Nat.le_of_ble_eq_true rfl) ?_
  refine tl_dup dL_law_3 rfl ?_
  refine tg_callI (ct_X9 _ E.2.1 (Nat.le_refl _) (tz_T9 (Or.inl rfl)) (tl_fus _ _ _)) dL_law_4 cI_X9 ⟨(Nat.le_of_ble_eq_true rfl), (Nat.le_of_ble_eq_true rfl)⟩ (Nat.le_of_ble_eq_true rfl) ?_
  refine tl_astore_n (q := 1) dL_law_7 (Nat.le_of_ble_eq_true rfl) ?_
  refine tg_new (fs := [.null, .null, .null, .null, .null, .null, .null, .null]) tl_ck9 dL_law_8 kk_L_8 ia_X9 in_X9 (fun j hj => by rcases (show j = 0 ∨ j = 1 ∨ j = 2 ∨ j = 3 ∨ j = 4 ∨ j = 5 ∨ j = 6 ∨ j = 7 by omega) with rfl | rfl | rfl | rfl | rfl | rfl | rfl | rfl <;> rfl) (Nat.le_of_ble_eq_true rfl) (Nat.le_of_ble_eq_true rfl) ?_
  refine tl_dup dL_law_11 rfl ?_
  refine tg_callI (ct_X9 _ (E.2.1 + 559) (Nat.le_add_right _ _) (tz_T9 (Or.inr rfl)) (tl_fus _ _ _)) dL_law_12 cI_X9 ⟨(Nat.le_of_ble_eq_true rfl), (Nat.le_of_ble_eq_true rfl)⟩ (Nat.le_of_ble_eq_true rfl) ?_
  refine tl_astore_n (q := 2) dL_law_15 (Nat.le_of_ble_eq_true rfl) ?_
  exact tl_heap (HP2 := tz_HU E (fun _ => tz_s0)) (fun H hH => ⟨tl_u0 E.2.1, tz_A0 E, tw_HB hH⟩) (tl_widen (k2 := 1118) (n2 := 6 * 1118) (Nat.le_of_ble_eq_true rfl) (Nat.le_of_ble_eq_true rfl) (tw_main hL))
end TWL
theorem tw_prim {s : State} {args : Array Value} {ty : FieldType} (h : (Cond.arrayClass ty).before args s = true) : ∃ c : ClassId, ArrOfT s c ty ∧ s.vm.findClass ("[" ++ ty.toString) = some c := by
  obtain ⟨c, k, comp, h1, h2, h3⟩ := Cond.arrayClass_spec h
  exact ⟨c, fun n z => ⟨fun k h => (by cases h), k, h2, comp, h3⟩, h1⟩
theorem tw_obj {s : State} {args : Array Value} {C : String} (h : (Cond.arrayOver (.object C)).before args s = true) : ∃ c : ClassId, ArrOfT s c (.object C) ∧ va_RA s c (.object C) := by
  obtain ⟨comp, c, k, h1, h2, h3, h4, h5⟩ := Cond.arrayOver_spec h
  exact ⟨c, fun n z => ⟨fun k h => (by cases h), k, h3, comp, h4⟩, k, comp, h3, h4, h1, h5⟩
theorem tw_str {s : State} {args : Array Value} {own tx : String} {k : Nat} (h : (Cond.stringRef own k tx).before args s = true) (hx : (Cond.exactly (.string own k) "java/lang/String").before args s = true) : ∃ a, vk_R own k tx a s := by
  obtain ⟨a, c, cA, kA, q1, -⟩ := Cond.exactly_spec (args := args) (first := s) (o := none) (s := s) (idx := []) (t := .string own k) (cls := "java/lang/String") hx
  exact ⟨a, vk_R.of h q1⟩
theorem tw_wM : ∀ w ∈ tl_NM, Cond.methodLinkNest w.1 w.2.1 w.2.2 RX9 ∈ lw_tbl := by decide +kernel
theorem tw_wD : ∀ w ∈ tl_ND, Cond.declares w ∈ lw_tbl := by decide +kernel
theorem tw_wC : ∀ w ∈ tl_NC, Cond.castable w w ∈ lw_tbl := by decide +kernel
theorem tw_wA : ∀ w ∈ tl_NA, Cond.arrayOver (.object w) ∈ lw_tbl := by decide +kernel
theorem tw_wS1 : Cond.stringRef RX9 314 "there is no such thing" ∈ lw_tbl := by decide +kernel
theorem tw_wS2 : Cond.stringRef RX9 321 "an argument is out of its range" ∈ lw_tbl := by decide +kernel
theorem tw_wS3 : Cond.stringRef RX9 326 "this is not possible now" ∈ lw_tbl := by decide +kernel
theorem tw_wZ1 : Cond.laysStatic Bundle.tN "UNASSIGNED_STACK" Bundle.steD ∈ lw_tbl := by decide +kernel
theorem tw_wZ2 : Cond.laysStatic Bundle.tN "SUPPRESSED_SENTINEL" Bundle.listD ∈ lw_tbl := by decide +kernel
theorem tw_wZ3 : Cond.initialized Bundle.tN ∈ lw_tbl := by decide +kernel
theorem tw_gN : ∀ w ∈ tl_NC, ∀ v ∈ tl_NC, w ≠ v → Cond.not (.castable w v) ∈ flatC (Jvm.Cond.and given_1 narrow_1) := by decide +kernel
theorem tw_gS1 : Cond.exactly (.string RX9 314) "java/lang/String" ∈ flatC (Jvm.Cond.and given_1 narrow_1) := by decide +kernel
theorem tw_gS2 : Cond.exactly (.string RX9 321) "java/lang/String" ∈ flatC (Jvm.Cond.and given_1 narrow_1) := by decide +kernel
theorem tw_gS3 : Cond.exactly (.string RX9 326) "java/lang/String" ∈ flatC (Jvm.Cond.and given_1 narrow_1) := by decide +kernel
theorem tw_gZ1 : Cond.isRef (.static Bundle.tN "UNASSIGNED_STACK" Bundle.steD) ∈ flatC (Jvm.Cond.and given_1 narrow_1) := by decide +kernel
theorem tw_gZ2 : Cond.isRef (.static Bundle.tN "SUPPRESSED_SENTINEL" Bundle.listD) ∈ flatC (Jvm.Cond.and given_1 narrow_1) := by decide +kernel
theorem tw_KK {s : State} {b : Nat} (l : Launch) (hflags : l.flags = flags0) (hts : ∀ w ∈ lw_tbl, w.before #[Value.ref b] s = true) (hgv : (Jvm.Cond.and given_1 narrow_1).before #[Value.ref b] s = true) : ∃ (D : va_G) (dA : Nat → ClassId), tl_KK (l, s.heap.size, D, dA) s := by
  have hG : ∀ w ∈ tl_GW, w.before #[Value.ref b] s = true := fun w hw => hts w (List.mem_filter.mp hw).1
  have hg := flat_of_before _ hgv
  obtain ⟨c0, s0, k0⟩ := u_known (C := RX0) (T := TX0) (N := 5) (n := 5) hG tl_ck0.2.2.1 (hG _ ia_X0)
  obtain ⟨c1, s1, k1⟩ := u_known (C := RX1) (T := TX1) (N := 2) (n := 2) hG tl_ck1.2.2.1 (hG _ ia_X1)
  obtain ⟨c2, s2, k2⟩ := u_known (C := RX2) (T := TX2) (N := 3) (n := 3) hG tl_ck2.2.2.1 (hG _ ia_X2)
  obtain ⟨c3, s3, k3⟩ := u_known (C := RX3) (T := TX3) (N := 7) (n := 7) hG tl_ck3.2.2.1 (hG _ ia_X3)
  obtain ⟨c4, s4, k4⟩ := u_known (C := RX4) (T := TX4) (N := 4) (n := 4) hG tl_ck4.2.2.1 (hG _ ia_X4)
  obtain ⟨c5, s5, k5⟩ := u_known (C := RX5) (T := TX5) (N := 16) (n := 16) hG tl_ck5.2.2.1 (hG _ ia_X5)
  obtain ⟨c6, s6, k6⟩ := u_known (C := RX6) (T := TX6) (N := 3) (n := 3) hG tl_ck6.2.2.1 (hG _ ia_X6)
  obtain ⟨c7, s7, k7⟩ := u_known (C := RX7) (T := TX7) (N := 4) (n := 4) hG tl_ck7.2.2.1 (hG _ ia_X7)
  obtain ⟨c8, s8, k8⟩ := u_known (C := RX8) (T := TX8) (N := 5) (n := 5) hG tl_ck8.2.2.1 (hG _ ia_X8)
  obtain ⟨c9, s9, k9⟩ := u_known (C := RX9) (T := TX9) (N := 8) (n := 8) hG tl_ck9.2.2.1 (hG _ ia_X9)
  obtain ⟨a0, p0, q0⟩ := tw_prim (ty := .byte) (hG _ ac_byte)
  obtain ⟨a1, p1, q1⟩ := tw_prim (ty := .char) (hG _ ac_char)
  obtain ⟨a2, p2, q2⟩ := tw_prim (ty := .boolean) (hG _ ac_boolean)
  obtain ⟨a4, p4, q4⟩ := tw_obj (hts _ (tw_wA RX1 (by decide +kernel)))
  obtain ⟨a5, p5, q5⟩ := tw_obj (hts _ (tw_wA RX7 (by decide +kernel)))
  obtain ⟨a6, p6, q6⟩ := tw_obj (hts _ (tw_wA RX4 (by decide +kernel)))
  obtain ⟨a7, p7, q7⟩ := tw_obj (hts _ (tw_wA RX8 (by decide +kernel)))
  obtain ⟨a8, p8, q8⟩ := tw_obj (hts _ (tw_wA RX5 (by decide +kernel)))
  refine ⟨(fun k => [c0, c1, c2, c3, c4, c5, c6, c7, c8, c9].getD k 0, fun k => [s0, s1, s2, s3, s4, s5, s6, s7, s8, s9].getD k (fun _ => 0)), fun k => [a0, a1, a2, a0, a4, a5, a6, a7, a8].getD k 0, ⟨fun k q hq => ?_, fun k q hq => ?_⟩, fun C hC => va_AO.of (hts _ (tw_wA C hC)), fun w hw => va_Nw.of rfl (hts _ (tw_wM w hw)), fun w hw => va_Nw.of rfl (hts _ (tw_wD w hw)), fun w hw => va_Nw.of rfl (hts _ (tw_wC w hw)), ⟨vx_Zqof (hts _ tw_wZ1) (hts _ tw_wZ3) (hg _ tw_gZ1) (fun a h1 h2 => absurd h1 (Nat.not_lt.mpr h2)), vx_Zqof (hts _ tw_wZ2) (hts _ tw_wZ3) (hg _ tw_gZ2) (fun a h1 h2 => absurd h1 (Nat.not_lt.mpr h2))⟩, tw_str (hts _ tw_wS1) (hg _ tw_gS1), tw_str (hts _ tw_wS2) (hg _ tw_gS2), tw_str (hts _ tw_wS3) (hg _ tw_gS3), fun C hC D hD hne => va_Nc.of (hg _ (tw_gN C hC D hD hne)), ?_⟩
  · match k, hq with
    | 0, hq => cases hq; exact k0
    | 1, hq => cases hq; exact k1
    | 2, hq => cases hq; exact k2
    | 3, hq => cases hq; exact k3
    | 4, hq => cases hq; exact k4
    | 5, hq => cases hq; exact k5
    | 6, hq => cases hq; exact k6
    | 7, hq => cases hq; exact k7
    | 8, hq => cases hq; exact k8
    | 9, hq => cases hq; exact k9
    | k + 10, hq => cases hq
  · match k, hq with
    | 0, hq => cases hq; exact ⟨p0, q0⟩
    | 1, hq => cases hq; exact ⟨p1, q1⟩
    | 2, hq => cases hq; exact ⟨p2, q2⟩
    | 3, hq => cases hq; exact ⟨p0, q0⟩
    | 4, hq => cases hq; exact ⟨p4, q4⟩
    | 5, hq => cases hq; exact ⟨p5, q5⟩
    | 6, hq => cases hq; exact ⟨p6, q6⟩
    | 7, hq => cases hq; exact ⟨p7, q7⟩
    | 8, hq => cases hq; exact ⟨p8, q8⟩
    | k + 9, hq => cases hq
  · show l.stackTraces = false
    unfold Launch.stackTraces
    rw [hflags]
    decide +kernel
set_option maxHeartbeats 4000000 in
/-- THE LAW, from its entry -/
theorem whole_start {p : Program} {e : Env} {s : State} {m : MethodId} {below : List Frame} {meth : Method} {c : Code} (l : Launch) (hflags : l.flags = flags0) {b L : Nat} {xs : Nat → Int32} (hL : L ≤ 260) (C0 : lw_At p s m meth c b L xs) : W p l e room_1 s m #[Value.ref b] below meth c s.heap [] 0 0 (lw_Z below #[Value.ref b] s) (entryFrame m ([Value.ref b] : List Value).toArray 9) := by
  obtain ⟨hx, hb, hr, hml, hown, hts, hX, hbl, hlocks, hgv⟩ := C0
  obtain ⟨D, dA, hKK⟩ := tw_KK l hflags hts hgv
  have main := tw_start (E := (l, s.heap.size, D, dA)) (nm := meth.name) (b := b) (xs := xs) (F := fun _ => .inr (0, [])) hL
  rw [lg_entry_eq]
  exact main p e s m #[Value.ref b] below meth c ⟨hx, hb, hr, hml, hown, fun w hw => hts w (List.mem_filter.mp hw).1, hlocks, rfl, hKK, Nat.le_refl _⟩ ⟨rfl, hX, hbl, rfl⟩ s.heap _ [] ⟨rfl, fun q h1 h2 => absurd h1 (Nat.not_le.mpr h2)⟩ va_S.rf ⟨rfl, lv_entry ([.ref b]) (n := 9) (Nat.le_of_ble_eq_true rfl)⟩
