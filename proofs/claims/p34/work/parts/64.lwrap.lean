/-! The law's wrappers. -/
theorem tp_ro_l {e i p : Bool} {t : Nat} (h : tp_ro e i p = t) : t = 0 ∨ t ∈ [1, 2, 3] := by
  subst h
  revert e i p
  decide
theorem tz_cs2 {c : Prop} [Decidable c] {a b : Nat × Int32 × tz_S} {l : List Nat} (h1 : a.1 = 0 ∨ a.1 ∈ l) (h2 : b.1 = 0 ∨ b.1 ∈ l) : (if c then a else b).1 = 0 ∨ (if c then a else b).1 ∈ l := by
  by_cases h : c
  · rw [if_pos h]; exact h1
  · rw [if_neg h]; exact h2
theorem tz_act_l {q : Nat} {a b c d : Int32} {s : tz_S} {l : List Nat} (h : tp_rf q a b c d s.1 = 0 ∨ tp_rf q a b c d s.1 ∈ l) : (tz_act q a b c d s).1 = 0 ∨ (tz_act q a b c d s).1 ∈ l := by
  unfold tz_act
  exact tz_cs2 (Or.inl rfl) h
theorem tp_ro_2 {e p : Bool} (h : e = true) : tp_ro e true p = 0 ∨ tp_ro e true p = 3 := by subst h; revert p; decide
theorem tz_ro_e {i p : Bool} : tp_ro true i p = 0 ∨ tp_ro true i p ∈ [2, 3] := by revert i p; decide
theorem tz_ro_i {e p : Bool} : tp_ro e true p = 0 ∨ tp_ro e true p ∈ [1, 3] := by revert e p; decide
theorem tz_ro_p {e i : Bool} : tp_ro e i true = 0 ∨ tp_ro e i true ∈ [1, 2] := by revert e i; decide
theorem tz_ro_ip {e : Bool} : tp_ro e true true = 0 ∨ tp_ro e true true ∈ [1] := by revert e; decide
theorem tz_ro_ep {i : Bool} : tp_ro true i true = 0 ∨ tp_ro true i true ∈ [2] := by revert i; decide
theorem tz_ro_a {e i p : Bool} : tp_ro e i p = 0 ∨ tp_ro e i p ∈ [1, 2, 3] := by revert e i p; decide
def fL_lamps (a : Nat) (p0 : Int32) (p1 : Int32) (p2 : Int32) (p3 : Int32) (u : tz_U) : Option (Int32 × tz_U) := tz_o a (tz_act 4 p0 p1 p2 p3 (u a)) u
abbrev hL_lamps : tl_hs := [(0, 9, 10, 13), (0, 9, 15, 16), (0, 9, 20, 19)]
abbrev mL_lamps : tl_M := (yL_lamps, cL_lamps, 6, some .int, tl_rm 9 1 6)
theorem cw_L_lamps : tl_w9 mL_lamps hL_lamps ∈ tl_GW := tl_inGW (tl_in4 (List.mem_of_getElem? (i := 217) rfl)) rfl
theorem cs_L_lamps : tl_cV mL_lamps mX9_lamp 7 4 := ⟨cd_X9_lamp, ml_L_7, im_X9_lamp, se_X9_lamp, in_X9, ⟨by decide, by decide, by decide +kernel⟩, Nat.le_of_ble_eq_true rfl, Nat.le_of_ble_eq_true rfl⟩
theorem lL_lamps {E : tl_E} {a : Nat} {p0 : Int32} {p1 : Int32} {p2 : Int32} {p3 : Int32} {u : tz_U} {r : Int32} {v : tz_U} (h1 : tz_on E a) (h : fL_lamps a p0 p1 p2 p3 u = some (r, v)) : tz_MH E mL_lamps hL_lamps [.ref a, .int p0, .int p1, .int p2, .int p3] u r v := by
  unfold fL_lamps at h
  have hl : (tz_act 4 p0 p1 p2 p3 (u a)).1 = 0 ∨ (tz_act 4 p0 p1 p2 p3 (u a)).1 ∈ [1, 2, 3] := tz_act_l (show tp_ro _ _ _ = 0 ∨ tp_ro _ _ _ ∈ _ from tz_ro_a)
  cases h
  refine tl_startH [some (.ref a), some (.int p0), some (.int p1), some (.int p2), some (.int p3), none] rfl rfl rfl (Nat.le_of_ble_eq_true rfl) (tl_ex (fun u9 hA => ?_))
  obtain ⟨r9, v9, e, hr, hv⟩ := tz_clamp_ok h1 hA p0 p1 p2 p3
  refine tl_aload_n (q := 0) dL_lamps_0 rfl (tl_iload_n (q := 1) dL_lamps_1 rfl (tl_iload_n (q := 2) dL_lamps_2 rfl (tl_iload_n (q := 3) dL_lamps_3 rfl (tl_iload dL_lamps_4 rfl ?_))))
  exact tz_wend (As := [.int p0, .int p1, .int p2, .int p3]) (l := [1, 2, 3]) (l9_lamp (tz_T9 h1) e) (tz_T9 h1) hl rfl rfl dL_lamps_6 cs_L_lamps ⟨Nat.le_of_ble_eq_true rfl, Nat.le_of_ble_eq_true rfl⟩ dL_lamps_9 (List.forall_mem_cons.mpr ⟨⟨by decide, 10, ⟨[], [(0, 9, 15, 16), (0, 9, 20, 19)], 0, 9, 13, rfl, ⟨Nat.le_of_ble_eq_true rfl, Nat.le_of_ble_eq_true rfl⟩, by decide, kk_L_13, fun _ h => absurd h List.not_mem_nil⟩, ⟨12, 15, Or.inr ⟨5, dL_lamps_10, by decide, rfl⟩, dL_lamps_12, kc_L_15, dL_lamps_14⟩⟩, List.forall_mem_cons.mpr ⟨⟨by decide, 15, ⟨[(0, 9, 10, 13)], [(0, 9, 20, 19)], 0, 9, 16, rfl, ⟨Nat.le_of_ble_eq_true rfl, Nat.le_of_ble_eq_true rfl⟩, by decide, kk_L_16, List.forall_mem_cons.mpr ⟨⟨by decide, tl_xn 1, tl_xnC 1, kk_L_13, tl_x21⟩, fun _ h => absurd h List.not_mem_nil⟩⟩, ⟨17, 18, Or.inr ⟨5, dL_lamps_15, by decide, rfl⟩, dL_lamps_17, kc_L_18, dL_lamps_19⟩⟩, List.forall_mem_cons.mpr ⟨⟨by decide, 20, ⟨[(0, 9, 10, 13), (0, 9, 15, 16)], [], 0, 9, 19, rfl, ⟨Nat.le_of_ble_eq_true rfl, Nat.le_of_ble_eq_true rfl⟩, by decide, kk_L_19, List.forall_mem_cons.mpr ⟨⟨by decide, tl_xn 1, tl_xnC 1, kk_L_13, tl_x31⟩, List.forall_mem_cons.mpr ⟨⟨by decide, tl_xn 2, tl_xnC 2, kk_L_16, tl_x32⟩, fun _ h => absurd h List.not_mem_nil⟩⟩⟩, ⟨22, 21, Or.inr ⟨5, dL_lamps_20, by decide, rfl⟩, dL_lamps_22, kc_L_21, dL_lamps_24⟩⟩, fun _ h => absurd h List.not_mem_nil⟩⟩⟩) ⟨congrArg (fun x => some (Value.int x)) hr, hv⟩
def fL_ways (a : Nat) (p0 : Int32) (p1 : Int32) (p2 : Int32) (p3 : Int32) (u : tz_U) : Option (Int32 × tz_U) := tz_o a (tz_steps p0 p1 p2 p3 (u a)) u
abbrev hL_ways : tl_hs := [(0, 9, 10, 13)]
abbrev mL_ways : tl_M := (yL_ways, cL_ways, 6, some .int, tl_rm 9 1 6)
theorem cw_L_ways : tl_w9 mL_ways hL_ways ∈ tl_GW := tl_inGW (tl_in4 (List.mem_of_getElem? (i := 224) rfl)) rfl
theorem cs_L_ways : tl_cV mL_ways mX9_steps 22 4 := ⟨cd_X9_steps, ml_L_22, im_X9_steps, se_X9_steps, in_X9, ⟨by decide, by decide, by decide +kernel⟩, Nat.le_of_ble_eq_true rfl, Nat.le_of_ble_eq_true rfl⟩
theorem lL_ways {E : tl_E} {a : Nat} {p0 : Int32} {p1 : Int32} {p2 : Int32} {p3 : Int32} {u : tz_U} {r : Int32} {v : tz_U} (h1 : tz_on E a) (h : fL_ways a p0 p1 p2 p3 u = some (r, v)) : tz_MH E mL_ways hL_ways [.ref a, .int p0, .int p1, .int p2, .int p3] u r v := by
  unfold fL_ways at h
  have hl : (tz_steps p0 p1 p2 p3 (u a)).1 = 0 ∨ (tz_steps p0 p1 p2 p3 (u a)).1 ∈ [1] := tz_cs2 (Or.inl rfl) (Or.inr (show 1 ∈ [1] by decide))
  cases h
  refine tl_startH [some (.ref a), some (.int p0), some (.int p1), some (.int p2), some (.int p3), none] rfl rfl rfl (Nat.le_of_ble_eq_true rfl) (tl_ex (fun u9 hA => ?_))
  obtain ⟨r9, v9, e, hr, hv⟩ := tz_steps_ok h1 hA p0 p1 p2 p3
  refine tl_aload_n (q := 0) dL_ways_0 rfl (tl_iload_n (q := 1) dL_ways_1 rfl (tl_iload_n (q := 2) dL_ways_2 rfl (tl_iload_n (q := 3) dL_ways_3 rfl (tl_iload dL_ways_4 rfl ?_))))
  exact tz_wend (As := [.int p0, .int p1, .int p2, .int p3]) (l := [1]) (l9_steps (tz_T9 h1) e) (tz_T9 h1) hl rfl rfl dL_ways_6 cs_L_ways ⟨Nat.le_of_ble_eq_true rfl, Nat.le_of_ble_eq_true rfl⟩ dL_ways_9 (List.forall_mem_cons.mpr ⟨⟨by decide, 10, ⟨[], [], 0, 9, 13, rfl, ⟨Nat.le_of_ble_eq_true rfl, Nat.le_of_ble_eq_true rfl⟩, by decide, kk_L_13, fun _ h => absurd h List.not_mem_nil⟩, ⟨12, 15, Or.inr ⟨5, dL_ways_10, by decide, rfl⟩, dL_ways_12, kc_L_15, dL_ways_14⟩⟩, fun _ h => absurd h List.not_mem_nil⟩) ⟨congrArg (fun x => some (Value.int x)) hr, hv⟩
def fL_doScript (a : Nat) (p0 : Int32) (p1 : Int64) (u : tz_U) : Option (Int32 × tz_U) := tz_oo a (tz_script p0 p1 (u a)) u
abbrev hL_doScript : tl_hs := [(0, 6, 7, 16)]
abbrev mL_doScript : tl_M := (yL_doScript, cL_doScript, 5, some .int, tl_rm 9 1 6)
theorem cw_L_doScript : tl_w9 mL_doScript hL_doScript ∈ tl_GW := tl_inGW (tl_in4 (List.mem_of_getElem? (i := 235) rfl)) rfl
theorem cs_L_doScript : tl_cV mL_doScript mX9_runScript 25 2 := ⟨cd_X9_runScript, ml_L_25, im_X9_runScript, se_X9_runScript, in_X9, ⟨by decide, by decide, by decide +kernel⟩, Nat.le_of_ble_eq_true rfl, Nat.le_of_ble_eq_true rfl⟩
theorem lL_doScript {E : tl_E} {a : Nat} {p0 : Int32} {p1 : Int64} {u : tz_U} {r : Int32} {v : tz_U} (h1 : tz_on E a) (h : fL_doScript a p0 p1 u = some (r, v)) : tz_MH E mL_doScript hL_doScript [.ref a, .int p0, .long p1] u r v := by
  unfold fL_doScript at h
  rcases e9 : tz_script p0 p1 (u a) with _ | p9
  · rw [e9] at h; cases h
  rw [e9] at h
  have hl : p9.1 = 0 ∨ p9.1 ∈ [2] := by
    unfold tz_script at e9
    split at e9 <;> first | (cases e9; exact Or.inr (show 2 ∈ [2] by decide)) | cases e9
  cases h
  refine tl_startH [some (.ref a), some (.int p0), some (.long p1), none, none] rfl rfl rfl (Nat.le_of_ble_eq_true rfl) (tl_ex (fun u9 hA => ?_))
  obtain ⟨r9, v9, e, hr, hv⟩ := tz_script_ok h1 hA p0 p1 e9
  refine tl_aload_n (q := 0) dL_doScript_0 rfl (tl_iload_n (q := 1) dL_doScript_1 rfl (tl_lload_n (q := 2) dL_doScript_2 rfl ?_))
  exact tz_wend (As := [.int p0, .long p1]) (l := [2]) (l9_runScript (tz_T9 h1) e) (tz_T9 h1) hl rfl rfl dL_doScript_3 cs_L_doScript ⟨Nat.le_of_ble_eq_true rfl, Nat.le_of_ble_eq_true rfl⟩ dL_doScript_6 (List.forall_mem_cons.mpr ⟨⟨by decide, 7, ⟨[], [], 0, 6, 16, rfl, ⟨Nat.le_of_ble_eq_true rfl, Nat.le_of_ble_eq_true rfl⟩, by decide, kk_L_16, fun _ h => absurd h List.not_mem_nil⟩, ⟨9, 18, Or.inr ⟨4, dL_doScript_7, by decide, rfl⟩, dL_doScript_9, kc_L_18, dL_doScript_11⟩⟩, fun _ h => absurd h List.not_mem_nil⟩) ⟨congrArg (fun x => some (Value.int x)) hr, hv⟩
def fL_doSimulate (a : Nat) (p0 : Int64) (p1 : Int32) (u : tz_U) : Option (Int32 × tz_U) := tz_o a (tz_sim p0 p1 (u a)) u
abbrev hL_doSimulate : tl_hs := [(0, 6, 7, 16)]
abbrev mL_doSimulate : tl_M := (yL_doSimulate, cL_doSimulate, 5, some .int, tl_rm 9 1 6)
theorem cw_L_doSimulate : tl_w9 mL_doSimulate hL_doSimulate ∈ tl_GW := tl_inGW (tl_in5 (List.mem_of_getElem? (i := 23) rfl)) rfl
theorem cs_L_doSimulate : tl_cV mL_doSimulate mX9_simulate 29 2 := ⟨cd_X9_simulate, ml_L_29, im_X9_simulate, se_X9_simulate, in_X9, ⟨by decide, by decide, by decide +kernel⟩, Nat.le_of_ble_eq_true rfl, Nat.le_of_ble_eq_true rfl⟩
theorem lL_doSimulate {E : tl_E} {a : Nat} {p0 : Int64} {p1 : Int32} {u : tz_U} {r : Int32} {v : tz_U} (h1 : tz_on E a) (h : fL_doSimulate a p0 p1 u = some (r, v)) : tz_MH E mL_doSimulate hL_doSimulate [.ref a, .long p0, .int p1] u r v := by
  unfold fL_doSimulate at h
  have hl : (tz_sim p0 p1 (u a)).1 = 0 ∨ (tz_sim p0 p1 (u a)).1 ∈ [2] := tz_cs2 (Or.inl rfl) (Or.inr (show 2 ∈ [2] by decide))
  cases h
  refine tl_startH [some (.ref a), some (.long p0), none, some (.int p1), none] rfl rfl rfl (Nat.le_of_ble_eq_true rfl) (tl_ex (fun u9 hA => ?_))
  obtain ⟨r9, v9, e, hr, hv⟩ := tz_sim_ok h1 hA p0 p1
  refine tl_aload_n (q := 0) dL_doSimulate_0 rfl (tl_lload_n (q := 1) dL_doSimulate_1 rfl (tl_iload_n (q := 3) dL_doSimulate_2 rfl ?_))
  exact tz_wend (As := [.long p0, .int p1]) (l := [2]) (l9_simulate (tz_T9 h1) e) (tz_T9 h1) hl rfl rfl dL_doSimulate_3 cs_L_doSimulate ⟨Nat.le_of_ble_eq_true rfl, Nat.le_of_ble_eq_true rfl⟩ dL_doSimulate_6 (List.forall_mem_cons.mpr ⟨⟨by decide, 7, ⟨[], [], 0, 6, 16, rfl, ⟨Nat.le_of_ble_eq_true rfl, Nat.le_of_ble_eq_true rfl⟩, by decide, kk_L_16, fun _ h => absurd h List.not_mem_nil⟩, ⟨9, 18, Or.inr ⟨4, dL_doSimulate_7, by decide, rfl⟩, dL_doSimulate_9, kc_L_18, dL_doSimulate_11⟩⟩, fun _ h => absurd h List.not_mem_nil⟩) ⟨congrArg (fun x => some (Value.int x)) hr, hv⟩
def fL_tryAppend (a : Nat) (p0 : Int32) (u : tz_U) : Option (Int32 × tz_U) := tz_oo a (tz_append p0 (u a)) u
abbrev hL_tryAppend : tl_hs := [(0, 5, 6, 16), (0, 5, 10, 19)]
abbrev mL_tryAppend : tl_M := (yL_tryAppend, cL_tryAppend, 3, some .int, tl_rm 9 1 6)
theorem cw_L_tryAppend : tl_w9 mL_tryAppend hL_tryAppend ∈ tl_GW := tl_inGW (tl_in2 (List.mem_of_getElem? (i := 106) rfl)) rfl
theorem cs_L_tryAppend : tl_cV mL_tryAppend mX9_append 33 1 := ⟨cd_X9_append, ml_L_33, im_X9_append, se_X9_append, in_X9, ⟨by decide, by decide, by decide +kernel⟩, Nat.le_of_ble_eq_true rfl, Nat.le_of_ble_eq_true rfl⟩
theorem lL_tryAppend {E : tl_E} {a : Nat} {p0 : Int32} {u : tz_U} {r : Int32} {v : tz_U} (h1 : tz_on E a) (h : fL_tryAppend a p0 u = some (r, v)) : tz_MH E mL_tryAppend hL_tryAppend [.ref a, .int p0] u r v := by
  unfold fL_tryAppend at h
  rcases e9 : tz_append p0 (u a) with _ | p9
  · rw [e9] at h; cases h
  rw [e9] at h
  have hl : p9.1 = 0 ∨ p9.1 ∈ [2, 3] := by
    unfold tz_append at e9
    split at e9 <;> first | (cases e9; exact Or.inr (show 2 ∈ [2, 3] by decide)) | cases e9
  cases h
  refine tl_startH [some (.ref a), some (.int p0), none] rfl rfl rfl (Nat.le_of_ble_eq_true rfl) (tl_ex (fun u9 hA => ?_))
  obtain ⟨r9, v9, e, hr, hv⟩ := tz_append_ok h1 hA p0 e9
  refine tl_aload_n (q := 0) dL_tryAppend_0 rfl (tl_iload_n (q := 1) dL_tryAppend_1 rfl ?_)
  exact tz_wend (As := [.int p0]) (l := [2, 3]) (l9_append (tz_T9 h1) e) (tz_T9 h1) hl rfl rfl dL_tryAppend_2 cs_L_tryAppend ⟨Nat.le_of_ble_eq_true rfl, Nat.le_of_ble_eq_true rfl⟩ dL_tryAppend_5 (List.forall_mem_cons.mpr ⟨⟨by decide, 6, ⟨[], [(0, 5, 10, 19)], 0, 5, 16, rfl, ⟨Nat.le_of_ble_eq_true rfl, Nat.le_of_ble_eq_true rfl⟩, by decide, kk_L_16, fun _ h => absurd h List.not_mem_nil⟩, ⟨7, 18, Or.inl ⟨2, dL_tryAppend_6, by decide, rfl⟩, dL_tryAppend_7, kc_L_18, dL_tryAppend_9⟩⟩, List.forall_mem_cons.mpr ⟨⟨by decide, 10, ⟨[(0, 5, 6, 16)], [], 0, 5, 19, rfl, ⟨Nat.le_of_ble_eq_true rfl, Nat.le_of_ble_eq_true rfl⟩, by decide, kk_L_19, List.forall_mem_cons.mpr ⟨⟨by decide, tl_xn 2, tl_xnC 2, kk_L_16, tl_x32⟩, fun _ h => absurd h List.not_mem_nil⟩⟩, ⟨11, 21, Or.inl ⟨2, dL_tryAppend_10, by decide, rfl⟩, dL_tryAppend_11, kc_L_21, dL_tryAppend_13⟩⟩, fun _ h => absurd h List.not_mem_nil⟩⟩) ⟨congrArg (fun x => some (Value.int x)) hr, hv⟩
def fL_tryAbout (a : Nat) (p0 : Int32) (u : tz_U) : Option (Int32 × tz_U) := tz_o a (tz_about p0 (u a)) u
abbrev hL_tryAbout : tl_hs := [(0, 5, 6, 16)]
abbrev mL_tryAbout : tl_M := (yL_tryAbout, cL_tryAbout, 3, some .int, tl_rm 9 1 6)
theorem cw_L_tryAbout : tl_w9 mL_tryAbout hL_tryAbout ∈ tl_GW := tl_inGW (tl_in4 (List.mem_of_getElem? (i := 7) rfl)) rfl
theorem cs_L_tryAbout : tl_cV mL_tryAbout mX9_about 41 1 := ⟨cd_X9_about, ml_L_41, im_X9_about, se_X9_about, in_X9, ⟨by decide, by decide, by decide +kernel⟩, Nat.le_of_ble_eq_true rfl, Nat.le_of_ble_eq_true rfl⟩
theorem lL_tryAbout {E : tl_E} {a : Nat} {p0 : Int32} {u : tz_U} {r : Int32} {v : tz_U} (h1 : tz_on E a) (h : fL_tryAbout a p0 u = some (r, v)) : tz_MH E mL_tryAbout hL_tryAbout [.ref a, .int p0] u r v := by
  unfold fL_tryAbout at h
  have hl : (tz_about p0 (u a)).1 = 0 ∨ (tz_about p0 (u a)).1 ∈ [2] := tz_cs2 (Or.inl rfl) (Or.inr (show 2 ∈ [2] by decide))
  cases h
  refine tl_startH [some (.ref a), some (.int p0), none] rfl rfl rfl (Nat.le_of_ble_eq_true rfl) (tl_ex (fun u9 hA => ?_))
  obtain ⟨r9, v9, e, hr, hv⟩ := tz_about_ok h1 hA p0
  refine tl_aload_n (q := 0) dL_tryAbout_0 rfl (tl_iload_n (q := 1) dL_tryAbout_1 rfl ?_)
  exact tz_wend (As := [.int p0]) (l := [2]) (l9_about (tz_T9 h1) e) (tz_T9 h1) hl rfl rfl dL_tryAbout_2 cs_L_tryAbout ⟨Nat.le_of_ble_eq_true rfl, Nat.le_of_ble_eq_true rfl⟩ dL_tryAbout_5 (List.forall_mem_cons.mpr ⟨⟨by decide, 6, ⟨[], [], 0, 5, 16, rfl, ⟨Nat.le_of_ble_eq_true rfl, Nat.le_of_ble_eq_true rfl⟩, by decide, kk_L_16, fun _ h => absurd h List.not_mem_nil⟩, ⟨7, 18, Or.inl ⟨2, dL_tryAbout_6, by decide, rfl⟩, dL_tryAbout_7, kc_L_18, dL_tryAbout_9⟩⟩, fun _ h => absurd h List.not_mem_nil⟩) ⟨congrArg (fun x => some (Value.int x)) hr, hv⟩
def fL_tryTold (a : Nat) (p0 : Int32) (p1 : Int32) (u : tz_U) : Option (Int32 × tz_U) := tz_o a (tz_told p0 p1 (u a)) u
abbrev hL_tryTold : tl_hs := [(0, 6, 7, 13), (0, 6, 11, 16)]
abbrev mL_tryTold : tl_M := (yL_tryTold, cL_tryTold, 4, some .int, tl_rm 9 1 6)
theorem cw_L_tryTold : tl_w9 mL_tryTold hL_tryTold ∈ tl_GW := tl_inGW (tl_in4 (List.mem_of_getElem? (i := 18) rfl)) rfl
theorem cs_L_tryTold : tl_cV mL_tryTold mX9_galleryOf 44 2 := ⟨cd_X9_galleryOf, ml_L_44, im_X9_galleryOf, se_X9_galleryOf, in_X9, ⟨by decide, by decide, by decide +kernel⟩, Nat.le_of_ble_eq_true rfl, Nat.le_of_ble_eq_true rfl⟩
theorem lL_tryTold {E : tl_E} {a : Nat} {p0 : Int32} {p1 : Int32} {u : tz_U} {r : Int32} {v : tz_U} (h1 : tz_on E a) (h : fL_tryTold a p0 p1 u = some (r, v)) : tz_MH E mL_tryTold hL_tryTold [.ref a, .int p0, .int p1] u r v := by
  unfold fL_tryTold at h
  have hl : (tz_told p0 p1 (u a)).1 = 0 ∨ (tz_told p0 p1 (u a)).1 ∈ [1, 2] := tz_cs2 (tz_cs2 (Or.inl rfl) (Or.inr (show 2 ∈ [1, 2] by decide))) (Or.inr (show 1 ∈ [1, 2] by decide))
  cases h
  refine tl_startH [some (.ref a), some (.int p0), some (.int p1), none] rfl rfl rfl (Nat.le_of_ble_eq_true rfl) (tl_ex (fun u9 hA => ?_))
  obtain ⟨r9, v9, e, hr, hv⟩ := tz_told_ok h1 hA p0 p1
  refine tl_aload_n (q := 0) dL_tryTold_0 rfl (tl_iload_n (q := 1) dL_tryTold_1 rfl (tl_iload_n (q := 2) dL_tryTold_2 rfl ?_))
  exact tz_wend (As := [.int p0, .int p1]) (l := [1, 2]) (l9_galleryOf (tz_T9 h1) e) (tz_T9 h1) hl rfl rfl dL_tryTold_3 cs_L_tryTold ⟨Nat.le_of_ble_eq_true rfl, Nat.le_of_ble_eq_true rfl⟩ dL_tryTold_6 (List.forall_mem_cons.mpr ⟨⟨by decide, 7, ⟨[], [(0, 6, 11, 16)], 0, 6, 13, rfl, ⟨Nat.le_of_ble_eq_true rfl, Nat.le_of_ble_eq_true rfl⟩, by decide, kk_L_13, fun _ h => absurd h List.not_mem_nil⟩, ⟨8, 15, Or.inl ⟨3, dL_tryTold_7, by decide, rfl⟩, dL_tryTold_8, kc_L_15, dL_tryTold_10⟩⟩, List.forall_mem_cons.mpr ⟨⟨by decide, 11, ⟨[(0, 6, 7, 13)], [], 0, 6, 16, rfl, ⟨Nat.le_of_ble_eq_true rfl, Nat.le_of_ble_eq_true rfl⟩, by decide, kk_L_16, List.forall_mem_cons.mpr ⟨⟨by decide, tl_xn 1, tl_xnC 1, kk_L_13, tl_x21⟩, fun _ h => absurd h List.not_mem_nil⟩⟩, ⟨12, 18, Or.inl ⟨3, dL_tryTold_11, by decide, rfl⟩, dL_tryTold_12, kc_L_18, dL_tryTold_14⟩⟩, fun _ h => absurd h List.not_mem_nil⟩⟩) ⟨congrArg (fun x => some (Value.int x)) hr, hv⟩
def fL_tryWorker (a : Nat) (p0 : Int32) (p1 : Int32) (u : tz_U) : Option (Int32 × tz_U) := tz_o a (tz_worker p0 p1 (u a)) u
abbrev hL_tryWorker : tl_hs := [(0, 6, 7, 13), (0, 6, 11, 16)]
abbrev mL_tryWorker : tl_M := (yL_tryWorker, cL_tryWorker, 4, some .int, tl_rm 9 1 6)
theorem cw_L_tryWorker : tl_w9 mL_tryWorker hL_tryWorker ∈ tl_GW := tl_inGW (tl_in4 (List.mem_of_getElem? (i := 35) rfl)) rfl
theorem cs_L_tryWorker : tl_cV mL_tryWorker mX9_minerOf 48 2 := ⟨cd_X9_minerOf, ml_L_48, im_X9_minerOf, se_X9_minerOf, in_X9, ⟨by decide, by decide, by decide +kernel⟩, Nat.le_of_ble_eq_true rfl, Nat.le_of_ble_eq_true rfl⟩
theorem lL_tryWorker {E : tl_E} {a : Nat} {p0 : Int32} {p1 : Int32} {u : tz_U} {r : Int32} {v : tz_U} (h1 : tz_on E a) (h : fL_tryWorker a p0 p1 u = some (r, v)) : tz_MH E mL_tryWorker hL_tryWorker [.ref a, .int p0, .int p1] u r v := by
  unfold fL_tryWorker at h
  have hl : (tz_worker p0 p1 (u a)).1 = 0 ∨ (tz_worker p0 p1 (u a)).1 ∈ [1, 2] := tz_cs2 (tz_cs2 (Or.inl rfl) (Or.inr (show 2 ∈ [1, 2] by decide))) (Or.inr (show 1 ∈ [1, 2] by decide))
  cases h
  refine tl_startH [some (.ref a), some (.int p0), some (.int p1), none] rfl rfl rfl (Nat.le_of_ble_eq_true rfl) (tl_ex (fun u9 hA => ?_))
  obtain ⟨r9, v9, e, hr, hv⟩ := tz_worker_ok h1 hA p0 p1
  refine tl_aload_n (q := 0) dL_tryWorker_0 rfl (tl_iload_n (q := 1) dL_tryWorker_1 rfl (tl_iload_n (q := 2) dL_tryWorker_2 rfl ?_))
  exact tz_wend (As := [.int p0, .int p1]) (l := [1, 2]) (l9_minerOf (tz_T9 h1) e) (tz_T9 h1) hl rfl rfl dL_tryWorker_3 cs_L_tryWorker ⟨Nat.le_of_ble_eq_true rfl, Nat.le_of_ble_eq_true rfl⟩ dL_tryWorker_6 (List.forall_mem_cons.mpr ⟨⟨by decide, 7, ⟨[], [(0, 6, 11, 16)], 0, 6, 13, rfl, ⟨Nat.le_of_ble_eq_true rfl, Nat.le_of_ble_eq_true rfl⟩, by decide, kk_L_13, fun _ h => absurd h List.not_mem_nil⟩, ⟨8, 15, Or.inl ⟨3, dL_tryWorker_7, by decide, rfl⟩, dL_tryWorker_8, kc_L_15, dL_tryWorker_10⟩⟩, List.forall_mem_cons.mpr ⟨⟨by decide, 11, ⟨[(0, 6, 7, 13)], [], 0, 6, 16, rfl, ⟨Nat.le_of_ble_eq_true rfl, Nat.le_of_ble_eq_true rfl⟩, by decide, kk_L_16, List.forall_mem_cons.mpr ⟨⟨by decide, tl_xn 1, tl_xnC 1, kk_L_13, tl_x21⟩, fun _ h => absurd h List.not_mem_nil⟩⟩, ⟨12, 18, Or.inl ⟨3, dL_tryWorker_11, by decide, rfl⟩, dL_tryWorker_12, kc_L_18, dL_tryWorker_14⟩⟩, fun _ h => absurd h List.not_mem_nil⟩⟩) ⟨congrArg (fun x => some (Value.int x)) hr, hv⟩
def fL_tryGlow (a : Nat) (p0 : Int32) (p1 : Int32) (u : tz_U) : Option (Int32 × tz_U) := tz_o a (tz_glow p0 p1 (u a)) u
abbrev hL_tryGlow : tl_hs := [(0, 6, 7, 13), (0, 6, 11, 16)]
abbrev mL_tryGlow : tl_M := (yL_tryGlow, cL_tryGlow, 4, some .int, tl_rm 9 1 6)
theorem cw_L_tryGlow : tl_w9 mL_tryGlow hL_tryGlow ∈ tl_GW := tl_inGW (tl_in4 (List.mem_of_getElem? (i := 43) rfl)) rfl
theorem cs_L_tryGlow : tl_cV mL_tryGlow mX9_lampOf 51 2 := ⟨cd_X9_lampOf, ml_L_51, im_X9_lampOf, se_X9_lampOf, in_X9, ⟨by decide, by decide, by decide +kernel⟩, Nat.le_of_ble_eq_true rfl, Nat.le_of_ble_eq_true rfl⟩
theorem lL_tryGlow {E : tl_E} {a : Nat} {p0 : Int32} {p1 : Int32} {u : tz_U} {r : Int32} {v : tz_U} (h1 : tz_on E a) (h : fL_tryGlow a p0 p1 u = some (r, v)) : tz_MH E mL_tryGlow hL_tryGlow [.ref a, .int p0, .int p1] u r v := by
  unfold fL_tryGlow at h
  have hl : (tz_glow p0 p1 (u a)).1 = 0 ∨ (tz_glow p0 p1 (u a)).1 ∈ [1, 2] := tz_cs2 (tz_cs2 (Or.inl rfl) (Or.inr (show 2 ∈ [1, 2] by decide))) (Or.inr (show 1 ∈ [1, 2] by decide))
  cases h
  refine tl_startH [some (.ref a), some (.int p0), some (.int p1), none] rfl rfl rfl (Nat.le_of_ble_eq_true rfl) (tl_ex (fun u9 hA => ?_))
  obtain ⟨r9, v9, e, hr, hv⟩ := tz_glow_ok h1 hA p0 p1
  refine tl_aload_n (q := 0) dL_tryGlow_0 rfl (tl_iload_n (q := 1) dL_tryGlow_1 rfl (tl_iload_n (q := 2) dL_tryGlow_2 rfl ?_))
  exact tz_wend (As := [.int p0, .int p1]) (l := [1, 2]) (l9_lampOf (tz_T9 h1) e) (tz_T9 h1) hl rfl rfl dL_tryGlow_3 cs_L_tryGlow ⟨Nat.le_of_ble_eq_true rfl, Nat.le_of_ble_eq_true rfl⟩ dL_tryGlow_6 (List.forall_mem_cons.mpr ⟨⟨by decide, 7, ⟨[], [(0, 6, 11, 16)], 0, 6, 13, rfl, ⟨Nat.le_of_ble_eq_true rfl, Nat.le_of_ble_eq_true rfl⟩, by decide, kk_L_13, fun _ h => absurd h List.not_mem_nil⟩, ⟨8, 15, Or.inl ⟨3, dL_tryGlow_7, by decide, rfl⟩, dL_tryGlow_8, kc_L_15, dL_tryGlow_10⟩⟩, List.forall_mem_cons.mpr ⟨⟨by decide, 11, ⟨[(0, 6, 7, 13)], [], 0, 6, 16, rfl, ⟨Nat.le_of_ble_eq_true rfl, Nat.le_of_ble_eq_true rfl⟩, by decide, kk_L_16, List.forall_mem_cons.mpr ⟨⟨by decide, tl_xn 1, tl_xnC 1, kk_L_13, tl_x21⟩, fun _ h => absurd h List.not_mem_nil⟩⟩, ⟨12, 18, Or.inl ⟨3, dL_tryGlow_11, by decide, rfl⟩, dL_tryGlow_12, kc_L_18, dL_tryGlow_14⟩⟩, fun _ h => absurd h List.not_mem_nil⟩⟩) ⟨congrArg (fun x => some (Value.int x)) hr, hv⟩
def fL_tryLad (a : Nat) (p0 : Int32) (u : tz_U) : Option (Int32 × tz_U) := tz_o a (tz_lad p0 (u a)) u
abbrev hL_tryLad : tl_hs := [(0, 5, 6, 16)]
abbrev mL_tryLad : tl_M := (yL_tryLad, cL_tryLad, 3, some .int, tl_rm 9 1 6)
theorem cw_L_tryLad : tl_w9 mL_tryLad hL_tryLad ∈ tl_GW := tl_inGW (tl_in4 (List.mem_of_getElem? (i := 51) rfl)) rfl
theorem cs_L_tryLad : tl_cV mL_tryLad mX9_lad 54 1 := ⟨cd_X9_lad, ml_L_54, im_X9_lad, se_X9_lad, in_X9, ⟨by decide, by decide, by decide +kernel⟩, Nat.le_of_ble_eq_true rfl, Nat.le_of_ble_eq_true rfl⟩
theorem lL_tryLad {E : tl_E} {a : Nat} {p0 : Int32} {u : tz_U} {r : Int32} {v : tz_U} (h1 : tz_on E a) (h : fL_tryLad a p0 u = some (r, v)) : tz_MH E mL_tryLad hL_tryLad [.ref a, .int p0] u r v := by
  unfold fL_tryLad at h
  have hl : (tz_lad p0 (u a)).1 = 0 ∨ (tz_lad p0 (u a)).1 ∈ [2] := tz_cs2 (Or.inl rfl) (Or.inr (show 2 ∈ [2] by decide))
  cases h
  refine tl_startH [some (.ref a), some (.int p0), none] rfl rfl rfl (Nat.le_of_ble_eq_true rfl) (tl_ex (fun u9 hA => ?_))
  obtain ⟨r9, v9, e, hr, hv⟩ := tz_lad_ok h1 hA p0
  refine tl_aload_n (q := 0) dL_tryLad_0 rfl (tl_iload_n (q := 1) dL_tryLad_1 rfl ?_)
  exact tz_wend (As := [.int p0]) (l := [2]) (l9_lad (tz_T9 h1) e) (tz_T9 h1) hl rfl rfl dL_tryLad_2 cs_L_tryLad ⟨Nat.le_of_ble_eq_true rfl, Nat.le_of_ble_eq_true rfl⟩ dL_tryLad_5 (List.forall_mem_cons.mpr ⟨⟨by decide, 6, ⟨[], [], 0, 5, 16, rfl, ⟨Nat.le_of_ble_eq_true rfl, Nat.le_of_ble_eq_true rfl⟩, by decide, kk_L_16, fun _ h => absurd h List.not_mem_nil⟩, ⟨7, 18, Or.inl ⟨2, dL_tryLad_6, by decide, rfl⟩, dL_tryLad_7, kc_L_18, dL_tryLad_9⟩⟩, fun _ h => absurd h List.not_mem_nil⟩) ⟨congrArg (fun x => some (Value.int x)) hr, hv⟩
def fL_tryOrder (a : Nat) (p0 : Int32) (p1 : Int32) (u : tz_U) : Option (Int32 × tz_U) := tz_o a (tz_order p0 p1 (u a)) u
abbrev hL_tryOrder : tl_hs := [(0, 6, 7, 13), (0, 6, 11, 16)]
abbrev mL_tryOrder : tl_M := (yL_tryOrder, cL_tryOrder, 4, some .int, tl_rm 9 1 6)
theorem cw_L_tryOrder : tl_w9 mL_tryOrder hL_tryOrder ∈ tl_GW := tl_inGW (tl_in4 (List.mem_of_getElem? (i := 59) rfl)) rfl
theorem cs_L_tryOrder : tl_cV mL_tryOrder mX9_orderOf 57 2 := ⟨cd_X9_orderOf, ml_L_57, im_X9_orderOf, se_X9_orderOf, in_X9, ⟨by decide, by decide, by decide +kernel⟩, Nat.le_of_ble_eq_true rfl, Nat.le_of_ble_eq_true rfl⟩
theorem lL_tryOrder {E : tl_E} {a : Nat} {p0 : Int32} {p1 : Int32} {u : tz_U} {r : Int32} {v : tz_U} (h1 : tz_on E a) (h : fL_tryOrder a p0 p1 u = some (r, v)) : tz_MH E mL_tryOrder hL_tryOrder [.ref a, .int p0, .int p1] u r v := by
  unfold fL_tryOrder at h
  have hl : (tz_order p0 p1 (u a)).1 = 0 ∨ (tz_order p0 p1 (u a)).1 ∈ [1, 2] := tz_cs2 (tz_cs2 (Or.inl rfl) (Or.inr (show 2 ∈ [1, 2] by decide))) (Or.inr (show 1 ∈ [1, 2] by decide))
  cases h
  refine tl_startH [some (.ref a), some (.int p0), some (.int p1), none] rfl rfl rfl (Nat.le_of_ble_eq_true rfl) (tl_ex (fun u9 hA => ?_))
  obtain ⟨r9, v9, e, hr, hv⟩ := tz_order_ok h1 hA p0 p1
  refine tl_aload_n (q := 0) dL_tryOrder_0 rfl (tl_iload_n (q := 1) dL_tryOrder_1 rfl (tl_iload_n (q := 2) dL_tryOrder_2 rfl ?_))
  exact tz_wend (As := [.int p0, .int p1]) (l := [1, 2]) (l9_orderOf (tz_T9 h1) e) (tz_T9 h1) hl rfl rfl dL_tryOrder_3 cs_L_tryOrder ⟨Nat.le_of_ble_eq_true rfl, Nat.le_of_ble_eq_true rfl⟩ dL_tryOrder_6 (List.forall_mem_cons.mpr ⟨⟨by decide, 7, ⟨[], [(0, 6, 11, 16)], 0, 6, 13, rfl, ⟨Nat.le_of_ble_eq_true rfl, Nat.le_of_ble_eq_true rfl⟩, by decide, kk_L_13, fun _ h => absurd h List.not_mem_nil⟩, ⟨8, 15, Or.inl ⟨3, dL_tryOrder_7, by decide, rfl⟩, dL_tryOrder_8, kc_L_15, dL_tryOrder_10⟩⟩, List.forall_mem_cons.mpr ⟨⟨by decide, 11, ⟨[(0, 6, 7, 13)], [], 0, 6, 16, rfl, ⟨Nat.le_of_ble_eq_true rfl, Nat.le_of_ble_eq_true rfl⟩, by decide, kk_L_16, List.forall_mem_cons.mpr ⟨⟨by decide, tl_xn 1, tl_xnC 1, kk_L_13, tl_x21⟩, fun _ h => absurd h List.not_mem_nil⟩⟩, ⟨12, 18, Or.inl ⟨3, dL_tryOrder_11, by decide, rfl⟩, dL_tryOrder_12, kc_L_18, dL_tryOrder_14⟩⟩, fun _ h => absurd h List.not_mem_nil⟩⟩) ⟨congrArg (fun x => some (Value.int x)) hr, hv⟩
def fL_tryLit (a : Nat) (p0 : Int32) (p1 : Int32) (u : tz_U) : Option (Int32 × tz_U) := tz_o a (tz_lit p0 p1 (u a)) u
abbrev hL_tryLit : tl_hs := [(0, 6, 7, 13), (0, 6, 11, 16)]
abbrev mL_tryLit : tl_M := (yL_tryLit, cL_tryLit, 4, some .int, tl_rm 9 1 6)
theorem cw_L_tryLit : tl_w9 mL_tryLit hL_tryLit ∈ tl_GW := tl_inGW (tl_in4 (List.mem_of_getElem? (i := 67) rfl)) rfl
theorem cs_L_tryLit : tl_cV mL_tryLit mX9_lit 60 2 := ⟨cd_X9_lit, ml_L_60, im_X9_lit, se_X9_lit, in_X9, ⟨by decide, by decide, by decide +kernel⟩, Nat.le_of_ble_eq_true rfl, Nat.le_of_ble_eq_true rfl⟩
theorem lL_tryLit {E : tl_E} {a : Nat} {p0 : Int32} {p1 : Int32} {u : tz_U} {r : Int32} {v : tz_U} (h1 : tz_on E a) (h : fL_tryLit a p0 p1 u = some (r, v)) : tz_MH E mL_tryLit hL_tryLit [.ref a, .int p0, .int p1] u r v := by
  unfold fL_tryLit at h
  have hl : (tz_lit p0 p1 (u a)).1 = 0 ∨ (tz_lit p0 p1 (u a)).1 ∈ [1, 2] := tz_cs2 (tz_cs2 (Or.inl rfl) (Or.inr (show 2 ∈ [1, 2] by decide))) (Or.inr (show 1 ∈ [1, 2] by decide))
  cases h
  refine tl_startH [some (.ref a), some (.int p0), some (.int p1), none] rfl rfl rfl (Nat.le_of_ble_eq_true rfl) (tl_ex (fun u9 hA => ?_))
  obtain ⟨r9, v9, e, hr, hv⟩ := tz_lit_ok h1 hA p0 p1
  refine tl_aload_n (q := 0) dL_tryLit_0 rfl (tl_iload_n (q := 1) dL_tryLit_1 rfl (tl_iload_n (q := 2) dL_tryLit_2 rfl ?_))
  exact tz_wend (As := [.int p0, .int p1]) (l := [1, 2]) (l9_lit (tz_T9 h1) e) (tz_T9 h1) hl rfl rfl dL_tryLit_3 cs_L_tryLit ⟨Nat.le_of_ble_eq_true rfl, Nat.le_of_ble_eq_true rfl⟩ dL_tryLit_6 (List.forall_mem_cons.mpr ⟨⟨by decide, 7, ⟨[], [(0, 6, 11, 16)], 0, 6, 13, rfl, ⟨Nat.le_of_ble_eq_true rfl, Nat.le_of_ble_eq_true rfl⟩, by decide, kk_L_13, fun _ h => absurd h List.not_mem_nil⟩, ⟨8, 15, Or.inl ⟨3, dL_tryLit_7, by decide, rfl⟩, dL_tryLit_8, kc_L_15, dL_tryLit_10⟩⟩, List.forall_mem_cons.mpr ⟨⟨by decide, 11, ⟨[(0, 6, 7, 13)], [], 0, 6, 16, rfl, ⟨Nat.le_of_ble_eq_true rfl, Nat.le_of_ble_eq_true rfl⟩, by decide, kk_L_16, List.forall_mem_cons.mpr ⟨⟨by decide, tl_xn 1, tl_xnC 1, kk_L_13, tl_x21⟩, fun _ h => absurd h List.not_mem_nil⟩⟩, ⟨12, 18, Or.inl ⟨3, dL_tryLit_11, by decide, rfl⟩, dL_tryLit_12, kc_L_18, dL_tryLit_14⟩⟩, fun _ h => absurd h List.not_mem_nil⟩⟩) ⟨congrArg (fun x => some (Value.int x)) hr, hv⟩
def fL_tryGallery (a : Nat) (p0 : Int32) (u : tz_U) : Option (Int32 × tz_U) := tz_o a (tz_act 1 p0 0 0 0 (u a)) u
abbrev hL_tryGallery : tl_hs := [(0, 5, 6, 16), (0, 5, 10, 19)]
abbrev mL_tryGallery : tl_M := (yL_tryGallery, cL_tryGallery, 3, some .int, tl_rm 9 1 6)
theorem cw_L_tryGallery : tl_w9 mL_tryGallery hL_tryGallery ∈ tl_GW := tl_inGW (tl_in4 (List.mem_of_getElem? (i := 85) rfl)) rfl
theorem cs_L_tryGallery : tl_cV mL_tryGallery mX9_gallery 63 1 := ⟨cd_X9_gallery, ml_L_63, im_X9_gallery, se_X9_gallery, in_X9, ⟨by decide, by decide, by decide +kernel⟩, Nat.le_of_ble_eq_true rfl, Nat.le_of_ble_eq_true rfl⟩
theorem lL_tryGallery {E : tl_E} {a : Nat} {p0 : Int32} {u : tz_U} {r : Int32} {v : tz_U} (h1 : tz_on E a) (h : fL_tryGallery a p0 u = some (r, v)) : tz_MH E mL_tryGallery hL_tryGallery [.ref a, .int p0] u r v := by
  unfold fL_tryGallery at h
  have hl : (tz_act 1 p0 0 0 0 (u a)).1 = 0 ∨ (tz_act 1 p0 0 0 0 (u a)).1 ∈ [2, 3] := tz_act_l (show tp_ro _ _ _ = 0 ∨ tp_ro _ _ _ ∈ _ from tz_ro_e)
  cases h
  refine tl_startH [some (.ref a), some (.int p0), none] rfl rfl rfl (Nat.le_of_ble_eq_true rfl) (tl_ex (fun u9 hA => ?_))
  obtain ⟨r9, v9, e, hr, hv⟩ := tz_cgallery_ok h1 hA p0
  refine tl_aload_n (q := 0) dL_tryGallery_0 rfl (tl_iload_n (q := 1) dL_tryGallery_1 rfl ?_)
  exact tz_wend (As := [.int p0]) (l := [2, 3]) (l9_gallery (tz_T9 h1) e) (tz_T9 h1) hl rfl rfl dL_tryGallery_2 cs_L_tryGallery ⟨Nat.le_of_ble_eq_true rfl, Nat.le_of_ble_eq_true rfl⟩ dL_tryGallery_5 (List.forall_mem_cons.mpr ⟨⟨by decide, 6, ⟨[], [(0, 5, 10, 19)], 0, 5, 16, rfl, ⟨Nat.le_of_ble_eq_true rfl, Nat.le_of_ble_eq_true rfl⟩, by decide, kk_L_16, fun _ h => absurd h List.not_mem_nil⟩, ⟨7, 18, Or.inl ⟨2, dL_tryGallery_6, by decide, rfl⟩, dL_tryGallery_7, kc_L_18, dL_tryGallery_9⟩⟩, List.forall_mem_cons.mpr ⟨⟨by decide, 10, ⟨[(0, 5, 6, 16)], [], 0, 5, 19, rfl, ⟨Nat.le_of_ble_eq_true rfl, Nat.le_of_ble_eq_true rfl⟩, by decide, kk_L_19, List.forall_mem_cons.mpr ⟨⟨by decide, tl_xn 2, tl_xnC 2, kk_L_16, tl_x32⟩, fun _ h => absurd h List.not_mem_nil⟩⟩, ⟨11, 21, Or.inl ⟨2, dL_tryGallery_10, by decide, rfl⟩, dL_tryGallery_11, kc_L_21, dL_tryGallery_13⟩⟩, fun _ h => absurd h List.not_mem_nil⟩⟩) ⟨congrArg (fun x => some (Value.int x)) hr, hv⟩
def fL_tryMiner (a : Nat) (p0 : Int32) (p1 : Int32) (u : tz_U) : Option (Int32 × tz_U) := tz_o a (tz_act 2 p0 p1 0 0 (u a)) u
abbrev hL_tryMiner : tl_hs := [(0, 6, 7, 13), (0, 6, 11, 16), (0, 6, 15, 19)]
abbrev mL_tryMiner : tl_M := (yL_tryMiner, cL_tryMiner, 4, some .int, tl_rm 9 1 6)
theorem cw_L_tryMiner : tl_w9 mL_tryMiner hL_tryMiner ∈ tl_GW := tl_inGW (tl_in4 (List.mem_of_getElem? (i := 104) rfl)) rfl
theorem cs_L_tryMiner : tl_cV mL_tryMiner mX9_miner 66 2 := ⟨cd_X9_miner, ml_L_66, im_X9_miner, se_X9_miner, in_X9, ⟨by decide, by decide, by decide +kernel⟩, Nat.le_of_ble_eq_true rfl, Nat.le_of_ble_eq_true rfl⟩
theorem lL_tryMiner {E : tl_E} {a : Nat} {p0 : Int32} {p1 : Int32} {u : tz_U} {r : Int32} {v : tz_U} (h1 : tz_on E a) (h : fL_tryMiner a p0 p1 u = some (r, v)) : tz_MH E mL_tryMiner hL_tryMiner [.ref a, .int p0, .int p1] u r v := by
  unfold fL_tryMiner at h
  have hl : (tz_act 2 p0 p1 0 0 (u a)).1 = 0 ∨ (tz_act 2 p0 p1 0 0 (u a)).1 ∈ [1, 2, 3] := tz_act_l (show tp_ro _ _ _ = 0 ∨ tp_ro _ _ _ ∈ _ from tz_ro_a)
  cases h
  refine tl_startH [some (.ref a), some (.int p0), some (.int p1), none] rfl rfl rfl (Nat.le_of_ble_eq_true rfl) (tl_ex (fun u9 hA => ?_))
  obtain ⟨r9, v9, e, hr, hv⟩ := tz_cminer_ok h1 hA p0 p1
  refine tl_aload_n (q := 0) dL_tryMiner_0 rfl (tl_iload_n (q := 1) dL_tryMiner_1 rfl (tl_iload_n (q := 2) dL_tryMiner_2 rfl ?_))
  exact tz_wend (As := [.int p0, .int p1]) (l := [1, 2, 3]) (l9_miner (tz_T9 h1) e) (tz_T9 h1) hl rfl rfl dL_tryMiner_3 cs_L_tryMiner ⟨Nat.le_of_ble_eq_true rfl, Nat.le_of_ble_eq_true rfl⟩ dL_tryMiner_6 (List.forall_mem_cons.mpr ⟨⟨by decide, 7, ⟨[], [(0, 6, 11, 16), (0, 6, 15, 19)], 0, 6, 13, rfl, ⟨Nat.le_of_ble_eq_true rfl, Nat.le_of_ble_eq_true rfl⟩, by decide, kk_L_13, fun _ h => absurd h List.not_mem_nil⟩, ⟨8, 15, Or.inl ⟨3, dL_tryMiner_7, by decide, rfl⟩, dL_tryMiner_8, kc_L_15, dL_tryMiner_10⟩⟩, List.forall_mem_cons.mpr ⟨⟨by decide, 11, ⟨[(0, 6, 7, 13)], [(0, 6, 15, 19)], 0, 6, 16, rfl, ⟨Nat.le_of_ble_eq_true rfl, Nat.le_of_ble_eq_true rfl⟩, by decide, kk_L_16, List.forall_mem_cons.mpr ⟨⟨by decide, tl_xn 1, tl_xnC 1, kk_L_13, tl_x21⟩, fun _ h => absurd h List.not_mem_nil⟩⟩, ⟨12, 18, Or.inl ⟨3, dL_tryMiner_11, by decide, rfl⟩, dL_tryMiner_12, kc_L_18, dL_tryMiner_14⟩⟩, List.forall_mem_cons.mpr ⟨⟨by decide, 15, ⟨[(0, 6, 7, 13), (0, 6, 11, 16)], [], 0, 6, 19, rfl, ⟨Nat.le_of_ble_eq_true rfl, Nat.le_of_ble_eq_true rfl⟩, by decide, kk_L_19, List.forall_mem_cons.mpr ⟨⟨by decide, tl_xn 1, tl_xnC 1, kk_L_13, tl_x31⟩, List.forall_mem_cons.mpr ⟨⟨by decide, tl_xn 2, tl_xnC 2, kk_L_16, tl_x32⟩, fun _ h => absurd h List.not_mem_nil⟩⟩⟩, ⟨16, 21, Or.inl ⟨3, dL_tryMiner_15, by decide, rfl⟩, dL_tryMiner_16, kc_L_21, dL_tryMiner_18⟩⟩, fun _ h => absurd h List.not_mem_nil⟩⟩⟩) ⟨congrArg (fun x => some (Value.int x)) hr, hv⟩
def fL_trySend (a : Nat) (p0 : Int32) (p1 : Int32) (u : tz_U) : Option (Int32 × tz_U) := tz_o a (tz_act 3 p0 p1 0 0 (u a)) u
abbrev hL_trySend : tl_hs := [(0, 6, 7, 13)]
abbrev mL_trySend : tl_M := (yL_trySend, cL_trySend, 4, some .int, tl_rm 9 1 6)
theorem cw_L_trySend : tl_w9 mL_trySend hL_trySend ∈ tl_GW := tl_inGW (tl_in4 (List.mem_of_getElem? (i := 111) rfl)) rfl
theorem cs_L_trySend : tl_cV mL_trySend mX9_send 69 2 := ⟨cd_X9_send, ml_L_69, im_X9_send, se_X9_send, in_X9, ⟨by decide, by decide, by decide +kernel⟩, Nat.le_of_ble_eq_true rfl, Nat.le_of_ble_eq_true rfl⟩
theorem lL_trySend {E : tl_E} {a : Nat} {p0 : Int32} {p1 : Int32} {u : tz_U} {r : Int32} {v : tz_U} (h1 : tz_on E a) (h : fL_trySend a p0 p1 u = some (r, v)) : tz_MH E mL_trySend hL_trySend [.ref a, .int p0, .int p1] u r v := by
  unfold fL_trySend at h
  have hl : (tz_act 3 p0 p1 0 0 (u a)).1 = 0 ∨ (tz_act 3 p0 p1 0 0 (u a)).1 ∈ [1] := tz_act_l (show tp_ro _ _ _ = 0 ∨ tp_ro _ _ _ ∈ _ from tz_ro_ip)
  cases h
  refine tl_startH [some (.ref a), some (.int p0), some (.int p1), none] rfl rfl rfl (Nat.le_of_ble_eq_true rfl) (tl_ex (fun u9 hA => ?_))
  obtain ⟨r9, v9, e, hr, hv⟩ := tz_csend_ok h1 hA p0 p1
  refine tl_aload_n (q := 0) dL_trySend_0 rfl (tl_iload_n (q := 1) dL_trySend_1 rfl (tl_iload_n (q := 2) dL_trySend_2 rfl ?_))
  exact tz_wend (As := [.int p0, .int p1]) (l := [1]) (l9_send (tz_T9 h1) e) (tz_T9 h1) hl rfl rfl dL_trySend_3 cs_L_trySend ⟨Nat.le_of_ble_eq_true rfl, Nat.le_of_ble_eq_true rfl⟩ dL_trySend_6 (List.forall_mem_cons.mpr ⟨⟨by decide, 7, ⟨[], [], 0, 6, 13, rfl, ⟨Nat.le_of_ble_eq_true rfl, Nat.le_of_ble_eq_true rfl⟩, by decide, kk_L_13, fun _ h => absurd h List.not_mem_nil⟩, ⟨8, 15, Or.inl ⟨3, dL_trySend_7, by decide, rfl⟩, dL_trySend_8, kc_L_15, dL_trySend_10⟩⟩, fun _ h => absurd h List.not_mem_nil⟩) ⟨congrArg (fun x => some (Value.int x)) hr, hv⟩
def fL_tryStore (a : Nat) (p0 : Int32) (u : tz_U) : Option (Int32 × tz_U) := tz_o a (tz_act 5 p0 0 0 0 (u a)) u
abbrev hL_tryStore : tl_hs := [(0, 5, 6, 16), (0, 5, 10, 19)]
abbrev mL_tryStore : tl_M := (yL_tryStore, cL_tryStore, 3, some .int, tl_rm 9 1 6)
theorem cw_L_tryStore : tl_w9 mL_tryStore hL_tryStore ∈ tl_GW := tl_inGW (tl_in4 (List.mem_of_getElem? (i := 118) rfl)) rfl
theorem cs_L_tryStore : tl_cV mL_tryStore mX9_store 72 1 := ⟨cd_X9_store, ml_L_72, im_X9_store, se_X9_store, in_X9, ⟨by decide, by decide, by decide +kernel⟩, Nat.le_of_ble_eq_true rfl, Nat.le_of_ble_eq_true rfl⟩
theorem lL_tryStore {E : tl_E} {a : Nat} {p0 : Int32} {u : tz_U} {r : Int32} {v : tz_U} (h1 : tz_on E a) (h : fL_tryStore a p0 u = some (r, v)) : tz_MH E mL_tryStore hL_tryStore [.ref a, .int p0] u r v := by
  unfold fL_tryStore at h
  have hl : (tz_act 5 p0 0 0 0 (u a)).1 = 0 ∨ (tz_act 5 p0 0 0 0 (u a)).1 ∈ [2, 3] := tz_act_l (show tp_ro _ _ _ = 0 ∨ tp_ro _ _ _ ∈ _ from tz_ro_e)
  cases h
  refine tl_startH [some (.ref a), some (.int p0), none] rfl rfl rfl (Nat.le_of_ble_eq_true rfl) (tl_ex (fun u9 hA => ?_))
  obtain ⟨r9, v9, e, hr, hv⟩ := tz_cstore_ok h1 hA p0
  refine tl_aload_n (q := 0) dL_tryStore_0 rfl (tl_iload_n (q := 1) dL_tryStore_1 rfl ?_)
  exact tz_wend (As := [.int p0]) (l := [2, 3]) (l9_store (tz_T9 h1) e) (tz_T9 h1) hl rfl rfl dL_tryStore_2 cs_L_tryStore ⟨Nat.le_of_ble_eq_true rfl, Nat.le_of_ble_eq_true rfl⟩ dL_tryStore_5 (List.forall_mem_cons.mpr ⟨⟨by decide, 6, ⟨[], [(0, 5, 10, 19)], 0, 5, 16, rfl, ⟨Nat.le_of_ble_eq_true rfl, Nat.le_of_ble_eq_true rfl⟩, by decide, kk_L_16, fun _ h => absurd h List.not_mem_nil⟩, ⟨7, 18, Or.inl ⟨2, dL_tryStore_6, by decide, rfl⟩, dL_tryStore_7, kc_L_18, dL_tryStore_9⟩⟩, List.forall_mem_cons.mpr ⟨⟨by decide, 10, ⟨[(0, 5, 6, 16)], [], 0, 5, 19, rfl, ⟨Nat.le_of_ble_eq_true rfl, Nat.le_of_ble_eq_true rfl⟩, by decide, kk_L_19, List.forall_mem_cons.mpr ⟨⟨by decide, tl_xn 2, tl_xnC 2, kk_L_16, tl_x32⟩, fun _ h => absurd h List.not_mem_nil⟩⟩, ⟨11, 21, Or.inl ⟨2, dL_tryStore_10, by decide, rfl⟩, dL_tryStore_11, kc_L_21, dL_tryStore_13⟩⟩, fun _ h => absurd h List.not_mem_nil⟩⟩) ⟨congrArg (fun x => some (Value.int x)) hr, hv⟩
def fL_tryHang (a : Nat) (p0 : Int32) (p1 : Int32) (p2 : Int32) (u : tz_U) : Option (Int32 × tz_U) := tz_o a (tz_act 6 p0 p1 p2 0 (u a)) u
abbrev hL_tryHang : tl_hs := [(0, 7, 8, 13), (0, 7, 13, 19)]
abbrev mL_tryHang : tl_M := (yL_tryHang, cL_tryHang, 5, some .int, tl_rm 9 1 6)
theorem cw_L_tryHang : tl_w9 mL_tryHang hL_tryHang ∈ tl_GW := tl_inGW (tl_in4 (List.mem_of_getElem? (i := 125) rfl)) rfl
theorem cs_L_tryHang : tl_cV mL_tryHang mX9_hang 75 3 := ⟨cd_X9_hang, ml_L_75, im_X9_hang, se_X9_hang, in_X9, ⟨by decide, by decide, by decide +kernel⟩, Nat.le_of_ble_eq_true rfl, Nat.le_of_ble_eq_true rfl⟩
theorem lL_tryHang {E : tl_E} {a : Nat} {p0 : Int32} {p1 : Int32} {p2 : Int32} {u : tz_U} {r : Int32} {v : tz_U} (h1 : tz_on E a) (h : fL_tryHang a p0 p1 p2 u = some (r, v)) : tz_MH E mL_tryHang hL_tryHang [.ref a, .int p0, .int p1, .int p2] u r v := by
  unfold fL_tryHang at h
  have hl : (tz_act 6 p0 p1 p2 0 (u a)).1 = 0 ∨ (tz_act 6 p0 p1 p2 0 (u a)).1 ∈ [1, 3] := tz_act_l (show tp_ro _ _ _ = 0 ∨ tp_ro _ _ _ ∈ _ from tz_ro_i)
  cases h
  refine tl_startH [some (.ref a), some (.int p0), some (.int p1), some (.int p2), none] rfl rfl rfl (Nat.le_of_ble_eq_true rfl) (tl_ex (fun u9 hA => ?_))
  obtain ⟨r9, v9, e, hr, hv⟩ := tz_chang_ok h1 hA p0 p1 p2
  refine tl_aload_n (q := 0) dL_tryHang_0 rfl (tl_iload_n (q := 1) dL_tryHang_1 rfl (tl_iload_n (q := 2) dL_tryHang_2 rfl (tl_iload_n (q := 3) dL_tryHang_3 rfl ?_)))
  exact tz_wend (As := [.int p0, .int p1, .int p2]) (l := [1, 3]) (l9_hang (tz_T9 h1) e) (tz_T9 h1) hl rfl rfl dL_tryHang_4 cs_L_tryHang ⟨Nat.le_of_ble_eq_true rfl, Nat.le_of_ble_eq_true rfl⟩ dL_tryHang_7 (List.forall_mem_cons.mpr ⟨⟨by decide, 8, ⟨[], [(0, 7, 13, 19)], 0, 7, 13, rfl, ⟨Nat.le_of_ble_eq_true rfl, Nat.le_of_ble_eq_true rfl⟩, by decide, kk_L_13, fun _ h => absurd h List.not_mem_nil⟩, ⟨10, 15, Or.inr ⟨4, dL_tryHang_8, by decide, rfl⟩, dL_tryHang_10, kc_L_15, dL_tryHang_12⟩⟩, List.forall_mem_cons.mpr ⟨⟨by decide, 13, ⟨[(0, 7, 8, 13)], [], 0, 7, 19, rfl, ⟨Nat.le_of_ble_eq_true rfl, Nat.le_of_ble_eq_true rfl⟩, by decide, kk_L_19, List.forall_mem_cons.mpr ⟨⟨by decide, tl_xn 1, tl_xnC 1, kk_L_13, tl_x31⟩, fun _ h => absurd h List.not_mem_nil⟩⟩, ⟨15, 21, Or.inr ⟨4, dL_tryHang_13, by decide, rfl⟩, dL_tryHang_15, kc_L_21, dL_tryHang_17⟩⟩, fun _ h => absurd h List.not_mem_nil⟩⟩) ⟨congrArg (fun x => some (Value.int x)) hr, hv⟩
def fL_tryFill (a : Nat) (p0 : Int32) (p1 : Int32) (u : tz_U) : Option (Int32 × tz_U) := tz_o a (tz_act 7 p0 p1 0 0 (u a)) u
abbrev hL_tryFill : tl_hs := [(0, 6, 7, 13), (0, 6, 11, 16), (0, 6, 15, 19)]
abbrev mL_tryFill : tl_M := (yL_tryFill, cL_tryFill, 4, some .int, tl_rm 9 1 6)
theorem cw_L_tryFill : tl_w9 mL_tryFill hL_tryFill ∈ tl_GW := tl_inGW (tl_in4 (List.mem_of_getElem? (i := 132) rfl)) rfl
theorem cs_L_tryFill : tl_cV mL_tryFill mX9_fill 79 2 := ⟨cd_X9_fill, ml_L_79, im_X9_fill, se_X9_fill, in_X9, ⟨by decide, by decide, by decide +kernel⟩, Nat.le_of_ble_eq_true rfl, Nat.le_of_ble_eq_true rfl⟩
theorem lL_tryFill {E : tl_E} {a : Nat} {p0 : Int32} {p1 : Int32} {u : tz_U} {r : Int32} {v : tz_U} (h1 : tz_on E a) (h : fL_tryFill a p0 p1 u = some (r, v)) : tz_MH E mL_tryFill hL_tryFill [.ref a, .int p0, .int p1] u r v := by
  unfold fL_tryFill at h
  have hl : (tz_act 7 p0 p1 0 0 (u a)).1 = 0 ∨ (tz_act 7 p0 p1 0 0 (u a)).1 ∈ [1, 2, 3] := tz_act_l (show tp_ro _ _ _ = 0 ∨ tp_ro _ _ _ ∈ _ from tz_ro_a)
  cases h
  refine tl_startH [some (.ref a), some (.int p0), some (.int p1), none] rfl rfl rfl (Nat.le_of_ble_eq_true rfl) (tl_ex (fun u9 hA => ?_))
  obtain ⟨r9, v9, e, hr, hv⟩ := tz_cfill_ok h1 hA p0 p1
  refine tl_aload_n (q := 0) dL_tryFill_0 rfl (tl_iload_n (q := 1) dL_tryFill_1 rfl (tl_iload_n (q := 2) dL_tryFill_2 rfl ?_))
  exact tz_wend (As := [.int p0, .int p1]) (l := [1, 2, 3]) (l9_fill (tz_T9 h1) e) (tz_T9 h1) hl rfl rfl dL_tryFill_3 cs_L_tryFill ⟨Nat.le_of_ble_eq_true rfl, Nat.le_of_ble_eq_true rfl⟩ dL_tryFill_6 (List.forall_mem_cons.mpr ⟨⟨by decide, 7, ⟨[], [(0, 6, 11, 16), (0, 6, 15, 19)], 0, 6, 13, rfl, ⟨Nat.le_of_ble_eq_true rfl, Nat.le_of_ble_eq_true rfl⟩, by decide, kk_L_13, fun _ h => absurd h List.not_mem_nil⟩, ⟨8, 15, Or.inl ⟨3, dL_tryFill_7, by decide, rfl⟩, dL_tryFill_8, kc_L_15, dL_tryFill_10⟩⟩, List.forall_mem_cons.mpr ⟨⟨by decide, 11, ⟨[(0, 6, 7, 13)], [(0, 6, 15, 19)], 0, 6, 16, rfl, ⟨Nat.le_of_ble_eq_true rfl, Nat.le_of_ble_eq_true rfl⟩, by decide, kk_L_16, List.forall_mem_cons.mpr ⟨⟨by decide, tl_xn 1, tl_xnC 1, kk_L_13, tl_x21⟩, fun _ h => absurd h List.not_mem_nil⟩⟩, ⟨12, 18, Or.inl ⟨3, dL_tryFill_11, by decide, rfl⟩, dL_tryFill_12, kc_L_18, dL_tryFill_14⟩⟩, List.forall_mem_cons.mpr ⟨⟨by decide, 15, ⟨[(0, 6, 7, 13), (0, 6, 11, 16)], [], 0, 6, 19, rfl, ⟨Nat.le_of_ble_eq_true rfl, Nat.le_of_ble_eq_true rfl⟩, by decide, kk_L_19, List.forall_mem_cons.mpr ⟨⟨by decide, tl_xn 1, tl_xnC 1, kk_L_13, tl_x31⟩, List.forall_mem_cons.mpr ⟨⟨by decide, tl_xn 2, tl_xnC 2, kk_L_16, tl_x32⟩, fun _ h => absurd h List.not_mem_nil⟩⟩⟩, ⟨16, 21, Or.inl ⟨3, dL_tryFill_15, by decide, rfl⟩, dL_tryFill_16, kc_L_21, dL_tryFill_18⟩⟩, fun _ h => absurd h List.not_mem_nil⟩⟩⟩) ⟨congrArg (fun x => some (Value.int x)) hr, hv⟩
def fL_tryDrop (a : Nat) (p0 : Int32) (u : tz_U) : Option (Int32 × tz_U) := tz_o a (tz_act 8 p0 0 0 0 (u a)) u
abbrev hL_tryDrop : tl_hs := [(0, 5, 6, 13), (0, 5, 10, 19)]
abbrev mL_tryDrop : tl_M := (yL_tryDrop, cL_tryDrop, 3, some .int, tl_rm 9 1 6)
theorem cw_L_tryDrop : tl_w9 mL_tryDrop hL_tryDrop ∈ tl_GW := tl_inGW (tl_in4 (List.mem_of_getElem? (i := 139) rfl)) rfl
theorem cs_L_tryDrop : tl_cV mL_tryDrop mX9_drop 82 1 := ⟨cd_X9_drop, ml_L_82, im_X9_drop, se_X9_drop, in_X9, ⟨by decide, by decide, by decide +kernel⟩, Nat.le_of_ble_eq_true rfl, Nat.le_of_ble_eq_true rfl⟩
theorem lL_tryDrop {E : tl_E} {a : Nat} {p0 : Int32} {u : tz_U} {r : Int32} {v : tz_U} (h1 : tz_on E a) (h : fL_tryDrop a p0 u = some (r, v)) : tz_MH E mL_tryDrop hL_tryDrop [.ref a, .int p0] u r v := by
  unfold fL_tryDrop at h
  have hl : (tz_act 8 p0 0 0 0 (u a)).1 = 0 ∨ (tz_act 8 p0 0 0 0 (u a)).1 ∈ [1, 3] := tz_act_l (show tp_ro _ _ _ = 0 ∨ tp_ro _ _ _ ∈ _ from tz_ro_i)
  cases h
  refine tl_startH [some (.ref a), some (.int p0), none] rfl rfl rfl (Nat.le_of_ble_eq_true rfl) (tl_ex (fun u9 hA => ?_))
  obtain ⟨r9, v9, e, hr, hv⟩ := tz_cdrop_ok h1 hA p0
  refine tl_aload_n (q := 0) dL_tryDrop_0 rfl (tl_iload_n (q := 1) dL_tryDrop_1 rfl ?_)
  exact tz_wend (As := [.int p0]) (l := [1, 3]) (l9_drop (tz_T9 h1) e) (tz_T9 h1) hl rfl rfl dL_tryDrop_2 cs_L_tryDrop ⟨Nat.le_of_ble_eq_true rfl, Nat.le_of_ble_eq_true rfl⟩ dL_tryDrop_5 (List.forall_mem_cons.mpr ⟨⟨by decide, 6, ⟨[], [(0, 5, 10, 19)], 0, 5, 13, rfl, ⟨Nat.le_of_ble_eq_true rfl, Nat.le_of_ble_eq_true rfl⟩, by decide, kk_L_13, fun _ h => absurd h List.not_mem_nil⟩, ⟨7, 15, Or.inl ⟨2, dL_tryDrop_6, by decide, rfl⟩, dL_tryDrop_7, kc_L_15, dL_tryDrop_9⟩⟩, List.forall_mem_cons.mpr ⟨⟨by decide, 10, ⟨[(0, 5, 6, 13)], [], 0, 5, 19, rfl, ⟨Nat.le_of_ble_eq_true rfl, Nat.le_of_ble_eq_true rfl⟩, by decide, kk_L_19, List.forall_mem_cons.mpr ⟨⟨by decide, tl_xn 1, tl_xnC 1, kk_L_13, tl_x31⟩, fun _ h => absurd h List.not_mem_nil⟩⟩, ⟨11, 21, Or.inl ⟨2, dL_tryDrop_10, by decide, rfl⟩, dL_tryDrop_11, kc_L_21, dL_tryDrop_13⟩⟩, fun _ h => absurd h List.not_mem_nil⟩⟩) ⟨congrArg (fun x => some (Value.int x)) hr, hv⟩
def fL_tryLay (a : Nat) (p0 : Int32) (p1 : Int32) (u : tz_U) : Option (Int32 × tz_U) := tz_o a (tz_act 9 p0 p1 0 0 (u a)) u
abbrev hL_tryLay : tl_hs := [(0, 6, 7, 16)]
abbrev mL_tryLay : tl_M := (yL_tryLay, cL_tryLay, 4, some .int, tl_rm 9 1 6)
theorem cw_L_tryLay : tl_w9 mL_tryLay hL_tryLay ∈ tl_GW := tl_inGW (tl_in4 (List.mem_of_getElem? (i := 146) rfl)) rfl
theorem cs_L_tryLay : tl_cV mL_tryLay mX9_set 85 2 := ⟨cd_X9_set, ml_L_85, im_X9_set, se_X9_set, in_X9, ⟨by decide, by decide, by decide +kernel⟩, Nat.le_of_ble_eq_true rfl, Nat.le_of_ble_eq_true rfl⟩
theorem lL_tryLay {E : tl_E} {a : Nat} {p0 : Int32} {p1 : Int32} {u : tz_U} {r : Int32} {v : tz_U} (h1 : tz_on E a) (h : fL_tryLay a p0 p1 u = some (r, v)) : tz_MH E mL_tryLay hL_tryLay [.ref a, .int p0, .int p1] u r v := by
  unfold fL_tryLay at h
  have hl : (tz_act 9 p0 p1 0 0 (u a)).1 = 0 ∨ (tz_act 9 p0 p1 0 0 (u a)).1 ∈ [2] := tz_act_l (show tp_ro _ _ _ = 0 ∨ tp_ro _ _ _ ∈ _ from tz_ro_ep)
  cases h
  refine tl_startH [some (.ref a), some (.int p0), some (.int p1), none] rfl rfl rfl (Nat.le_of_ble_eq_true rfl) (tl_ex (fun u9 hA => ?_))
  obtain ⟨r9, v9, e, hr, hv⟩ := tz_cset_ok h1 hA p0 p1
  refine tl_aload_n (q := 0) dL_tryLay_0 rfl (tl_iload_n (q := 1) dL_tryLay_1 rfl (tl_iload_n (q := 2) dL_tryLay_2 rfl ?_))
  exact tz_wend (As := [.int p0, .int p1]) (l := [2]) (l9_set (tz_T9 h1) e) (tz_T9 h1) hl rfl rfl dL_tryLay_3 cs_L_tryLay ⟨Nat.le_of_ble_eq_true rfl, Nat.le_of_ble_eq_true rfl⟩ dL_tryLay_6 (List.forall_mem_cons.mpr ⟨⟨by decide, 7, ⟨[], [], 0, 6, 16, rfl, ⟨Nat.le_of_ble_eq_true rfl, Nat.le_of_ble_eq_true rfl⟩, by decide, kk_L_16, fun _ h => absurd h List.not_mem_nil⟩, ⟨8, 18, Or.inl ⟨3, dL_tryLay_7, by decide, rfl⟩, dL_tryLay_8, kc_L_18, dL_tryLay_10⟩⟩, fun _ h => absurd h List.not_mem_nil⟩) ⟨congrArg (fun x => some (Value.int x)) hr, hv⟩
def fL_tryHours (a : Nat) (p0 : Int32) (u : tz_U) : Option (Int32 × tz_U) := tz_o a (tz_act 10 p0 0 0 0 (u a)) u
abbrev hL_tryHours : tl_hs := [(0, 5, 6, 16)]
abbrev mL_tryHours : tl_M := (yL_tryHours, cL_tryHours, 3, some .int, tl_rm 9 1 6)
theorem cw_L_tryHours : tl_w9 mL_tryHours hL_tryHours ∈ tl_GW := tl_inGW (tl_in4 (List.mem_of_getElem? (i := 153) rfl)) rfl
theorem cs_L_tryHours : tl_cV mL_tryHours mX9_hours 88 1 := ⟨cd_X9_hours, ml_L_88, im_X9_hours, se_X9_hours, in_X9, ⟨by decide, by decide, by decide +kernel⟩, Nat.le_of_ble_eq_true rfl, Nat.le_of_ble_eq_true rfl⟩
theorem lL_tryHours {E : tl_E} {a : Nat} {p0 : Int32} {u : tz_U} {r : Int32} {v : tz_U} (h1 : tz_on E a) (h : fL_tryHours a p0 u = some (r, v)) : tz_MH E mL_tryHours hL_tryHours [.ref a, .int p0] u r v := by
  unfold fL_tryHours at h
  have hl : (tz_act 10 p0 0 0 0 (u a)).1 = 0 ∨ (tz_act 10 p0 0 0 0 (u a)).1 ∈ [2] := tz_act_l (show tp_ro _ _ _ = 0 ∨ tp_ro _ _ _ ∈ _ from tz_ro_ep)
  cases h
  refine tl_startH [some (.ref a), some (.int p0), none] rfl rfl rfl (Nat.le_of_ble_eq_true rfl) (tl_ex (fun u9 hA => ?_))
  obtain ⟨r9, v9, e, hr, hv⟩ := tz_chours_ok h1 hA p0
  refine tl_aload_n (q := 0) dL_tryHours_0 rfl (tl_iload_n (q := 1) dL_tryHours_1 rfl ?_)
  exact tz_wend (As := [.int p0]) (l := [2]) (l9_hours (tz_T9 h1) e) (tz_T9 h1) hl rfl rfl dL_tryHours_2 cs_L_tryHours ⟨Nat.le_of_ble_eq_true rfl, Nat.le_of_ble_eq_true rfl⟩ dL_tryHours_5 (List.forall_mem_cons.mpr ⟨⟨by decide, 6, ⟨[], [], 0, 5, 16, rfl, ⟨Nat.le_of_ble_eq_true rfl, Nat.le_of_ble_eq_true rfl⟩, by decide, kk_L_16, fun _ h => absurd h List.not_mem_nil⟩, ⟨7, 18, Or.inl ⟨2, dL_tryHours_6, by decide, rfl⟩, dL_tryHours_7, kc_L_18, dL_tryHours_9⟩⟩, fun _ h => absurd h List.not_mem_nil⟩) ⟨congrArg (fun x => some (Value.int x)) hr, hv⟩
def fL_tryUndo (a : Nat) (u : tz_U) : Option (Int32 × tz_U) := tz_o a (tz_undo (u a)) u
abbrev hL_tryUndo : tl_hs := [(0, 4, 5, 19)]
abbrev mL_tryUndo : tl_M := (yL_tryUndo, cL_tryUndo, 2, some .int, tl_rm 9 1 6)
theorem cw_L_tryUndo : tl_w9 mL_tryUndo hL_tryUndo ∈ tl_GW := tl_inGW (tl_in4 (List.mem_of_getElem? (i := 160) rfl)) rfl
theorem cs_L_tryUndo : tl_cV mL_tryUndo mX9_undo 91 0 := ⟨cd_X9_undo, ml_L_91, im_X9_undo, se_X9_undo, in_X9, ⟨by decide, by decide, by decide +kernel⟩, Nat.le_of_ble_eq_true rfl, Nat.le_of_ble_eq_true rfl⟩
theorem lL_tryUndo {E : tl_E} {a : Nat}  {u : tz_U} {r : Int32} {v : tz_U} (h1 : tz_on E a) (h : fL_tryUndo a u = some (r, v)) : tz_MH E mL_tryUndo hL_tryUndo [.ref a] u r v := by
  unfold fL_tryUndo at h
  have hl : (tz_undo (u a)).1 = 0 ∨ (tz_undo (u a)).1 ∈ [3] := tz_cs2 (Or.inr (show 3 ∈ [3] by decide)) (Or.inl rfl)
  cases h
  refine tl_startH [some (.ref a), none] rfl rfl rfl (Nat.le_of_ble_eq_true rfl) (tl_ex (fun u9 hA => ?_))
  obtain ⟨r9, v9, e, hr, hv⟩ := tz_undo_ok h1 hA
  refine tl_aload_n (q := 0) dL_tryUndo_0 rfl ?_
  exact tz_wend (As := []) (l := [3]) (l9_undo (tz_T9 h1) e) (tz_T9 h1) hl rfl rfl dL_tryUndo_1 cs_L_tryUndo ⟨Nat.le_of_ble_eq_true rfl, Nat.le_of_ble_eq_true rfl⟩ dL_tryUndo_4 (List.forall_mem_cons.mpr ⟨⟨by decide, 5, ⟨[], [], 0, 4, 19, rfl, ⟨Nat.le_of_ble_eq_true rfl, Nat.le_of_ble_eq_true rfl⟩, by decide, kk_L_19, fun _ h => absurd h List.not_mem_nil⟩, ⟨6, 21, Or.inl ⟨1, dL_tryUndo_5, by decide, rfl⟩, dL_tryUndo_6, kc_L_21, dL_tryUndo_8⟩⟩, fun _ h => absurd h List.not_mem_nil⟩) ⟨congrArg (fun x => some (Value.int x)) hr, hv⟩
def fL_tryDark (a : Nat) (p0 : Int32) (u : tz_U) : Option (Int32 × tz_U) := tz_o a (tz_dark p0 (u a)) u
abbrev hL_tryDark : tl_hs := [(0, 5, 6, 13)]
abbrev mL_tryDark : tl_M := (yL_tryDark, cL_tryDark, 3, some .int, tl_rm 9 1 6)
theorem cw_L_tryDark : tl_w9 mL_tryDark hL_tryDark ∈ tl_GW := tl_inGW (tl_in4 (List.mem_of_getElem? (i := 171) rfl)) rfl
theorem cs_L_tryDark : tl_cV mL_tryDark mX9_darkIn 94 1 := ⟨cd_X9_darkIn, ml_L_94, im_X9_darkIn, se_X9_darkIn, in_X9, ⟨by decide, by decide, by decide +kernel⟩, Nat.le_of_ble_eq_true rfl, Nat.le_of_ble_eq_true rfl⟩
theorem lL_tryDark {E : tl_E} {a : Nat} {p0 : Int32} {u : tz_U} {r : Int32} {v : tz_U} (h1 : tz_on E a) (h : fL_tryDark a p0 u = some (r, v)) : tz_MH E mL_tryDark hL_tryDark [.ref a, .int p0] u r v := by
  unfold fL_tryDark at h
  have hl : (tz_dark p0 (u a)).1 = 0 ∨ (tz_dark p0 (u a)).1 ∈ [1] := tz_cs2 (Or.inl rfl) (Or.inr (show 1 ∈ [1] by decide))
  cases h
  refine tl_startH [some (.ref a), some (.int p0), none] rfl rfl rfl (Nat.le_of_ble_eq_true rfl) (tl_ex (fun u9 hA => ?_))
  obtain ⟨r9, v9, e, hr, hv⟩ := tz_dark_ok h1 hA p0
  refine tl_aload_n (q := 0) dL_tryDark_0 rfl (tl_iload_n (q := 1) dL_tryDark_1 rfl ?_)
  exact tz_wend (As := [.int p0]) (l := [1]) (l9_darkIn (tz_T9 h1) e) (tz_T9 h1) hl rfl rfl dL_tryDark_2 cs_L_tryDark ⟨Nat.le_of_ble_eq_true rfl, Nat.le_of_ble_eq_true rfl⟩ dL_tryDark_5 (List.forall_mem_cons.mpr ⟨⟨by decide, 6, ⟨[], [], 0, 5, 13, rfl, ⟨Nat.le_of_ble_eq_true rfl, Nat.le_of_ble_eq_true rfl⟩, by decide, kk_L_13, fun _ h => absurd h List.not_mem_nil⟩, ⟨7, 15, Or.inl ⟨2, dL_tryDark_6, by decide, rfl⟩, dL_tryDark_7, kc_L_15, dL_tryDark_9⟩⟩, fun _ h => absurd h List.not_mem_nil⟩) ⟨congrArg (fun x => some (Value.int x)) hr, hv⟩
def fL_tryDeep (a : Nat) (p0 : Int32) (p1 : Int32) (u : tz_U) : Option (Int32 × tz_U) := tz_o a (tz_deep p0 p1 (u a)) u
abbrev hL_tryDeep : tl_hs := [(0, 6, 7, 13), (0, 6, 11, 16)]
abbrev mL_tryDeep : tl_M := (yL_tryDeep, cL_tryDeep, 4, some .int, tl_rm 9 1 6)
theorem cw_L_tryDeep : tl_w9 mL_tryDeep hL_tryDeep ∈ tl_GW := tl_inGW (tl_in4 (List.mem_of_getElem? (i := 179) rfl)) rfl
theorem cs_L_tryDeep : tl_cV mL_tryDeep mX9_depthIn 97 2 := ⟨cd_X9_depthIn, ml_L_97, im_X9_depthIn, se_X9_depthIn, in_X9, ⟨by decide, by decide, by decide +kernel⟩, Nat.le_of_ble_eq_true rfl, Nat.le_of_ble_eq_true rfl⟩
theorem lL_tryDeep {E : tl_E} {a : Nat} {p0 : Int32} {p1 : Int32} {u : tz_U} {r : Int32} {v : tz_U} (h1 : tz_on E a) (h : fL_tryDeep a p0 p1 u = some (r, v)) : tz_MH E mL_tryDeep hL_tryDeep [.ref a, .int p0, .int p1] u r v := by
  unfold fL_tryDeep at h
  have hl : (tz_deep p0 p1 (u a)).1 = 0 ∨ (tz_deep p0 p1 (u a)).1 ∈ [1, 2] := tz_cs2 (tz_cs2 (Or.inl rfl) (Or.inr (show 2 ∈ [1, 2] by decide))) (Or.inr (show 1 ∈ [1, 2] by decide))
  cases h
  refine tl_startH [some (.ref a), some (.int p0), some (.int p1), none] rfl rfl rfl (Nat.le_of_ble_eq_true rfl) (tl_ex (fun u9 hA => ?_))
  obtain ⟨r9, v9, e, hr, hv⟩ := tz_deep_ok h1 hA p0 p1
  refine tl_aload_n (q := 0) dL_tryDeep_0 rfl (tl_iload_n (q := 1) dL_tryDeep_1 rfl (tl_iload_n (q := 2) dL_tryDeep_2 rfl ?_))
  exact tz_wend (As := [.int p0, .int p1]) (l := [1, 2]) (l9_depthIn (tz_T9 h1) e) (tz_T9 h1) hl rfl rfl dL_tryDeep_3 cs_L_tryDeep ⟨Nat.le_of_ble_eq_true rfl, Nat.le_of_ble_eq_true rfl⟩ dL_tryDeep_6 (List.forall_mem_cons.mpr ⟨⟨by decide, 7, ⟨[], [(0, 6, 11, 16)], 0, 6, 13, rfl, ⟨Nat.le_of_ble_eq_true rfl, Nat.le_of_ble_eq_true rfl⟩, by decide, kk_L_13, fun _ h => absurd h List.not_mem_nil⟩, ⟨8, 15, Or.inl ⟨3, dL_tryDeep_7, by decide, rfl⟩, dL_tryDeep_8, kc_L_15, dL_tryDeep_10⟩⟩, List.forall_mem_cons.mpr ⟨⟨by decide, 11, ⟨[(0, 6, 7, 13)], [], 0, 6, 16, rfl, ⟨Nat.le_of_ble_eq_true rfl, Nat.le_of_ble_eq_true rfl⟩, by decide, kk_L_16, List.forall_mem_cons.mpr ⟨⟨by decide, tl_xn 1, tl_xnC 1, kk_L_13, tl_x21⟩, fun _ h => absurd h List.not_mem_nil⟩⟩, ⟨12, 18, Or.inl ⟨3, dL_tryDeep_11, by decide, rfl⟩, dL_tryDeep_12, kc_L_18, dL_tryDeep_14⟩⟩, fun _ h => absurd h List.not_mem_nil⟩⟩) ⟨congrArg (fun x => some (Value.int x)) hr, hv⟩
def fL_tryBest (a : Nat) (p0 : Int32) (p1 : Int32) (p2 : Int32) (u : tz_U) : Option (Int32 × tz_U) := tz_o a (tz_best p0 p1 p2 (u a)) u
abbrev hL_tryBest : tl_hs := [(0, 7, 8, 13), (0, 7, 13, 16), (0, 7, 18, 19)]
abbrev mL_tryBest : tl_M := (yL_tryBest, cL_tryBest, 5, some .int, tl_rm 9 1 6)
theorem cw_L_tryBest : tl_w9 mL_tryBest hL_tryBest ∈ tl_GW := tl_inGW (tl_in4 (List.mem_of_getElem? (i := 186) rfl)) rfl
theorem cs_L_tryBest : tl_cV mL_tryBest mX9_bestCell 100 3 := ⟨cd_X9_bestCell, ml_L_100, im_X9_bestCell, se_X9_bestCell, in_X9, ⟨by decide, by decide, by decide +kernel⟩, Nat.le_of_ble_eq_true rfl, Nat.le_of_ble_eq_true rfl⟩
theorem lL_tryBest {E : tl_E} {a : Nat} {p0 : Int32} {p1 : Int32} {p2 : Int32} {u : tz_U} {r : Int32} {v : tz_U} (h1 : tz_on E a) (h : fL_tryBest a p0 p1 p2 u = some (r, v)) : tz_MH E mL_tryBest hL_tryBest [.ref a, .int p0, .int p1, .int p2] u r v := by
  unfold fL_tryBest at h
  have hl : (tz_best p0 p1 p2 (u a)).1 = 0 ∨ (tz_best p0 p1 p2 (u a)).1 ∈ [1, 2, 3] := tz_ro_a
  cases h
  refine tl_startH [some (.ref a), some (.int p0), some (.int p1), some (.int p2), none] rfl rfl rfl (Nat.le_of_ble_eq_true rfl) (tl_ex (fun u9 hA => ?_))
  obtain ⟨r9, v9, e, hr, hv⟩ := tz_best_ok h1 hA p0 p1 p2
  refine tl_aload_n (q := 0) dL_tryBest_0 rfl (tl_iload_n (q := 1) dL_tryBest_1 rfl (tl_iload_n (q := 2) dL_tryBest_2 rfl (tl_iload_n (q := 3) dL_tryBest_3 rfl ?_)))
  exact tz_wend (As := [.int p0, .int p1, .int p2]) (l := [1, 2, 3]) (l9_bestCell (tz_T9 h1) e) (tz_T9 h1) hl rfl rfl dL_tryBest_4 cs_L_tryBest ⟨Nat.le_of_ble_eq_true rfl, Nat.le_of_ble_eq_true rfl⟩ dL_tryBest_7 (List.forall_mem_cons.mpr ⟨⟨by decide, 8, ⟨[], [(0, 7, 13, 16), (0, 7, 18, 19)], 0, 7, 13, rfl, ⟨Nat.le_of_ble_eq_true rfl, Nat.le_of_ble_eq_true rfl⟩, by decide, kk_L_13, fun _ h => absurd h List.not_mem_nil⟩, ⟨10, 15, Or.inr ⟨4, dL_tryBest_8, by decide, rfl⟩, dL_tryBest_10, kc_L_15, dL_tryBest_12⟩⟩, List.forall_mem_cons.mpr ⟨⟨by decide, 13, ⟨[(0, 7, 8, 13)], [(0, 7, 18, 19)], 0, 7, 16, rfl, ⟨Nat.le_of_ble_eq_true rfl, Nat.le_of_ble_eq_true rfl⟩, by decide, kk_L_16, List.forall_mem_cons.mpr ⟨⟨by decide, tl_xn 1, tl_xnC 1, kk_L_13, tl_x21⟩, fun _ h => absurd h List.not_mem_nil⟩⟩, ⟨15, 18, Or.inr ⟨4, dL_tryBest_13, by decide, rfl⟩, dL_tryBest_15, kc_L_18, dL_tryBest_17⟩⟩, List.forall_mem_cons.mpr ⟨⟨by decide, 18, ⟨[(0, 7, 8, 13), (0, 7, 13, 16)], [], 0, 7, 19, rfl, ⟨Nat.le_of_ble_eq_true rfl, Nat.le_of_ble_eq_true rfl⟩, by decide, kk_L_19, List.forall_mem_cons.mpr ⟨⟨by decide, tl_xn 1, tl_xnC 1, kk_L_13, tl_x31⟩, List.forall_mem_cons.mpr ⟨⟨by decide, tl_xn 2, tl_xnC 2, kk_L_16, tl_x32⟩, fun _ h => absurd h List.not_mem_nil⟩⟩⟩, ⟨20, 21, Or.inr ⟨4, dL_tryBest_18, by decide, rfl⟩, dL_tryBest_20, kc_L_21, dL_tryBest_22⟩⟩, fun _ h => absurd h List.not_mem_nil⟩⟩⟩) ⟨congrArg (fun x => some (Value.int x)) hr, hv⟩
def fL_tryKeep (a : Nat) (p0 : Int32) (u : tz_U) : Option (Int32 × tz_U) := tz_o a (tz_keep p0 (u a)) u
abbrev hL_tryKeep : tl_hs := [(0, 5, 6, 13)]
abbrev mL_tryKeep : tl_M := (yL_tryKeep, cL_tryKeep, 3, some .int, tl_rm 9 1 6)
theorem cw_L_tryKeep : tl_w9 mL_tryKeep hL_tryKeep ∈ tl_GW := tl_inGW (tl_in4 (List.mem_of_getElem? (i := 195) rfl)) rfl
theorem cs_L_tryKeep : tl_cV mL_tryKeep mX9_save 103 1 := ⟨cd_X9_save, ml_L_103, im_X9_save, se_X9_save, in_X9, ⟨by decide, by decide, by decide +kernel⟩, Nat.le_of_ble_eq_true rfl, Nat.le_of_ble_eq_true rfl⟩
theorem lL_tryKeep {E : tl_E} {a : Nat} {p0 : Int32} {u : tz_U} {r : Int32} {v : tz_U} (h1 : tz_on E a) (h : fL_tryKeep a p0 u = some (r, v)) : tz_MH E mL_tryKeep hL_tryKeep [.ref a, .int p0] u r v := by
  unfold fL_tryKeep at h
  have hl : (tz_keep p0 (u a)).1 = 0 ∨ (tz_keep p0 (u a)).1 ∈ [1] := tz_cs2 (Or.inl rfl) (Or.inr (show 1 ∈ [1] by decide))
  cases h
  refine tl_startH [some (.ref a), some (.int p0), none] rfl rfl rfl (Nat.le_of_ble_eq_true rfl) (tl_ex (fun u9 hA => ?_))
  obtain ⟨r9, v9, e, hr, hv⟩ := tz_keep_ok h1 hA p0
  refine tl_aload_n (q := 0) dL_tryKeep_0 rfl (tl_iload_n (q := 1) dL_tryKeep_1 rfl ?_)
  exact tz_wend (As := [.int p0]) (l := [1]) (l9_save (tz_T9 h1) e) (tz_T9 h1) hl rfl rfl dL_tryKeep_2 cs_L_tryKeep ⟨Nat.le_of_ble_eq_true rfl, Nat.le_of_ble_eq_true rfl⟩ dL_tryKeep_5 (List.forall_mem_cons.mpr ⟨⟨by decide, 6, ⟨[], [], 0, 5, 13, rfl, ⟨Nat.le_of_ble_eq_true rfl, Nat.le_of_ble_eq_true rfl⟩, by decide, kk_L_13, fun _ h => absurd h List.not_mem_nil⟩, ⟨7, 15, Or.inl ⟨2, dL_tryKeep_6, by decide, rfl⟩, dL_tryKeep_7, kc_L_15, dL_tryKeep_9⟩⟩, fun _ h => absurd h List.not_mem_nil⟩) ⟨congrArg (fun x => some (Value.int x)) hr, hv⟩
def fL_tryBack (a : Nat) (p0 : Int32) (u : tz_U) : Option (Int32 × tz_U) := tz_o a (tz_back p0 (u a)) u
abbrev hL_tryBack : tl_hs := [(0, 5, 6, 13), (0, 5, 10, 19)]
abbrev mL_tryBack : tl_M := (yL_tryBack, cL_tryBack, 3, some .int, tl_rm 9 1 6)
theorem cw_L_tryBack : tl_w9 mL_tryBack hL_tryBack ∈ tl_GW := tl_inGW (tl_in4 (List.mem_of_getElem? (i := 202) rfl)) rfl
theorem cs_L_tryBack : tl_cV mL_tryBack mX9_restore 106 1 := ⟨cd_X9_restore, ml_L_106, im_X9_restore, se_X9_restore, in_X9, ⟨by decide, by decide, by decide +kernel⟩, Nat.le_of_ble_eq_true rfl, Nat.le_of_ble_eq_true rfl⟩
theorem lL_tryBack {E : tl_E} {a : Nat} {p0 : Int32} {u : tz_U} {r : Int32} {v : tz_U} (h1 : tz_on E a) (h : fL_tryBack a p0 u = some (r, v)) : tz_MH E mL_tryBack hL_tryBack [.ref a, .int p0] u r v := by
  unfold fL_tryBack at h
  have hl : (tz_back p0 (u a)).1 = 0 ∨ (tz_back p0 (u a)).1 ∈ [1, 3] := tz_cs2 (tz_cs2 (Or.inl rfl) (Or.inr (show 3 ∈ [1, 3] by decide))) (Or.inr (show 1 ∈ [1, 3] by decide))
  cases h
  refine tl_startH [some (.ref a), some (.int p0), none] rfl rfl rfl (Nat.le_of_ble_eq_true rfl) (tl_ex (fun u9 hA => ?_))
  obtain ⟨r9, v9, e, hr, hv⟩ := tz_back_ok h1 hA p0
  refine tl_aload_n (q := 0) dL_tryBack_0 rfl (tl_iload_n (q := 1) dL_tryBack_1 rfl ?_)
  exact tz_wend (As := [.int p0]) (l := [1, 3]) (l9_restore (tz_T9 h1) e) (tz_T9 h1) hl rfl rfl dL_tryBack_2 cs_L_tryBack ⟨Nat.le_of_ble_eq_true rfl, Nat.le_of_ble_eq_true rfl⟩ dL_tryBack_5 (List.forall_mem_cons.mpr ⟨⟨by decide, 6, ⟨[], [(0, 5, 10, 19)], 0, 5, 13, rfl, ⟨Nat.le_of_ble_eq_true rfl, Nat.le_of_ble_eq_true rfl⟩, by decide, kk_L_13, fun _ h => absurd h List.not_mem_nil⟩, ⟨7, 15, Or.inl ⟨2, dL_tryBack_6, by decide, rfl⟩, dL_tryBack_7, kc_L_15, dL_tryBack_9⟩⟩, List.forall_mem_cons.mpr ⟨⟨by decide, 10, ⟨[(0, 5, 6, 13)], [], 0, 5, 19, rfl, ⟨Nat.le_of_ble_eq_true rfl, Nat.le_of_ble_eq_true rfl⟩, by decide, kk_L_19, List.forall_mem_cons.mpr ⟨⟨by decide, tl_xn 1, tl_xnC 1, kk_L_13, tl_x31⟩, fun _ h => absurd h List.not_mem_nil⟩⟩, ⟨11, 21, Or.inl ⟨2, dL_tryBack_10, by decide, rfl⟩, dL_tryBack_11, kc_L_21, dL_tryBack_13⟩⟩, fun _ h => absurd h List.not_mem_nil⟩⟩) ⟨congrArg (fun x => some (Value.int x)) hr, hv⟩
def fL_tryLoad (a : Nat) (u : tz_U) : Option (Int32 × tz_U) := none
abbrev hL_tryLoad : tl_hs := [(0, 4, 5, 19)]
abbrev mL_tryLoad : tl_M := (yL_tryLoad, cL_tryLoad, 2, some .int, tl_rm 9 1 6)
theorem cw_L_tryLoad : tl_w9 mL_tryLoad hL_tryLoad ∈ tl_GW := tl_inGW (tl_in2 (List.mem_of_getElem? (i := 237) rfl)) rfl
theorem lL_tryLoad {E : tl_E} {a : Nat} {u : tz_U} {r : Int32} {v : tz_U} (h1 : tz_on E a) (h : fL_tryLoad a u = some (r, v)) : tz_MH E mL_tryLoad hL_tryLoad [.ref a] u r v := by cases h
def fL_doneIn (a : Nat) (u : tz_U) : Option (Int32 × tz_U) := some (tz_done (u a), u)
theorem tz_Met_ex {E : tl_E} {M : tl_M} {av : List Value} {S : Type} {A : S → Prop} {HS : S → Heap → Prop} {Q : Option Value → Heap → Prop} (h : ∀ u, A u → tl_Met E M av (HS u) Q) : tl_Met E M av (fun H => ∃ u, A u ∧ HS u H) Q := by
  intro p e h1 h2 h3 s m args below hf happ hP hK
  obtain ⟨hv, ⟨u, hA, hB⟩, hKK, hz⟩ := hP
  exact h u hA p e h1 h2 h3 s m args below hf happ ⟨hv, hB, hKK, hz⟩ hK
theorem tz_Met_q {E : tl_E} {M : tl_M} {av : List Value} {HP : Heap → Prop} {Q Q2 : Option Value → Heap → Prop} (h : tl_Met E M av HP Q) (hq : ∀ r H, Q r H → Q2 r H) : tl_Met E M av HP Q2 := by
  intro p e h1 h2 h3 s m args below hf happ hP hK
  obtain ⟨n, o, a1, a2, a3, ⟨⟨r, a4, a5⟩, a6⟩, a7⟩ := h p e h1 h2 h3 s m args below hf happ hP hK
  exact ⟨n, o, a1, a2, a3, ⟨⟨r, a4, hq _ _ a5⟩, a6⟩, a7⟩
theorem lL_doneIn {E : tl_E} {a : Nat} {u : tz_U} {r : Int32} {v : tz_U} (h1 : tz_on E a) (h : fL_doneIn a u = some (r, v)) : tz_ML E mX9_doneIn [.ref a] u r v := by
  cases h
  refine tz_Met_ex (fun u9 hA => ?_)
  obtain ⟨hI, hS⟩ := hA a h1
  obtain ⟨⟨r, w⟩, e1, -, e2, e3, e4⟩ := tc_doneIn hI hS
  have e2 : r = tz_done (u a) := e2 rfl
  have e3 : tp_FR (tp_ZS a) u9 w := e3
  subst e2
  refine tz_Met_q (l9_doneIn (tz_T9 h1) e1) (fun q H hq => ?_)
  obtain ⟨w2, ⟨q1, rfl⟩, hB⟩ := hq
  refine ⟨w2, ⟨q1, fun b hb => ?_⟩, hB⟩
  by_cases c : b = a
  · subst c; exact ⟨e4, hS⟩
  · refine ⟨tz_CI_out (hA b hb).1 e3 (fun q hq => ?_), (hA b hb).2⟩
    unfold tp_ZS at hq
    rcases h1 with rfl | rfl <;> rcases hb with rfl | rfl <;> omega
