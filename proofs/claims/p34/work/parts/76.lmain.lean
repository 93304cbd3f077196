/-! Printed by wip/p34/gen: the law's loops. -/
theorem sp_5000 : (Int16.ofInt 5000).toInt32 = 5000 := by decide
theorem cs_L_law_189 {nm : String} : tl_cS (mW nm) mL_call 189 5 := ⟨cd_L_call, ml_L_189, sm_L_call, in_L, ⟨by decide, by decide, by decide +kernel⟩, Nat.le_of_ble_eq_true rfl, Nat.le_of_ble_eq_true rfl⟩
theorem cs_L_law_213 {nm : String} : tl_cS (mW nm) mL_cell 213 2 := ⟨cd_L_cell, ml_L_213, sm_L_cell, in_L, ⟨by decide, by decide, by decide +kernel⟩, Nat.le_of_ble_eq_true rfl, Nat.le_of_ble_eq_true rfl⟩
theorem cs_L_law_217 {nm : String} : tl_cS (mW nm) mL_act 217 2 := ⟨cd_L_act, ml_L_217, sm_L_act, in_L, ⟨by decide, by decide, by decide +kernel⟩, Nat.le_of_ble_eq_true rfl, Nat.le_of_ble_eq_true rfl⟩
theorem cs_L_law_221 {nm : String} : tl_cS (mW nm) mL_refuses 221 2 := ⟨cd_L_refuses, ml_L_221, sm_L_refuses, in_L, ⟨by decide, by decide, by decide +kernel⟩, Nat.le_of_ble_eq_true rfl, Nat.le_of_ble_eq_true rfl⟩
theorem cs_L_law_225 {nm : String} : tl_cS (mW nm) mL_alike 225 3 := ⟨cd_L_alike, ml_L_225, sm_L_alike, in_L, ⟨by decide, by decide, by decide +kernel⟩, Nat.le_of_ble_eq_true rfl, Nat.le_of_ble_eq_true rfl⟩
theorem cs_L_law_233 {nm : String} : tl_cS (mW nm) mL_dark 233 3 := ⟨cd_L_dark, ml_L_233, sm_L_dark, in_L, ⟨by decide, by decide, by decide +kernel⟩, Nat.le_of_ble_eq_true rfl, Nat.le_of_ble_eq_true rfl⟩
theorem cs_L_law_240 {nm : String} : tl_cS (mW nm) mL_best 240 3 := ⟨cd_L_best, ml_L_240, sm_L_best, in_L, ⟨by decide, by decide, by decide +kernel⟩, Nat.le_of_ble_eq_true rfl, Nat.le_of_ble_eq_true rfl⟩
theorem cs_L_law_236 {nm : String} : tl_cS (mW nm) mL_done 236 2 := ⟨cd_L_done, ml_L_236, sm_L_done, in_L, ⟨by decide, by decide, by decide +kernel⟩, Nat.le_of_ble_eq_true rfl, Nat.le_of_ble_eq_true rfl⟩
theorem cs_L_law_229 {nm : String} : tl_cS (mW nm) mL_holds 229 1 := ⟨cd_L_holds, ml_L_229, sm_L_holds, in_L, ⟨by decide, by decide, by decide +kernel⟩, Nat.le_of_ble_eq_true rfl, Nat.le_of_ble_eq_true rfl⟩
set_option maxHeartbeats 4000000 in
set_option maxRecDepth 40000 in
def fL_law_p41 (sc : Int32 → Int32) : Nat → Nat → Nat → Int32 → Int32 → Int32 → Int32 → tz_U → Option (Int32 × tz_U)
  | 0, _, _, _, _, _, _, _ => none
  | fu + 1, a2, a3, x4, x5, x6, x7, u =>
  (if 2 ≤ x7 then some (x6, u) else (if x6 = 0 then some (x6, u) else tl_b2 (fL_call a2 9 (1 + ((tz_shr x5 (4 * x7)) &&& 15)) 0 0 u) (fun x10 u12 => (if x10 = x7 then tl_b2 (fL_call a3 9 (1 + ((tz_shr x5 (4 * x7)) &&& 15)) 0 0 u12) (fun x14 u16 => (if x14 = x7 then tl_b2 (fL_call a2 10 x7 (1 + ((tz_shr x5 8) &&& 3)) 0 u16) (fun x18 u20 => (if x18 = x7 then tl_b2 (fL_call a3 10 x7 (1 + ((tz_shr x5 8) &&& 3)) 0 u20) (fun x22 u24 => (if x22 = x7 then tl_let (x7 + 1) (fun x26 => fL_law_p41 sc fu a2 a3 x4 x5 1 x26 u24) else tl_let (x7 + 1) (fun x26 => fL_law_p41 sc fu a2 a3 x4 x5 0 x26 u24))) else tl_let (x7 + 1) (fun x22 => fL_law_p41 sc fu a2 a3 x4 x5 0 x22 u20))) else tl_let (x7 + 1) (fun x18 => fL_law_p41 sc fu a2 a3 x4 x5 0 x18 u16))) else tl_let (x7 + 1) (fun x14 => fL_law_p41 sc fu a2 a3 x4 x5 0 x14 u12)))))

set_option maxHeartbeats 4000000 in
set_option maxRecDepth 40000 in
def fL_law_p164 (sc : Int32 → Int32) : Nat → Nat → Nat → Int32 → Int32 → Int32 → tz_U → Option (Int32 × tz_U)
  | 0, _, _, _, _, _, _ => none
  | fu + 1, a2, a3, x4, x5, x6, u =>
  (if x4 ≤ x6 then some (x5, u) else (if x5 = 0 then some (x5, u) else tl_g (¬ (2 + x6) < 0) (tl_let (sc (2 + x6)) (fun x9 => tl_b2 (fL_act a2 x9 u) (fun x11 u13 => tl_b2 (fL_refuses a3 (x9 - x9 / 100000 * 100000) u13) (fun x14 u16 => (if x14 = 0 then tl_let (x6 + 1) (fun x18 => fL_law_p164 sc fu a2 a3 x4 0 x18 u16) else tl_b2 (fL_act a3 x9 u16) (fun x18 u20 => (if x18 = x11 then tl_b2 (fL_refuses a3 (x9 - x9 / 1000 * 1000) u20) (fun x22 u24 => (if x22 = 0 then tl_let (x6 + 1) (fun x26 => fL_law_p164 sc fu a2 a3 x4 0 x26 u24) else tl_b2 (fL_alike a2 a3 (x9 - x9 / 5000 * 5000) u24) (fun x26 u28 => (if x26 = 0 then tl_let (x6 + 1) (fun x30 => fL_law_p164 sc fu a2 a3 x4 0 x30 u28) else tl_k (fun  (u33 : tz_U) => tl_b2 (fL_dark a2 a3 (x9 / 7) u33) (fun x34 u36 => (if x34 = 0 then tl_let (x6 + 1) (fun x38 => fL_law_p164 sc fu a2 a3 x4 0 x38 u36) else tl_k (fun  (u41 : tz_U) => (if 1 < (x6 - x6 / 4 * 4) then tl_let (x6 + 1) (fun x43 => fL_law_p164 sc fu a2 a3 x4 1 x43 u41) else tl_b2 (fL_best a2 a3 (x9 / 11) u41) (fun x43 u45 => (if x43 = 0 then tl_let (x6 + 1) (fun x47 => fL_law_p164 sc fu a2 a3 x4 0 x47 u45) else tl_let (x6 + 1) (fun x47 => fL_law_p164 sc fu a2 a3 x4 1 x47 u45))))) (fun K38 => (if 0 < (x6 - x6 / 3 * 3) then K38  u36 else tl_b2 (fL_done a2 a3 u36) (fun x49 u51 => (if x49 = 0 then tl_let (x6 + 1) (fun x53 => fL_law_p164 sc fu a2 a3 x4 0 x53 u51) else K38  u51))))))) (fun K30 => (if (x6 - x6 / 2 * 2) = 0 then tl_b2 (fL_holds a2 u28) (fun x55 u57 => (if x55 = 0 then tl_let (x6 + 1) (fun x59 => fL_law_p164 sc fu a2 a3 x4 0 x59 u57) else K30  u57)) else tl_b2 (fL_holds a3 u28) (fun x55 u57 => (if x55 = 0 then tl_let (x6 + 1) (fun x59 => fL_law_p164 sc fu a2 a3 x4 0 x59 u57) else K30  u57)))))))) else tl_let (x6 + 1) (fun x22 => fL_law_p164 sc fu a2 a3 x4 0 x22 u20))))))))))

set_option maxHeartbeats 4000000 in
set_option maxRecDepth 40000 in
theorem lL_law_p41 {E : tl_E} {nm : String} {b L : Nat} {xs : Nat → Int32} {Z : List Frame → Array Value → State → State → Prop} {kE : Nat} : ∀ (n : Nat) (a2 : Nat) (a3 : Nat) (x4 : Int32) (x5 : Int32) (x6 : Int32) (x7 : Int32) (u : tz_U) (w : Int32 × tz_U) (k : Nat), tz_on E a2 → tz_on E a3 → fL_law_p41 (tz_sc L xs) n a2 a3 x4 x5 x6 x7 u = some w → k + n * 4 ≤ kE → L ≤ 260 → kE ≤ 315488 → tz_R E (mW nm) (tw_X E b L xs) Z kE (tz_HU E w.2) 161 [some (.ref b), some (.ref a2), some (.ref a3), some (.int x4), none, some (.int w.1), none, none, none] [] → tz_R E (mW nm) (tw_X E b L xs) Z k (tz_HU E u) 41 [some (.ref b), some (.ref a2), some (.ref a3), some (.int x4), some (.int x5), some (.int x6), some (.int x7), none, none] [] := by
  intro n
  induction n with
  | zero => intro a2 a3 x4 x5 x6 x7 u w k h2 h3 h; exact absurd h (by simp [fL_law_p41])
  | succ n ih =>
    intro a2 a3 x4 x5 x6 x7 u w k h2 h3 h hk hL hE kk
    rw [fL_law_p41] at h
    refine tl_iload dL_law_41 rfl (tl_iconst (v := 2) dL_law_43 ic_2 (tl_icmp_ge (tgt := 161) dL_law_44 (by decide) (fun c8 => ?_) (fun c8 => ?_)))
    · replace h := tl_ip h c8
      cases h
      exact tz_fg (ls2 := [some (.ref b), some (.ref a2), some (.ref a3), some (.int x4), none, some (.int x6), none, none, none]) (And.intro rfl (And.intro rfl (And.intro rfl (And.intro rfl (And.intro rfl trivial))))) (tz_wd (k2 := kE) (by omega) kk)
    · replace h := tl_in h c8
      refine tl_iload dL_law_47 rfl (tl_if_eq (tgt := 161) dL_law_49 (by decide) (fun c9 => ?_) (fun c9 => ?_))
      · replace h := tl_ip h c9
        cases h
        exact tz_fg (ls2 := [some (.ref b), some (.ref a2), some (.ref a3), some (.int x4), none, some (.int x6), none, none, none]) (And.intro rfl (And.intro rfl (And.intro rfl (And.intro rfl (And.intro rfl trivial))))) (tz_wd (k2 := kE) (by omega) kk)
      · replace h := tl_in h c9
        obtain ⟨x10, u12, e11, h⟩ := tl_b2i h
        refine tl_aload_n dL_law_52 rfl (tl_bipush (v := 9) dL_law_53 bp_9 (tl_iconst (v := 1) dL_law_55 ic_1 (tl_iload dL_law_56 rfl (tl_iconst (v := 4) dL_law_58 ic_4 (tl_iload dL_law_59 rfl (tl_imul dL_law_61 (tz_ishr dL_law_62 (tl_bipush (v := 15) dL_law_63 bp_15 (tl_iand dL_law_65 (tl_iadd dL_law_66 (tl_iconst (v := 0) dL_law_67 ic_0 (tl_iconst (v := 0) dL_law_68 ic_0 (tz_cS5 (lL_call h2 e11) dL_law_69 cs_L_law_189 (c := 1) ⟨rfl, rfl⟩ (k2 := (k + 1)) (by omega) (CM := 315488) ⟨Nat.le_of_ble_eq_true rfl, Nat.le_of_ble_eq_true rfl⟩ (by omega : (k + 1) ≤ 315488) (Nat.le_of_ble_eq_true rfl) (tl_iload dL_law_72 rfl (tl_icmp_ne (tgt := 152) dL_law_74 (by decide) (fun c13 => ?_) (fun c13 => ?_))))))))))))))))
        · replace h := tl_in h c13
          refine tl_iconst (v := 0) dL_law_152 ic_0 (tl_istore dL_law_153 (Nat.le_of_ble_eq_true rfl) (tz_iincK dL_law_155 rfl (ii_1 _) (Nat.le_of_ble_eq_true rfl) (fun x14 e => ?_)))
          have h := tl_leteq e h
          clear e
          refine tl_goto (tgt := 41) dL_law_158 (by decide) (?_)
          exact tz_fg (ls2 := [some (.ref b), some (.ref a2), some (.ref a3), some (.int x4), some (.int x5), some (.int 0), some (.int x14), none, none]) (And.intro rfl (And.intro rfl (And.intro rfl (And.intro rfl (And.intro rfl (And.intro rfl (And.intro rfl trivial))))))) (tz_wd (k2 := k + 4) (by omega) (ih _ _ _ _ _ _ _ _ (k + 4) h2 h3 h (by omega) hL hE kk))
        · replace h := tl_ip h c13
          obtain ⟨x14, u16, e15, h⟩ := tl_b2i h
          refine tl_aload_n dL_law_77 rfl (tl_bipush (v := 9) dL_law_78 bp_9 (tl_iconst (v := 1) dL_law_80 ic_1 (tl_iload dL_law_81 rfl (tl_iconst (v := 4) dL_law_83 ic_4 (tl_iload dL_law_84 rfl (tl_imul dL_law_86 (tz_ishr dL_law_87 (tl_bipush (v := 15) dL_law_88 bp_15 (tl_iand dL_law_90 (tl_iadd dL_law_91 (tl_iconst (v := 0) dL_law_92 ic_0 (tl_iconst (v := 0) dL_law_93 ic_0 (tz_cS5 (lL_call h3 e15) dL_law_94 cs_L_law_189 (c := 1) ⟨rfl, rfl⟩ (k2 := (k + 2)) (by omega) (CM := 315488) ⟨Nat.le_of_ble_eq_true rfl, Nat.le_of_ble_eq_true rfl⟩ (by omega : (k + 2) ≤ 315488) (Nat.le_of_ble_eq_true rfl) (tl_iload dL_law_97 rfl (tl_icmp_ne (tgt := 152) dL_law_99 (by decide) (fun c17 => ?_) (fun c17 => ?_))))))))))))))))
          · replace h := tl_in h c17
            refine tl_iconst (v := 0) dL_law_152 ic_0 (tl_istore dL_law_153 (Nat.le_of_ble_eq_true rfl) (tz_iincK dL_law_155 rfl (ii_1 _) (Nat.le_of_ble_eq_true rfl) (fun x18 e => ?_)))
            have h := tl_leteq e h
            clear e
            refine tl_goto (tgt := 41) dL_law_158 (by decide) (?_)
            exact tz_fg (ls2 := [some (.ref b), some (.ref a2), some (.ref a3), some (.int x4), some (.int x5), some (.int 0), some (.int x18), none, none]) (And.intro rfl (And.intro rfl (And.intro rfl (And.intro rfl (And.intro rfl (And.intro rfl (And.intro rfl trivial))))))) (tz_wd (k2 := k + 4) (by omega) (ih _ _ _ _ _ _ _ _ (k + 4) h2 h3 h (by omega) hL hE kk))
          · replace h := tl_ip h c17
            obtain ⟨x18, u20, e19, h⟩ := tl_b2i h
            refine tl_aload_n dL_law_102 rfl (tl_bipush (v := 10) dL_law_103 bp_10 (tl_iload dL_law_105 rfl (tl_iconst (v := 1) dL_law_107 ic_1 (tl_iload dL_law_108 rfl (tl_bipush (v := 8) dL_law_110 bp_8 (tz_ishr dL_law_112 (tl_iconst (v := 3) dL_law_113 ic_3 (tl_iand dL_law_114 (tl_iadd dL_law_115 (tl_iconst (v := 0) dL_law_116 ic_0 (tz_cS5 (lL_call h2 e19) dL_law_117 cs_L_law_189 (c := 1) ⟨rfl, rfl⟩ (k2 := (k + 3)) (by omega) (CM := 315488) ⟨Nat.le_of_ble_eq_true rfl, Nat.le_of_ble_eq_true rfl⟩ (by omega : (k + 3) ≤ 315488) (Nat.le_of_ble_eq_true rfl) (tl_iload dL_law_120 rfl (tl_icmp_ne (tgt := 152) dL_law_122 (by decide) (fun c21 => ?_) (fun c21 => ?_))))))))))))))
            · replace h := tl_in h c21
              refine tl_iconst (v := 0) dL_law_152 ic_0 (tl_istore dL_law_153 (Nat.le_of_ble_eq_true rfl) (tz_iincK dL_law_155 rfl (ii_1 _) (Nat.le_of_ble_eq_true rfl) (fun x22 e => ?_)))
              have h := tl_leteq e h
              clear e
              refine tl_goto (tgt := 41) dL_law_158 (by decide) (?_)
              exact tz_fg (ls2 := [some (.ref b), some (.ref a2), some (.ref a3), some (.int x4), some (.int x5), some (.int 0), some (.int x22), none, none]) (And.intro rfl (And.intro rfl (And.intro rfl (And.intro rfl (And.intro rfl (And.intro rfl (And.intro rfl trivial))))))) (tz_wd (k2 := k + 4) (by omega) (ih _ _ _ _ _ _ _ _ (k + 4) h2 h3 h (by omega) hL hE kk))
            · replace h := tl_ip h c21
              obtain ⟨x22, u24, e23, h⟩ := tl_b2i h
              refine tl_aload_n dL_law_125 rfl (tl_bipush (v := 10) dL_law_126 bp_10 (tl_iload dL_law_128 rfl (tl_iconst (v := 1) dL_law_130 ic_1 (tl_iload dL_law_131 rfl (tl_bipush (v := 8) dL_law_133 bp_8 (tz_ishr dL_law_135 (tl_iconst (v := 3) dL_law_136 ic_3 (tl_iand dL_law_137 (tl_iadd dL_law_138 (tl_iconst (v := 0) dL_law_139 ic_0 (tz_cS5 (lL_call h3 e23) dL_law_140 cs_L_law_189 (c := 1) ⟨rfl, rfl⟩ (k2 := (k + 4)) (by omega) (CM := 315488) ⟨Nat.le_of_ble_eq_true rfl, Nat.le_of_ble_eq_true rfl⟩ (by omega : (k + 4) ≤ 315488) (Nat.le_of_ble_eq_true rfl) (tl_iload dL_law_143 rfl (tl_icmp_ne (tgt := 152) dL_law_145 (by decide) (fun c25 => ?_) (fun c25 => ?_))))))))))))))
              · replace h := tl_in h c25
                refine tl_iconst (v := 0) dL_law_152 ic_0 (tl_istore dL_law_153 (Nat.le_of_ble_eq_true rfl) (tz_iincK dL_law_155 rfl (ii_1 _) (Nat.le_of_ble_eq_true rfl) (fun x26 e => ?_)))
                have h := tl_leteq e h
                clear e
                refine tl_goto (tgt := 41) dL_law_158 (by decide) (?_)
                exact tz_fg (ls2 := [some (.ref b), some (.ref a2), some (.ref a3), some (.int x4), some (.int x5), some (.int 0), some (.int x26), none, none]) (And.intro rfl (And.intro rfl (And.intro rfl (And.intro rfl (And.intro rfl (And.intro rfl (And.intro rfl trivial))))))) (tz_wd (k2 := k + 4) (by omega) (ih _ _ _ _ _ _ _ _ (k + 4) h2 h3 h (by omega) hL hE kk))
              · replace h := tl_ip h c25
                refine tl_iconst (v := 1) dL_law_148 ic_1 (tl_goto (tgt := 153) dL_law_149 (by decide) (tl_istore dL_law_153 (Nat.le_of_ble_eq_true rfl) (tz_iincK dL_law_155 rfl (ii_1 _) (Nat.le_of_ble_eq_true rfl) (fun x26 e => ?_))))
                have h := tl_leteq e h
                clear e
                refine tl_goto (tgt := 41) dL_law_158 (by decide) (?_)
                exact tz_fg (ls2 := [some (.ref b), some (.ref a2), some (.ref a3), some (.int x4), some (.int x5), some (.int 1), some (.int x26), none, none]) (And.intro rfl (And.intro rfl (And.intro rfl (And.intro rfl (And.intro rfl (And.intro rfl (And.intro rfl trivial))))))) (tz_wd (k2 := k + 4) (by omega) (ih _ _ _ _ _ _ _ _ (k + 4) h2 h3 h (by omega) hL hE kk))

set_option maxHeartbeats 4000000 in
set_option maxRecDepth 40000 in
theorem lL_law_p164 {E : tl_E} {nm : String} {b L : Nat} {xs : Nat → Int32} {Z : List Frame → Array Value → State → State → Prop} {kE : Nat} : ∀ (n : Nat) (a2 : Nat) (a3 : Nat) (x4 : Int32) (x5 : Int32) (x6 : Int32) (u : tz_U) (w : Int32 × tz_U) (k : Nat), tz_on E a2 → tz_on E a3 → fL_law_p164 (tz_sc L xs) n a2 a3 x4 x5 x6 u = some w → k + n * 9526 ≤ kE → L ≤ 260 → kE ≤ 315488 → tz_R E (mW nm) (tw_X E b L xs) Z kE (tz_HU E w.2) 329 [none, none, none, none, none, some (.int w.1), none, none, none] [] → tz_R E (mW nm) (tw_X E b L xs) Z k (tz_HU E u) 164 [some (.ref b), some (.ref a2), some (.ref a3), some (.int x4), none, some (.int x5), some (.int x6), none, none] [] := by
  intro n
  induction n with
  | zero => intro a2 a3 x4 x5 x6 u w k h2 h3 h; exact absurd h (by simp [fL_law_p164])
  | succ n ih =>
    intro a2 a3 x4 x5 x6 u w k h2 h3 h hk hL hE kk
    rw [fL_law_p164] at h
    refine tl_iload dL_law_164 rfl (tl_iload_n dL_law_166 rfl (tl_icmp_ge (tgt := 329) dL_law_167 (by decide) (fun c7 => ?_) (fun c7 => ?_)))
    · replace h := tl_ip h c7
      cases h
      exact tz_fg (ls2 := [none, none, none, none, none, some (.int x5), none, none, none]) (And.intro rfl trivial) (tz_wd (k2 := kE) (by omega) kk)
    · replace h := tl_in h c7
      refine tl_iload dL_law_170 rfl (tl_if_eq (tgt := 329) dL_law_172 (by decide) (fun c8 => ?_) (fun c8 => ?_))
      · replace h := tl_ip h c8
        cases h
        exact tz_fg (ls2 := [none, none, none, none, none, some (.int x5), none, none, none]) (And.intro rfl trivial) (tz_wd (k2 := kE) (by omega) kk)
      · replace h := tl_in h c8
        obtain ⟨g10, h⟩ := tl_gi h
        refine tl_aload_n dL_law_175 rfl (tl_iconst (v := 2) dL_law_176 ic_2 (tl_iload dL_law_177 rfl (tl_iadd dL_law_179 (tz_cC dL_law_180 cs_L_law_213 hL g10 (CM := 315488) ⟨Nat.le_of_ble_eq_true rfl, Nat.le_of_ble_eq_true rfl⟩ (by omega : k ≤ 315488) (Nat.le_of_ble_eq_true rfl) (fun x9 e => ?_)))))
        have h := tl_leteq e h
        clear e
        obtain ⟨x11, u13, e12, h⟩ := tl_b2i h
        obtain ⟨x14, u16, e15, h⟩ := tl_b2i h
        refine tl_istore dL_law_183 (Nat.le_of_ble_eq_true rfl) (tl_aload_n dL_law_185 rfl (tl_iload dL_law_186 rfl (tz_cS2 (lL_act h2 e12) dL_law_188 cs_L_law_217 (c := 5) ⟨rfl, rfl⟩ (k2 := (k + 5)) (by omega) (CM := 315488) ⟨Nat.le_of_ble_eq_true rfl, Nat.le_of_ble_eq_true rfl⟩ (by omega : (k + 5) ≤ 315488) (Nat.le_of_ble_eq_true rfl) (tl_istore dL_law_191 (Nat.le_of_ble_eq_true rfl) (tl_aload_n dL_law_193 rfl (tl_iload dL_law_194 rfl (tl_ldc dL_law_196 kc_L_220 (tl_irem dL_law_198 (by decide) (tz_cS2 (lL_refuses h3 e15) dL_law_199 cs_L_law_221 (c := 56) ⟨rfl, rfl⟩ (k2 := (k + 61)) (by omega) (CM := 315488) ⟨Nat.le_of_ble_eq_true rfl, Nat.le_of_ble_eq_true rfl⟩ (by omega : (k + 61) ≤ 315488) (Nat.le_of_ble_eq_true rfl) (tl_if_eq (tgt := 320) dL_law_202 (by decide) (fun c17 => ?_) (fun c17 => ?_)))))))))))
        · replace h := tl_ip h c17
          refine tl_iconst (v := 0) dL_law_320 ic_0 (tl_istore dL_law_321 (Nat.le_of_ble_eq_true rfl) (tz_iincK dL_law_323 rfl (ii_1 _) (Nat.le_of_ble_eq_true rfl) (fun x18 e => ?_)))
          have h := tl_leteq e h
          clear e
          refine tl_goto (tgt := 164) dL_law_326 (by decide) (?_)
          exact tz_fg (ls2 := [some (.ref b), some (.ref a2), some (.ref a3), some (.int x4), none, some (.int 0), some (.int x18), none, none]) (And.intro rfl (And.intro rfl (And.intro rfl (And.intro rfl (And.intro rfl (And.intro rfl trivial)))))) (tz_wd (k2 := k + 9526) (by omega) (ih _ _ _ _ _ _ _ (k + 9526) h2 h3 h (by omega) hL hE kk))
        · replace h := tl_in h c17
          obtain ⟨x18, u20, e19, h⟩ := tl_b2i h
          refine tl_aload_n dL_law_205 rfl (tl_iload dL_law_206 rfl (tz_cS2 (lL_act h3 e19) dL_law_208 cs_L_law_217 (c := 5) ⟨rfl, rfl⟩ (k2 := (k + 66)) (by omega) (CM := 315488) ⟨Nat.le_of_ble_eq_true rfl, Nat.le_of_ble_eq_true rfl⟩ (by omega : (k + 66) ≤ 315488) (Nat.le_of_ble_eq_true rfl) (tl_iload dL_law_211 rfl (tl_icmp_ne (tgt := 320) dL_law_213 (by decide) (fun c21 => ?_) (fun c21 => ?_)))))
          · replace h := tl_in h c21
            refine tl_iconst (v := 0) dL_law_320 ic_0 (tl_istore dL_law_321 (Nat.le_of_ble_eq_true rfl) (tz_iincK dL_law_323 rfl (ii_1 _) (Nat.le_of_ble_eq_true rfl) (fun x22 e => ?_)))
            have h := tl_leteq e h
            clear e
            refine tl_goto (tgt := 164) dL_law_326 (by decide) (?_)
            exact tz_fg (ls2 := [some (.ref b), some (.ref a2), some (.ref a3), some (.int x4), none, some (.int 0), some (.int x22), none, none]) (And.intro rfl (And.intro rfl (And.intro rfl (And.intro rfl (And.intro rfl (And.intro rfl trivial)))))) (tz_wd (k2 := k + 9526) (by omega) (ih _ _ _ _ _ _ _ (k + 9526) h2 h3 h (by omega) hL hE kk))
          · replace h := tl_ip h c21
            obtain ⟨x22, u24, e23, h⟩ := tl_b2i h
            refine tl_aload_n dL_law_216 rfl (tl_iload dL_law_217 rfl (tl_sipush (v := 1000) dL_law_219 sp_1000 (tl_irem dL_law_222 (by decide) (tz_cS2 (lL_refuses h3 e23) dL_law_223 cs_L_law_221 (c := 56) ⟨rfl, rfl⟩ (k2 := (k + 122)) (by omega) (CM := 315488) ⟨Nat.le_of_ble_eq_true rfl, Nat.le_of_ble_eq_true rfl⟩ (by omega : (k + 122) ≤ 315488) (Nat.le_of_ble_eq_true rfl) (tl_if_eq (tgt := 320) dL_law_226 (by decide) (fun c25 => ?_) (fun c25 => ?_))))))
            · replace h := tl_ip h c25
              refine tl_iconst (v := 0) dL_law_320 ic_0 (tl_istore dL_law_321 (Nat.le_of_ble_eq_true rfl) (tz_iincK dL_law_323 rfl (ii_1 _) (Nat.le_of_ble_eq_true rfl) (fun x26 e => ?_)))
              have h := tl_leteq e h
              clear e
              refine tl_goto (tgt := 164) dL_law_326 (by decide) (?_)
              exact tz_fg (ls2 := [some (.ref b), some (.ref a2), some (.ref a3), some (.int x4), none, some (.int 0), some (.int x26), none, none]) (And.intro rfl (And.intro rfl (And.intro rfl (And.intro rfl (And.intro rfl (And.intro rfl trivial)))))) (tz_wd (k2 := k + 9526) (by omega) (ih _ _ _ _ _ _ _ (k + 9526) h2 h3 h (by omega) hL hE kk))
            · replace h := tl_in h c25
              obtain ⟨x26, u28, e27, h⟩ := tl_b2i h
              refine tl_aload_n dL_law_229 rfl (tl_aload_n dL_law_230 rfl (tl_iload dL_law_231 rfl (tl_sipush (v := 5000) dL_law_233 sp_5000 (tl_irem dL_law_236 (by decide) (tz_cS3 (lL_alike h2 h3 e27) dL_law_237 cs_L_law_225 (c := 170) ⟨rfl, rfl⟩ (k2 := (k + 292)) (by omega) (CM := 315488) ⟨Nat.le_of_ble_eq_true rfl, Nat.le_of_ble_eq_true rfl⟩ (by omega : (k + 292) ≤ 315488) (Nat.le_of_ble_eq_true rfl) (tl_if_eq (tgt := 320) dL_law_240 (by decide) (fun c29 => ?_) (fun c29 => ?_)))))))
              · replace h := tl_ip h c29
                refine tl_iconst (v := 0) dL_law_320 ic_0 (tl_istore dL_law_321 (Nat.le_of_ble_eq_true rfl) (tz_iincK dL_law_323 rfl (ii_1 _) (Nat.le_of_ble_eq_true rfl) (fun x30 e => ?_)))
                have h := tl_leteq e h
                clear e
                refine tl_goto (tgt := 164) dL_law_326 (by decide) (?_)
                exact tz_fg (ls2 := [some (.ref b), some (.ref a2), some (.ref a3), some (.int x4), none, some (.int 0), some (.int x30), none, none]) (And.intro rfl (And.intro rfl (And.intro rfl (And.intro rfl (And.intro rfl (And.intro rfl trivial)))))) (tz_wd (k2 := k + 9526) (by omega) (ih _ _ _ _ _ _ _ (k + 9526) h2 h3 h (by omega) hL hE kk))
              · replace h := tl_in h c29
                refine tl_iload dL_law_243 rfl (tl_iconst (v := 2) dL_law_245 ic_2 (tl_irem dL_law_246 (by decide) (?_)))
                obtain ⟨K30, e32, h⟩ := tl_ki h
                have q31 : ∀  (u33 : tz_U), K30  u33 = some w → tz_R E (mW nm) (tw_X E b L xs) Z (k + 9396) (tz_HU E u33) 267 [some (.ref b), some (.ref a2), some (.ref a3), some (.int x4), none, none, some (.int x6), some (.int x9), none] [] := by
                  intro  u33 h
                  have h := tl_kb0 e32 h
                  clear e32
                  obtain ⟨x34, u36, e35, h⟩ := tl_b2i h
                  refine tl_aload_n dL_law_267 rfl (tl_aload_n dL_law_268 rfl (tl_iload dL_law_269 rfl (tl_bipush (v := 7) dL_law_271 bp_7 (tl_idiv dL_law_273 (by decide) (tz_cS3 (lL_dark h2 h3 e35) dL_law_274 cs_L_law_233 (c := 71) ⟨rfl, rfl⟩ (k2 := (k + 9467)) (by omega) (CM := 315488) ⟨Nat.le_of_ble_eq_true rfl, Nat.le_of_ble_eq_true rfl⟩ (by omega : (k + 9467) ≤ 315488) (Nat.le_of_ble_eq_true rfl) (tl_if_eq (tgt := 320) dL_law_277 (by decide) (fun c37 => ?_) (fun c37 => ?_)))))))
                  · replace h := tl_ip h c37
                    refine tl_iconst (v := 0) dL_law_320 ic_0 (tl_istore dL_law_321 (Nat.le_of_ble_eq_true rfl) (tz_iincK dL_law_323 rfl (ii_1 _) (Nat.le_of_ble_eq_true rfl) (fun x38 e => ?_)))
                    have h := tl_leteq e h
                    clear e
                    refine tl_goto (tgt := 164) dL_law_326 (by decide) (?_)
                    exact tz_fg (ls2 := [some (.ref b), some (.ref a2), some (.ref a3), some (.int x4), none, some (.int 0), some (.int x38), none, none]) (And.intro rfl (And.intro rfl (And.intro rfl (And.intro rfl (And.intro rfl (And.intro rfl trivial)))))) (tz_wd (k2 := k + 9526) (by omega) (ih _ _ _ _ _ _ _ (k + 9526) h2 h3 h (by omega) hL hE kk))
                  · replace h := tl_in h c37
                    refine tl_iload dL_law_280 rfl (tl_iconst (v := 3) dL_law_282 ic_3 (tl_irem dL_law_283 (by decide) (?_)))
                    obtain ⟨K38, e40, h⟩ := tl_ki h
                    have q39 : ∀  (u41 : tz_U), K38  u41 = some w → tz_R E (mW nm) (tw_X E b L xs) Z (k + 9504) (tz_HU E u41) 295 [some (.ref b), some (.ref a2), some (.ref a3), some (.int x4), none, none, some (.int x6), some (.int x9), none] [] := by
                      intro  u41 h
                      have h := tl_kb0 e40 h
                      clear e40
                      refine tl_iload dL_law_295 rfl (tl_iconst (v := 4) dL_law_297 ic_4 (tl_irem dL_law_298 (by decide) (tl_iconst (v := 1) dL_law_299 ic_1 (tl_icmp_gt (tgt := 316) dL_law_300 (by decide) (fun c42 => ?_) (fun c42 => ?_)))))
                      · replace h := tl_ip h c42
                        refine tl_iconst (v := 1) dL_law_316 ic_1 (tl_goto (tgt := 321) dL_law_317 (by decide) (tl_istore dL_law_321 (Nat.le_of_ble_eq_true rfl) (tz_iincK dL_law_323 rfl (ii_1 _) (Nat.le_of_ble_eq_true rfl) (fun x43 e => ?_))))
                        have h := tl_leteq e h
                        clear e
                        refine tl_goto (tgt := 164) dL_law_326 (by decide) (?_)
                        exact tz_fg (ls2 := [some (.ref b), some (.ref a2), some (.ref a3), some (.int x4), none, some (.int 1), some (.int x43), none, none]) (And.intro rfl (And.intro rfl (And.intro rfl (And.intro rfl (And.intro rfl (And.intro rfl trivial)))))) (tz_wd (k2 := k + 9526) (by omega) (ih _ _ _ _ _ _ _ (k + 9526) h2 h3 h (by omega) hL hE kk))
                      · replace h := tl_in h c42
                        obtain ⟨x43, u45, e44, h⟩ := tl_b2i h
                        refine tl_aload_n dL_law_303 rfl (tl_aload_n dL_law_304 rfl (tl_iload dL_law_305 rfl (tl_bipush (v := 11) dL_law_307 bp_11 (tl_idiv dL_law_309 (by decide) (tz_cS3 (lL_best h2 h3 e44) dL_law_310 cs_L_law_240 (c := 22) ⟨rfl, rfl⟩ (k2 := (k + 9526)) (by omega) (CM := 315488) ⟨Nat.le_of_ble_eq_true rfl, Nat.le_of_ble_eq_true rfl⟩ (by omega : (k + 9526) ≤ 315488) (Nat.le_of_ble_eq_true rfl) (tl_if_eq (tgt := 320) dL_law_313 (by decide) (fun c46 => ?_) (fun c46 => ?_)))))))
                        · replace h := tl_ip h c46
                          refine tl_iconst (v := 0) dL_law_320 ic_0 (tl_istore dL_law_321 (Nat.le_of_ble_eq_true rfl) (tz_iincK dL_law_323 rfl (ii_1 _) (Nat.le_of_ble_eq_true rfl) (fun x47 e => ?_)))
                          have h := tl_leteq e h
                          clear e
                          refine tl_goto (tgt := 164) dL_law_326 (by decide) (?_)
                          exact tz_fg (ls2 := [some (.ref b), some (.ref a2), some (.ref a3), some (.int x4), none, some (.int 0), some (.int x47), none, none]) (And.intro rfl (And.intro rfl (And.intro rfl (And.intro rfl (And.intro rfl (And.intro rfl trivial)))))) (tz_wd (k2 := k + 9526) (by omega) (ih _ _ _ _ _ _ _ (k + 9526) h2 h3 h (by omega) hL hE kk))
                        · replace h := tl_in h c46
                          refine tl_iconst (v := 1) dL_law_316 ic_1 (tl_goto (tgt := 321) dL_law_317 (by decide) (tl_istore dL_law_321 (Nat.le_of_ble_eq_true rfl) (tz_iincK dL_law_323 rfl (ii_1 _) (Nat.le_of_ble_eq_true rfl) (fun x47 e => ?_))))
                          have h := tl_leteq e h
                          clear e
                          refine tl_goto (tgt := 164) dL_law_326 (by decide) (?_)
                          exact tz_fg (ls2 := [some (.ref b), some (.ref a2), some (.ref a3), some (.int x4), none, some (.int 1), some (.int x47), none, none]) (And.intro rfl (And.intro rfl (And.intro rfl (And.intro rfl (And.intro rfl (And.intro rfl trivial)))))) (tz_wd (k2 := k + 9526) (by omega) (ih _ _ _ _ _ _ _ (k + 9526) h2 h3 h (by omega) hL hE kk))
                    clear e40
                    refine tl_if_gt (tgt := 295) dL_law_284 (by decide) (fun c48 => ?_) (fun c48 => ?_)
                    · replace h := tl_ip h c48
                      exact tz_fg (ls2 := [some (.ref b), some (.ref a2), some (.ref a3), some (.int x4), none, none, some (.int x6), some (.int x9), none]) (And.intro rfl (And.intro rfl (And.intro rfl (And.intro rfl (And.intro rfl (And.intro rfl trivial)))))) (tz_wd (k2 := (k + 9504)) (by omega) (q39  _ h))
                    · replace h := tl_in h c48
                      obtain ⟨x49, u51, e50, h⟩ := tl_b2i h
                      refine tl_aload_n dL_law_287 rfl (tl_aload_n dL_law_288 rfl (tz_cS2 (lL_done h2 h3 e50) dL_law_289 cs_L_law_236 (c := 37) ⟨rfl, rfl⟩ (k2 := (k + 9504)) (by omega) (CM := 315488) ⟨Nat.le_of_ble_eq_true rfl, Nat.le_of_ble_eq_true rfl⟩ (by omega : (k + 9504) ≤ 315488) (Nat.le_of_ble_eq_true rfl) (tl_if_eq (tgt := 320) dL_law_292 (by decide) (fun c52 => ?_) (fun c52 => ?_))))
                      · replace h := tl_ip h c52
                        refine tl_iconst (v := 0) dL_law_320 ic_0 (tl_istore dL_law_321 (Nat.le_of_ble_eq_true rfl) (tz_iincK dL_law_323 rfl (ii_1 _) (Nat.le_of_ble_eq_true rfl) (fun x53 e => ?_)))
                        have h := tl_leteq e h
                        clear e
                        refine tl_goto (tgt := 164) dL_law_326 (by decide) (?_)
                        exact tz_fg (ls2 := [some (.ref b), some (.ref a2), some (.ref a3), some (.int x4), none, some (.int 0), some (.int x53), none, none]) (And.intro rfl (And.intro rfl (And.intro rfl (And.intro rfl (And.intro rfl (And.intro rfl trivial)))))) (tz_wd (k2 := k + 9526) (by omega) (ih _ _ _ _ _ _ _ (k + 9526) h2 h3 h (by omega) hL hE kk))
                      · replace h := tl_in h c52
                        exact tz_fg (ls2 := [some (.ref b), some (.ref a2), some (.ref a3), some (.int x4), none, none, some (.int x6), some (.int x9), none]) (And.intro rfl (And.intro rfl (And.intro rfl (And.intro rfl (And.intro rfl (And.intro rfl trivial)))))) (tz_wd (k2 := (k + 9504)) (by omega) (q39  _ h))
                clear e32
                refine tl_if_ne (tgt := 260) dL_law_247 (by decide) (fun c54 => ?_) (fun c54 => ?_)
                · replace h := tl_in h c54
                  obtain ⟨x55, u57, e56, h⟩ := tl_b2i h
                  refine tl_aload_n dL_law_260 rfl (tz_cS1 (lL_holds h3 e56) dL_law_261 cs_L_law_229 (c := 9104) ⟨rfl, rfl⟩ (k2 := (k + 9396)) (by omega) (CM := 315488) ⟨Nat.le_of_ble_eq_true rfl, Nat.le_of_ble_eq_true rfl⟩ (by omega : (k + 9396) ≤ 315488) (Nat.le_of_ble_eq_true rfl) (tl_if_eq (tgt := 320) dL_law_264 (by decide) (fun c58 => ?_) (fun c58 => ?_)))
                  · replace h := tl_ip h c58
                    refine tl_iconst (v := 0) dL_law_320 ic_0 (tl_istore dL_law_321 (Nat.le_of_ble_eq_true rfl) (tz_iincK dL_law_323 rfl (ii_1 _) (Nat.le_of_ble_eq_true rfl) (fun x59 e => ?_)))
                    have h := tl_leteq e h
                    clear e
                    refine tl_goto (tgt := 164) dL_law_326 (by decide) (?_)
                    exact tz_fg (ls2 := [some (.ref b), some (.ref a2), some (.ref a3), some (.int x4), none, some (.int 0), some (.int x59), none, none]) (And.intro rfl (And.intro rfl (And.intro rfl (And.intro rfl (And.intro rfl (And.intro rfl trivial)))))) (tz_wd (k2 := k + 9526) (by omega) (ih _ _ _ _ _ _ _ (k + 9526) h2 h3 h (by omega) hL hE kk))
                  · replace h := tl_in h c58
                    exact tz_fg (ls2 := [some (.ref b), some (.ref a2), some (.ref a3), some (.int x4), none, none, some (.int x6), some (.int x9), none]) (And.intro rfl (And.intro rfl (And.intro rfl (And.intro rfl (And.intro rfl (And.intro rfl trivial)))))) (tz_wd (k2 := (k + 9396)) (by omega) (q31  _ h))
                · replace h := tl_ip h c54
                  obtain ⟨x55, u57, e56, h⟩ := tl_b2i h
                  refine tl_aload_n dL_law_250 rfl (tz_cS1 (lL_holds h2 e56) dL_law_251 cs_L_law_229 (c := 9104) ⟨rfl, rfl⟩ (k2 := (k + 9396)) (by omega) (CM := 315488) ⟨Nat.le_of_ble_eq_true rfl, Nat.le_of_ble_eq_true rfl⟩ (by omega : (k + 9396) ≤ 315488) (Nat.le_of_ble_eq_true rfl) (tl_if_eq (tgt := 320) dL_law_254 (by decide) (fun c58 => ?_) (fun c58 => ?_)))
                  · replace h := tl_ip h c58
                    refine tl_iconst (v := 0) dL_law_320 ic_0 (tl_istore dL_law_321 (Nat.le_of_ble_eq_true rfl) (tz_iincK dL_law_323 rfl (ii_1 _) (Nat.le_of_ble_eq_true rfl) (fun x59 e => ?_)))
                    have h := tl_leteq e h
                    clear e
                    refine tl_goto (tgt := 164) dL_law_326 (by decide) (?_)
                    exact tz_fg (ls2 := [some (.ref b), some (.ref a2), some (.ref a3), some (.int x4), none, some (.int 0), some (.int x59), none, none]) (And.intro rfl (And.intro rfl (And.intro rfl (And.intro rfl (And.intro rfl (And.intro rfl trivial)))))) (tz_wd (k2 := k + 9526) (by omega) (ih _ _ _ _ _ _ _ (k + 9526) h2 h3 h (by omega) hL hE kk))
                  · replace h := tl_in h c58
                    refine tl_goto (tgt := 267) dL_law_257 (by decide) (?_)
                    exact tz_fg (ls2 := [some (.ref b), some (.ref a2), some (.ref a3), some (.int x4), none, none, some (.int x6), some (.int x9), none]) (And.intro rfl (And.intro rfl (And.intro rfl (And.intro rfl (And.intro rfl (And.intro rfl trivial)))))) (tz_wd (k2 := (k + 9396)) (by omega) (q31  _ h))

