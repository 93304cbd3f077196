/-! Printed by wip/p34/gen: what the law's methods compute, and their walks. -/
theorem cs_L_dark_189 : tl_cS mL_dark mL_call 189 5 := ⟨cd_L_call, ml_L_189, sm_L_call, in_L, ⟨by decide, by decide, by decide +kernel⟩, Nat.le_of_ble_eq_true rfl, Nat.le_of_ble_eq_true rfl⟩
theorem cs_L_dark_247 : tl_cS mL_dark mL_waits 247 3 := ⟨cd_L_waits, ml_L_247, sm_L_waits, in_L, ⟨by decide, by decide, by decide +kernel⟩, Nat.le_of_ble_eq_true rfl, Nat.le_of_ble_eq_true rfl⟩
theorem cs_L_dark_250 : tl_cS mL_dark mL_undoes 250 3 := ⟨cd_L_undoes, ml_L_250, sm_L_undoes, in_L, ⟨by decide, by decide, by decide +kernel⟩, Nat.le_of_ble_eq_true rfl, Nat.le_of_ble_eq_true rfl⟩
def fL_dark_p290 (a1 : Nat) (x2 : Int32) (x3 : Int32) (x4 : Int32) (x5 : Int32) (u : tz_U) : Option (Int32 × tz_U) :=
  (if x5 = 0 then some (0, u) else tl_b2 (fL_call a1 2 3 0 0 u) (fun x7 u9 => (if x7 = x3 then tl_b2 (fL_call a1 3 x2 0 0 u9) (fun x11 u13 => (if x11 = x4 then some (1, u13) else some (0, u13))) else some (0, u9))))

def fL_dark_p272 (a1 : Nat) (a2 : Nat) (x3 : Int32) (x4 : Int32) (x5 : Int32) (x6 : Int32) (x7 : Int32) (x8 : Int32) (u : tz_U) : Option (Int32 × tz_U) :=
  (if x8 = x7 then tl_b2 (fL_undoes a1 a2 x6 u) (fun x10 u12 => (if x10 = 0 then fL_dark_p290 a1 x3 x4 x5 0 u12 else fL_dark_p290 a1 x3 x4 x5 1 u12)) else fL_dark_p290 a1 x3 x4 x5 0 u)

def fL_dark_p261 (a1 : Nat) (a2 : Nat) (x3 : Int32) (x4 : Int32) (x5 : Int32) (x6 : Int32) (x7 : Int32) (x8 : Int32) (u : tz_U) : Option (Int32 × tz_U) :=
  (if x4 = (-1) then fL_dark_p272 a1 a2 x3 x5 x6 x7 0 x8 u else fL_dark_p272 a1 a2 x3 x5 x6 x7 1 x8 u)

def fL_dark_p230 (a1 : Nat) (a2 : Nat) (x3 : Int32) (x4 : Int32) (x5 : Int32) (x6 : Int32) (x7 : Int32) (x8 : Int32) (u : tz_U) : Option (Int32 × tz_U) :=
  (if x7 = 0 then fL_dark_p290 a1 x3 x5 x6 0 u else tl_b2 (fL_waits a1 a2 x8 u) (fun x10 u12 => (if x10 = 0 then fL_dark_p290 a1 x3 x5 x6 0 u12 else tl_b2 (fL_call a1 3 x3 3 0 u12) (fun x14 u16 => (if x14 = 0 then fL_dark_p261 a1 a2 x3 x4 x5 x6 x8 1 u16 else fL_dark_p261 a1 a2 x3 x4 x5 x6 x8 0 u16)))))

def fL_dark_p174 (a1 : Nat) (a2 : Nat) (x3 : Int32) (x4 : Int32) (x5 : Int32) (x6 : Int32) (x7 : Int32) (x8 : Int32) (u : tz_U) : Option (Int32 × tz_U) :=
  (if x8 ≤ 1 then fL_dark_p230 a1 a2 x3 x4 x5 x6 x7 x8 u else (if x7 = 0 then fL_dark_p230 a1 a2 x3 x4 x5 x6 0 x8 u else tl_b2 (fL_waits a1 a2 (x8 - 1) u) (fun x11 u13 => (if x11 = 0 then fL_dark_p230 a1 a2 x3 x4 x5 x6 0 x8 u13 else tl_b2 (fL_call a1 3 x3 3 0 u13) (fun x15 u17 => (if x15 = 1 then tl_b2 (fL_undoes a1 a2 (x8 - 1) u17) (fun x19 u21 => (if x19 = 0 then fL_dark_p230 a1 a2 x3 x4 x5 x6 0 x8 u21 else fL_dark_p230 a1 a2 x3 x4 x5 x6 1 x8 u21)) else fL_dark_p230 a1 a2 x3 x4 x5 x6 0 x8 u17))))))

def fL_dark_p159 (a1 : Nat) (a2 : Nat) (x3 : Int32) (x4 : Int32) (x5 : Int32) (x6 : Int32) (x7 : Int32) (u : tz_U) : Option (Int32 × tz_U) :=
  (if x4 = (-1) then fL_dark_p174 a1 a2 x3 x4 x5 x6 x7 120 u else fL_dark_p174 a1 a2 x3 x4 x5 x6 x7 x4 u)

def fL_dark_p104 (a1 : Nat) (a2 : Nat) (x3 : Int32) (x4 : Int32) (x5 : Int32) (x6 : Int32) (x7 : Int32) (x8 : Int32) (x9 : Int32) (x10 : Int32) (u : tz_U) : Option (Int32 × tz_U) :=
  (if x10 = x9 then (if x7 < x8 then fL_dark_p159 a1 a2 x3 x4 x5 x8 0 u else (if 60 < x7 then fL_dark_p159 a1 a2 x3 x4 x5 x8 0 u else tl_b2 (fL_waits a1 a2 x6 u) (fun x14 u16 => (if x14 = 0 then fL_dark_p159 a1 a2 x3 x4 x5 x8 0 u16 else tl_b2 (fL_call a1 3 x3 0 0 u16) (fun x18 u20 => (if x18 = x7 then tl_b2 (fL_undoes a1 a2 x6 u20) (fun x22 u24 => (if x22 = 0 then fL_dark_p159 a1 a2 x3 x4 x5 x8 0 u24 else fL_dark_p159 a1 a2 x3 x4 x5 x8 1 u24)) else fL_dark_p159 a1 a2 x3 x4 x5 x8 0 u20)))))) else fL_dark_p159 a1 a2 x3 x4 x5 x8 0 u)

def fL_dark_p88 (a1 : Nat) (a2 : Nat) (x3 : Int32) (x4 : Int32) (x5 : Int32) (x6 : Int32) (x7 : Int32) (x8 : Int32) (x9 : Int32) (u : tz_U) : Option (Int32 × tz_U) :=
  tl_b2 (fL_call a1 3 x3 3 0 u) (fun x10 u12 => (if x10 = 0 then fL_dark_p104 a1 a2 x3 x4 x5 x6 x7 x8 1 x9 u12 else fL_dark_p104 a1 a2 x3 x4 x5 x6 x7 x8 0 x9 u12))

def fL_dark (a1 : Nat) (a2 : Nat) (x3 : Int32) (u : tz_U) : Option (Int32 × tz_U) :=
  tl_b2 (fL_call a1 2 0 0 0 u) (fun x4 u6 => tl_g (¬ x4 = 0) (tl_let ((x3 - x3 / x4 * x4)) (fun x8 => tl_b2 (fL_call a1 19 x8 0 0 u6) (fun x9 u11 => tl_b2 (fL_call a1 2 3 0 0 u11) (fun x12 u14 => tl_let ((1 + ((x3 / 3) - (x3 / 3) / 60 * 60))) (fun x15 => tl_b2 (fL_call a1 20 x8 x15 0 u14) (fun x16 u18 => tl_b2 (fL_call a1 3 x8 0 0 u18) (fun x19 u21 => (if x9 < (-1) then fL_dark_p159 a1 a2 x8 x9 x12 x19 0 u21 else (if 200 < x9 then fL_dark_p159 a1 a2 x8 x9 x12 x19 0 u21 else (if x9 = 0 then fL_dark_p88 a1 a2 x8 x9 x12 x15 x16 x19 1 u21 else fL_dark_p88 a1 a2 x8 x9 x12 x15 x16 x19 0 u21)))))))))))

theorem lL_dark_p290 {E : tl_E} {a1 : Nat} {x2 : Int32} {x3 : Int32} {x4 : Int32} {x5 : Int32} {u : tz_U} {r : Int32} {v : tz_U} (h1 : tz_on E a1) (h : fL_dark_p290 a1 x2 x3 x4 x5 u = some (r, v)) : tz_R E mL_dark tl_X0 (tl_Z E mL_dark (tz_Q E r v)) 69 (tz_HU E u) 290 [some (.ref a1), none, none, some (.int x2), none, some (.int x3), none, none, some (.int x4), none, none] [.int x5] := by
  unfold fL_dark_p290 at h
  refine tl_istore dL_dark_290 (Nat.le_of_ble_eq_true rfl) (tl_iload dL_dark_292 rfl (tl_if_eq (tgt := 327) dL_dark_294 (by decide) (fun c6 => ?_) (fun c6 => ?_)))
  · replace h := tl_ip h c6
    exact tl_iconst (v := 0) dL_dark_327 ic_0 (tz_ret dL_dark_328 rfl rfl (CM := 71) ⟨Nat.le_of_ble_eq_true rfl, Nat.le_of_ble_eq_true rfl⟩ (Nat.le_of_ble_eq_true rfl) h)
  · replace h := tl_in h c6
    obtain ⟨x7, u9, e8, h⟩ := tl_b2i h
    refine tl_aload_n dL_dark_297 rfl (tl_iconst (v := 2) dL_dark_298 ic_2 (tl_iconst (v := 3) dL_dark_299 ic_3 (tl_iconst (v := 0) dL_dark_300 ic_0 (tl_iconst (v := 0) dL_dark_301 ic_0 (tz_cS5 (lL_call h1 e8) dL_dark_302 cs_L_dark_189 (c := 1) ⟨rfl, rfl⟩ (k2 := 70) (Nat.le_of_ble_eq_true rfl) (CM := 71) ⟨Nat.le_of_ble_eq_true rfl, Nat.le_of_ble_eq_true rfl⟩ (Nat.le_of_ble_eq_true rfl) (Nat.le_of_ble_eq_true rfl) (tl_iload dL_dark_305 rfl (tl_icmp_ne (tgt := 327) dL_dark_307 (by decide) (fun c10 => ?_) (fun c10 => ?_))))))))
    · replace h := tl_in h c10
      exact tl_iconst (v := 0) dL_dark_327 ic_0 (tz_ret dL_dark_328 rfl rfl (CM := 71) ⟨Nat.le_of_ble_eq_true rfl, Nat.le_of_ble_eq_true rfl⟩ (Nat.le_of_ble_eq_true rfl) h)
    · replace h := tl_ip h c10
      obtain ⟨x11, u13, e12, h⟩ := tl_b2i h
      refine tl_aload_n dL_dark_310 rfl (tl_iconst (v := 3) dL_dark_311 ic_3 (tl_iload_n dL_dark_312 rfl (tl_iconst (v := 0) dL_dark_313 ic_0 (tl_iconst (v := 0) dL_dark_314 ic_0 (tz_cS5 (lL_call h1 e12) dL_dark_315 cs_L_dark_189 (c := 1) ⟨rfl, rfl⟩ (k2 := 71) (Nat.le_of_ble_eq_true rfl) (CM := 71) ⟨Nat.le_of_ble_eq_true rfl, Nat.le_of_ble_eq_true rfl⟩ (Nat.le_of_ble_eq_true rfl) (Nat.le_of_ble_eq_true rfl) (tl_iload dL_dark_318 rfl (tl_icmp_ne (tgt := 327) dL_dark_320 (by decide) (fun c14 => ?_) (fun c14 => ?_))))))))
      · replace h := tl_in h c14
        exact tl_iconst (v := 0) dL_dark_327 ic_0 (tz_ret dL_dark_328 rfl rfl (CM := 71) ⟨Nat.le_of_ble_eq_true rfl, Nat.le_of_ble_eq_true rfl⟩ (Nat.le_of_ble_eq_true rfl) h)
      · replace h := tl_ip h c14
        exact tl_iconst (v := 1) dL_dark_323 ic_1 (tl_goto (tgt := 328) dL_dark_324 (by decide) (tz_ret dL_dark_328 rfl rfl (CM := 71) ⟨Nat.le_of_ble_eq_true rfl, Nat.le_of_ble_eq_true rfl⟩ (Nat.le_of_ble_eq_true rfl) h))

theorem lL_dark_p272 {E : tl_E} {a1 : Nat} {a2 : Nat} {x3 : Int32} {x4 : Int32} {x5 : Int32} {x6 : Int32} {x7 : Int32} {x8 : Int32} {u : tz_U} {r : Int32} {v : tz_U} (h1 : tz_on E a1) (h2 : tz_on E a2) (h : fL_dark_p272 a1 a2 x3 x4 x5 x6 x7 x8 u = some (r, v)) : tz_R E mL_dark tl_X0 (tl_Z E mL_dark (tz_Q E r v)) 59 (tz_HU E u) 272 [some (.ref a1), some (.ref a2), none, some (.int x3), none, some (.int x4), none, none, some (.int x5), none, some (.int x6)] [.int x7, .int x8] := by
  unfold fL_dark_p272 at h
  refine tl_icmp_ne (tgt := 289) dL_dark_272 (by decide) (fun c9 => ?_) (fun c9 => ?_)
  · replace h := tl_in h c9
    refine tl_iconst (v := 0) dL_dark_289 ic_0 (?_)
    exact tz_fg (ls2 := [some (.ref a1), none, none, some (.int x3), none, some (.int x4), none, none, some (.int x5), none, none]) (And.intro rfl (And.intro rfl (And.intro rfl (And.intro rfl trivial)))) (tz_wd (k2 := 69) (Nat.le_of_ble_eq_true rfl) (lL_dark_p290 h1 h))
  · replace h := tl_ip h c9
    obtain ⟨x10, u12, e11, h⟩ := tl_b2i h
    refine tl_aload_n dL_dark_275 rfl (tl_aload_n dL_dark_276 rfl (tl_iload dL_dark_277 rfl (tz_cS3 (lL_undoes h1 h2 e11) dL_dark_279 cs_L_dark_250 (c := 10) ⟨rfl, rfl⟩ (k2 := 69) (Nat.le_of_ble_eq_true rfl) (CM := 71) ⟨Nat.le_of_ble_eq_true rfl, Nat.le_of_ble_eq_true rfl⟩ (Nat.le_of_ble_eq_true rfl) (Nat.le_of_ble_eq_true rfl) (tl_if_eq (tgt := 289) dL_dark_282 (by decide) (fun c13 => ?_) (fun c13 => ?_)))))
    · replace h := tl_ip h c13
      refine tl_iconst (v := 0) dL_dark_289 ic_0 (?_)
      exact tz_fg (ls2 := [some (.ref a1), none, none, some (.int x3), none, some (.int x4), none, none, some (.int x5), none, none]) (And.intro rfl (And.intro rfl (And.intro rfl (And.intro rfl trivial)))) (tz_wd (k2 := 69) (Nat.le_of_ble_eq_true rfl) (lL_dark_p290 h1 h))
    · replace h := tl_in h c13
      refine tl_iconst (v := 1) dL_dark_285 ic_1 (tl_goto (tgt := 290) dL_dark_286 (by decide) (?_))
      exact tz_fg (ls2 := [some (.ref a1), none, none, some (.int x3), none, some (.int x4), none, none, some (.int x5), none, none]) (And.intro rfl (And.intro rfl (And.intro rfl (And.intro rfl trivial)))) (tz_wd (k2 := 69) (Nat.le_of_ble_eq_true rfl) (lL_dark_p290 h1 h))

theorem lL_dark_p261 {E : tl_E} {a1 : Nat} {a2 : Nat} {x3 : Int32} {x4 : Int32} {x5 : Int32} {x6 : Int32} {x7 : Int32} {x8 : Int32} {u : tz_U} {r : Int32} {v : tz_U} (h1 : tz_on E a1) (h2 : tz_on E a2) (h : fL_dark_p261 a1 a2 x3 x4 x5 x6 x7 x8 u = some (r, v)) : tz_R E mL_dark tl_X0 (tl_Z E mL_dark (tz_Q E r v)) 59 (tz_HU E u) 261 [some (.ref a1), some (.ref a2), none, some (.int x3), some (.int x4), some (.int x5), none, none, some (.int x6), none, some (.int x7)] [.int x8] := by
  unfold fL_dark_p261 at h
  refine tl_iload dL_dark_261 rfl (tl_iconst (v := (-1)) dL_dark_263 ic_m1 (tl_icmp_eq (tgt := 271) dL_dark_264 (by decide) (fun c9 => ?_) (fun c9 => ?_)))
  · replace h := tl_ip h c9
    refine tl_iconst (v := 0) dL_dark_271 ic_0 (?_)
    exact tz_fg (ls2 := [some (.ref a1), some (.ref a2), none, some (.int x3), none, some (.int x5), none, none, some (.int x6), none, some (.int x7)]) (And.intro rfl (And.intro rfl (And.intro rfl (And.intro rfl (And.intro rfl (And.intro rfl trivial)))))) (tz_wd (k2 := 59) (Nat.le_of_ble_eq_true rfl) (lL_dark_p272 h1 h2 h))
  · replace h := tl_in h c9
    refine tl_iconst (v := 1) dL_dark_267 ic_1 (tl_goto (tgt := 272) dL_dark_268 (by decide) (?_))
    exact tz_fg (ls2 := [some (.ref a1), some (.ref a2), none, some (.int x3), none, some (.int x5), none, none, some (.int x6), none, some (.int x7)]) (And.intro rfl (And.intro rfl (And.intro rfl (And.intro rfl (And.intro rfl (And.intro rfl trivial)))))) (tz_wd (k2 := 59) (Nat.le_of_ble_eq_true rfl) (lL_dark_p272 h1 h2 h))

theorem lL_dark_p230 {E : tl_E} {a1 : Nat} {a2 : Nat} {x3 : Int32} {x4 : Int32} {x5 : Int32} {x6 : Int32} {x7 : Int32} {x8 : Int32} {u : tz_U} {r : Int32} {v : tz_U} (h1 : tz_on E a1) (h2 : tz_on E a2) (h : fL_dark_p230 a1 a2 x3 x4 x5 x6 x7 x8 u = some (r, v)) : tz_R E mL_dark tl_X0 (tl_Z E mL_dark (tz_Q E r v)) 48 (tz_HU E u) 230 [some (.ref a1), some (.ref a2), none, some (.int x3), some (.int x4), some (.int x5), none, none, some (.int x6), some (.int x7), some (.int x8)] [] := by
  unfold fL_dark_p230 at h
  refine tl_iload dL_dark_230 rfl (tl_if_eq (tgt := 289) dL_dark_232 (by decide) (fun c9 => ?_) (fun c9 => ?_))
  · replace h := tl_ip h c9
    refine tl_iconst (v := 0) dL_dark_289 ic_0 (?_)
    exact tz_fg (ls2 := [some (.ref a1), none, none, some (.int x3), none, some (.int x5), none, none, some (.int x6), none, none]) (And.intro rfl (And.intro rfl (And.intro rfl (And.intro rfl trivial)))) (tz_wd (k2 := 69) (Nat.le_of_ble_eq_true rfl) (lL_dark_p290 h1 h))
  · replace h := tl_in h c9
    obtain ⟨x10, u12, e11, h⟩ := tl_b2i h
    refine tl_aload_n dL_dark_235 rfl (tl_aload_n dL_dark_236 rfl (tl_iload dL_dark_237 rfl (tz_cS3 (lL_waits h1 h2 e11) dL_dark_239 cs_L_dark_247 (c := 10) ⟨rfl, rfl⟩ (k2 := 58) (Nat.le_of_ble_eq_true rfl) (CM := 71) ⟨Nat.le_of_ble_eq_true rfl, Nat.le_of_ble_eq_true rfl⟩ (Nat.le_of_ble_eq_true rfl) (Nat.le_of_ble_eq_true rfl) (tl_if_eq (tgt := 289) dL_dark_242 (by decide) (fun c13 => ?_) (fun c13 => ?_)))))
    · replace h := tl_ip h c13
      refine tl_iconst (v := 0) dL_dark_289 ic_0 (?_)
      exact tz_fg (ls2 := [some (.ref a1), none, none, some (.int x3), none, some (.int x5), none, none, some (.int x6), none, none]) (And.intro rfl (And.intro rfl (And.intro rfl (And.intro rfl trivial)))) (tz_wd (k2 := 69) (Nat.le_of_ble_eq_true rfl) (lL_dark_p290 h1 h))
    · replace h := tl_in h c13
      obtain ⟨x14, u16, e15, h⟩ := tl_b2i h
      refine tl_aload_n dL_dark_245 rfl (tl_iconst (v := 3) dL_dark_246 ic_3 (tl_iload_n dL_dark_247 rfl (tl_iconst (v := 3) dL_dark_248 ic_3 (tl_iconst (v := 0) dL_dark_249 ic_0 (tz_cS5 (lL_call h1 e15) dL_dark_250 cs_L_dark_189 (c := 1) ⟨rfl, rfl⟩ (k2 := 59) (Nat.le_of_ble_eq_true rfl) (CM := 71) ⟨Nat.le_of_ble_eq_true rfl, Nat.le_of_ble_eq_true rfl⟩ (Nat.le_of_ble_eq_true rfl) (Nat.le_of_ble_eq_true rfl) (tl_if_ne (tgt := 260) dL_dark_253 (by decide) (fun c17 => ?_) (fun c17 => ?_)))))))
      · replace h := tl_in h c17
        refine tl_iconst (v := 0) dL_dark_260 ic_0 (?_)
        exact tz_fg (ls2 := [some (.ref a1), some (.ref a2), none, some (.int x3), some (.int x4), some (.int x5), none, none, some (.int x6), none, some (.int x8)]) (And.intro rfl (And.intro rfl (And.intro rfl (And.intro rfl (And.intro rfl (And.intro rfl (And.intro rfl trivial))))))) (tz_wd (k2 := 59) (Nat.le_of_ble_eq_true rfl) (lL_dark_p261 h1 h2 h))
      · replace h := tl_ip h c17
        refine tl_iconst (v := 1) dL_dark_256 ic_1 (tl_goto (tgt := 261) dL_dark_257 (by decide) (?_))
        exact tz_fg (ls2 := [some (.ref a1), some (.ref a2), none, some (.int x3), some (.int x4), some (.int x5), none, none, some (.int x6), none, some (.int x8)]) (And.intro rfl (And.intro rfl (And.intro rfl (And.intro rfl (And.intro rfl (And.intro rfl (And.intro rfl trivial))))))) (tz_wd (k2 := 59) (Nat.le_of_ble_eq_true rfl) (lL_dark_p261 h1 h2 h))

theorem lL_dark_p174 {E : tl_E} {a1 : Nat} {a2 : Nat} {x3 : Int32} {x4 : Int32} {x5 : Int32} {x6 : Int32} {x7 : Int32} {x8 : Int32} {u : tz_U} {r : Int32} {v : tz_U} (h1 : tz_on E a1) (h2 : tz_on E a2) (h : fL_dark_p174 a1 a2 x3 x4 x5 x6 x7 x8 u = some (r, v)) : tz_R E mL_dark tl_X0 (tl_Z E mL_dark (tz_Q E r v)) 27 (tz_HU E u) 174 [some (.ref a1), some (.ref a2), none, some (.int x3), some (.int x4), some (.int x5), none, none, some (.int x6), some (.int x7), none] [.int x8] := by
  unfold fL_dark_p174 at h
  refine tl_istore dL_dark_174 (Nat.le_of_ble_eq_true rfl) (tl_iload dL_dark_176 rfl (tl_iconst (v := 1) dL_dark_178 ic_1 (tl_icmp_le (tgt := 230) dL_dark_179 (by decide) (fun c9 => ?_) (fun c9 => ?_))))
  · replace h := tl_ip h c9
    exact tz_fg (ls2 := [some (.ref a1), some (.ref a2), none, some (.int x3), some (.int x4), some (.int x5), none, none, some (.int x6), some (.int x7), some (.int x8)]) (And.intro rfl (And.intro rfl (And.intro rfl (And.intro rfl (And.intro rfl (And.intro rfl (And.intro rfl (And.intro rfl trivial)))))))) (tz_wd (k2 := 48) (Nat.le_of_ble_eq_true rfl) (lL_dark_p230 h1 h2 h))
  · replace h := tl_in h c9
    refine tl_iload dL_dark_182 rfl (tl_if_eq (tgt := 227) dL_dark_184 (by decide) (fun c10 => ?_) (fun c10 => ?_))
    · replace h := tl_ip h c10
      refine tl_iconst (v := 0) dL_dark_227 ic_0 (tl_istore dL_dark_228 (Nat.le_of_ble_eq_true rfl) (?_))
      exact tz_fg (ls2 := [some (.ref a1), some (.ref a2), none, some (.int x3), some (.int x4), some (.int x5), none, none, some (.int x6), some (.int 0), some (.int x8)]) (And.intro rfl (And.intro rfl (And.intro rfl (And.intro rfl (And.intro rfl (And.intro rfl (And.intro rfl (And.intro rfl trivial)))))))) (tz_wd (k2 := 48) (Nat.le_of_ble_eq_true rfl) (lL_dark_p230 h1 h2 h))
    · replace h := tl_in h c10
      obtain ⟨x11, u13, e12, h⟩ := tl_b2i h
      refine tl_aload_n dL_dark_187 rfl (tl_aload_n dL_dark_188 rfl (tl_iload dL_dark_189 rfl (tl_iconst (v := 1) dL_dark_191 ic_1 (tl_isub dL_dark_192 (tz_cS3 (lL_waits h1 h2 e12) dL_dark_193 cs_L_dark_247 (c := 10) ⟨rfl, rfl⟩ (k2 := 37) (Nat.le_of_ble_eq_true rfl) (CM := 71) ⟨Nat.le_of_ble_eq_true rfl, Nat.le_of_ble_eq_true rfl⟩ (Nat.le_of_ble_eq_true rfl) (Nat.le_of_ble_eq_true rfl) (tl_if_eq (tgt := 227) dL_dark_196 (by decide) (fun c14 => ?_) (fun c14 => ?_)))))))
      · replace h := tl_ip h c14
        refine tl_iconst (v := 0) dL_dark_227 ic_0 (tl_istore dL_dark_228 (Nat.le_of_ble_eq_true rfl) (?_))
        exact tz_fg (ls2 := [some (.ref a1), some (.ref a2), none, some (.int x3), some (.int x4), some (.int x5), none, none, some (.int x6), some (.int 0), some (.int x8)]) (And.intro rfl (And.intro rfl (And.intro rfl (And.intro rfl (And.intro rfl (And.intro rfl (And.intro rfl (And.intro rfl trivial)))))))) (tz_wd (k2 := 48) (Nat.le_of_ble_eq_true rfl) (lL_dark_p230 h1 h2 h))
      · replace h := tl_in h c14
        obtain ⟨x15, u17, e16, h⟩ := tl_b2i h
        refine tl_aload_n dL_dark_199 rfl (tl_iconst (v := 3) dL_dark_200 ic_3 (tl_iload_n dL_dark_201 rfl (tl_iconst (v := 3) dL_dark_202 ic_3 (tl_iconst (v := 0) dL_dark_203 ic_0 (tz_cS5 (lL_call h1 e16) dL_dark_204 cs_L_dark_189 (c := 1) ⟨rfl, rfl⟩ (k2 := 38) (Nat.le_of_ble_eq_true rfl) (CM := 71) ⟨Nat.le_of_ble_eq_true rfl, Nat.le_of_ble_eq_true rfl⟩ (Nat.le_of_ble_eq_true rfl) (Nat.le_of_ble_eq_true rfl) (tl_iconst (v := 1) dL_dark_207 ic_1 (tl_icmp_ne (tgt := 227) dL_dark_208 (by decide) (fun c18 => ?_) (fun c18 => ?_))))))))
        · replace h := tl_in h c18
          refine tl_iconst (v := 0) dL_dark_227 ic_0 (tl_istore dL_dark_228 (Nat.le_of_ble_eq_true rfl) (?_))
          exact tz_fg (ls2 := [some (.ref a1), some (.ref a2), none, some (.int x3), some (.int x4), some (.int x5), none, none, some (.int x6), some (.int 0), some (.int x8)]) (And.intro rfl (And.intro rfl (And.intro rfl (And.intro rfl (And.intro rfl (And.intro rfl (And.intro rfl (And.intro rfl trivial)))))))) (tz_wd (k2 := 48) (Nat.le_of_ble_eq_true rfl) (lL_dark_p230 h1 h2 h))
        · replace h := tl_ip h c18
          obtain ⟨x19, u21, e20, h⟩ := tl_b2i h
          refine tl_aload_n dL_dark_211 rfl (tl_aload_n dL_dark_212 rfl (tl_iload dL_dark_213 rfl (tl_iconst (v := 1) dL_dark_215 ic_1 (tl_isub dL_dark_216 (tz_cS3 (lL_undoes h1 h2 e20) dL_dark_217 cs_L_dark_250 (c := 10) ⟨rfl, rfl⟩ (k2 := 48) (Nat.le_of_ble_eq_true rfl) (CM := 71) ⟨Nat.le_of_ble_eq_true rfl, Nat.le_of_ble_eq_true rfl⟩ (Nat.le_of_ble_eq_true rfl) (Nat.le_of_ble_eq_true rfl) (tl_if_eq (tgt := 227) dL_dark_220 (by decide) (fun c22 => ?_) (fun c22 => ?_)))))))
          · replace h := tl_ip h c22
            refine tl_iconst (v := 0) dL_dark_227 ic_0 (tl_istore dL_dark_228 (Nat.le_of_ble_eq_true rfl) (?_))
            exact tz_fg (ls2 := [some (.ref a1), some (.ref a2), none, some (.int x3), some (.int x4), some (.int x5), none, none, some (.int x6), some (.int 0), some (.int x8)]) (And.intro rfl (And.intro rfl (And.intro rfl (And.intro rfl (And.intro rfl (And.intro rfl (And.intro rfl (And.intro rfl trivial)))))))) (tz_wd (k2 := 48) (Nat.le_of_ble_eq_true rfl) (lL_dark_p230 h1 h2 h))
          · replace h := tl_in h c22
            refine tl_iconst (v := 1) dL_dark_223 ic_1 (tl_goto (tgt := 228) dL_dark_224 (by decide) (tl_istore dL_dark_228 (Nat.le_of_ble_eq_true rfl) (?_)))
            exact tz_fg (ls2 := [some (.ref a1), some (.ref a2), none, some (.int x3), some (.int x4), some (.int x5), none, none, some (.int x6), some (.int 1), some (.int x8)]) (And.intro rfl (And.intro rfl (And.intro rfl (And.intro rfl (And.intro rfl (And.intro rfl (And.intro rfl (And.intro rfl trivial)))))))) (tz_wd (k2 := 48) (Nat.le_of_ble_eq_true rfl) (lL_dark_p230 h1 h2 h))

theorem lL_dark_p159 {E : tl_E} {a1 : Nat} {a2 : Nat} {x3 : Int32} {x4 : Int32} {x5 : Int32} {x6 : Int32} {x7 : Int32} {u : tz_U} {r : Int32} {v : tz_U} (h1 : tz_on E a1) (h2 : tz_on E a2) (h : fL_dark_p159 a1 a2 x3 x4 x5 x6 x7 u = some (r, v)) : tz_R E mL_dark tl_X0 (tl_Z E mL_dark (tz_Q E r v)) 27 (tz_HU E u) 159 [some (.ref a1), some (.ref a2), none, some (.int x3), some (.int x4), some (.int x5), none, none, some (.int x6), none, none] [.int x7] := by
  unfold fL_dark_p159 at h
  refine tl_istore dL_dark_159 (Nat.le_of_ble_eq_true rfl) (tl_iload dL_dark_161 rfl (tl_iconst (v := (-1)) dL_dark_163 ic_m1 (tl_icmp_ne (tgt := 172) dL_dark_164 (by decide) (fun c8 => ?_) (fun c8 => ?_))))
  · replace h := tl_in h c8
    refine tl_iload dL_dark_172 rfl (?_)
    exact tz_fg (ls2 := [some (.ref a1), some (.ref a2), none, some (.int x3), some (.int x4), some (.int x5), none, none, some (.int x6), some (.int x7), none]) (And.intro rfl (And.intro rfl (And.intro rfl (And.intro rfl (And.intro rfl (And.intro rfl (And.intro rfl trivial))))))) (tz_wd (k2 := 27) (Nat.le_of_ble_eq_true rfl) (lL_dark_p174 h1 h2 h))
  · replace h := tl_ip h c8
    refine tl_bipush (v := 120) dL_dark_167 bp_120 (tl_goto (tgt := 174) dL_dark_169 (by decide) (?_))
    exact tz_fg (ls2 := [some (.ref a1), some (.ref a2), none, some (.int x3), some (.int x4), some (.int x5), none, none, some (.int x6), some (.int x7), none]) (And.intro rfl (And.intro rfl (And.intro rfl (And.intro rfl (And.intro rfl (And.intro rfl (And.intro rfl trivial))))))) (tz_wd (k2 := 27) (Nat.le_of_ble_eq_true rfl) (lL_dark_p174 h1 h2 h))

theorem lL_dark_p104 {E : tl_E} {a1 : Nat} {a2 : Nat} {x3 : Int32} {x4 : Int32} {x5 : Int32} {x6 : Int32} {x7 : Int32} {x8 : Int32} {x9 : Int32} {x10 : Int32} {u : tz_U} {r : Int32} {v : tz_U} (h1 : tz_on E a1) (h2 : tz_on E a2) (h : fL_dark_p104 a1 a2 x3 x4 x5 x6 x7 x8 x9 x10 u = some (r, v)) : tz_R E mL_dark tl_X0 (tl_Z E mL_dark (tz_Q E r v)) 6 (tz_HU E u) 104 [some (.ref a1), some (.ref a2), none, some (.int x3), some (.int x4), some (.int x5), some (.int x6), some (.int x7), some (.int x8), none, none] [.int x9, .int x10] := by
  unfold fL_dark_p104 at h
  refine tl_icmp_ne (tgt := 158) dL_dark_104 (by decide) (fun c11 => ?_) (fun c11 => ?_)
  · replace h := tl_in h c11
    refine tl_iconst (v := 0) dL_dark_158 ic_0 (?_)
    exact tz_fg (ls2 := [some (.ref a1), some (.ref a2), none, some (.int x3), some (.int x4), some (.int x5), none, none, some (.int x8), none, none]) (And.intro rfl (And.intro rfl (And.intro rfl (And.intro rfl (And.intro rfl (And.intro rfl trivial)))))) (tz_wd (k2 := 27) (Nat.le_of_ble_eq_true rfl) (lL_dark_p159 h1 h2 h))
  · replace h := tl_ip h c11
    refine tl_iload dL_dark_107 rfl (tl_iload dL_dark_109 rfl (tl_icmp_lt (tgt := 158) dL_dark_111 (by decide) (fun c12 => ?_) (fun c12 => ?_)))
    · replace h := tl_ip h c12
      refine tl_iconst (v := 0) dL_dark_158 ic_0 (?_)
      exact tz_fg (ls2 := [some (.ref a1), some (.ref a2), none, some (.int x3), some (.int x4), some (.int x5), none, none, some (.int x8), none, none]) (And.intro rfl (And.intro rfl (And.intro rfl (And.intro rfl (And.intro rfl (And.intro rfl trivial)))))) (tz_wd (k2 := 27) (Nat.le_of_ble_eq_true rfl) (lL_dark_p159 h1 h2 h))
    · replace h := tl_in h c12
      refine tl_iload dL_dark_114 rfl (tl_bipush (v := 60) dL_dark_116 bp_60 (tl_icmp_gt (tgt := 158) dL_dark_118 (by decide) (fun c13 => ?_) (fun c13 => ?_)))
      · replace h := tl_ip h c13
        refine tl_iconst (v := 0) dL_dark_158 ic_0 (?_)
        exact tz_fg (ls2 := [some (.ref a1), some (.ref a2), none, some (.int x3), some (.int x4), some (.int x5), none, none, some (.int x8), none, none]) (And.intro rfl (And.intro rfl (And.intro rfl (And.intro rfl (And.intro rfl (And.intro rfl trivial)))))) (tz_wd (k2 := 27) (Nat.le_of_ble_eq_true rfl) (lL_dark_p159 h1 h2 h))
      · replace h := tl_in h c13
        obtain ⟨x14, u16, e15, h⟩ := tl_b2i h
        refine tl_aload_n dL_dark_121 rfl (tl_aload_n dL_dark_122 rfl (tl_iload dL_dark_123 rfl (tz_cS3 (lL_waits h1 h2 e15) dL_dark_125 cs_L_dark_247 (c := 10) ⟨rfl, rfl⟩ (k2 := 16) (Nat.le_of_ble_eq_true rfl) (CM := 71) ⟨Nat.le_of_ble_eq_true rfl, Nat.le_of_ble_eq_true rfl⟩ (Nat.le_of_ble_eq_true rfl) (Nat.le_of_ble_eq_true rfl) (tl_if_eq (tgt := 158) dL_dark_128 (by decide) (fun c17 => ?_) (fun c17 => ?_)))))
        · replace h := tl_ip h c17
          refine tl_iconst (v := 0) dL_dark_158 ic_0 (?_)
          exact tz_fg (ls2 := [some (.ref a1), some (.ref a2), none, some (.int x3), some (.int x4), some (.int x5), none, none, some (.int x8), none, none]) (And.intro rfl (And.intro rfl (And.intro rfl (And.intro rfl (And.intro rfl (And.intro rfl trivial)))))) (tz_wd (k2 := 27) (Nat.le_of_ble_eq_true rfl) (lL_dark_p159 h1 h2 h))
        · replace h := tl_in h c17
          obtain ⟨x18, u20, e19, h⟩ := tl_b2i h
          refine tl_aload_n dL_dark_131 rfl (tl_iconst (v := 3) dL_dark_132 ic_3 (tl_iload_n dL_dark_133 rfl (tl_iconst (v := 0) dL_dark_134 ic_0 (tl_iconst (v := 0) dL_dark_135 ic_0 (tz_cS5 (lL_call h1 e19) dL_dark_136 cs_L_dark_189 (c := 1) ⟨rfl, rfl⟩ (k2 := 17) (Nat.le_of_ble_eq_true rfl) (CM := 71) ⟨Nat.le_of_ble_eq_true rfl, Nat.le_of_ble_eq_true rfl⟩ (Nat.le_of_ble_eq_true rfl) (Nat.le_of_ble_eq_true rfl) (tl_iload dL_dark_139 rfl (tl_icmp_ne (tgt := 158) dL_dark_141 (by decide) (fun c21 => ?_) (fun c21 => ?_))))))))
          · replace h := tl_in h c21
            refine tl_iconst (v := 0) dL_dark_158 ic_0 (?_)
            exact tz_fg (ls2 := [some (.ref a1), some (.ref a2), none, some (.int x3), some (.int x4), some (.int x5), none, none, some (.int x8), none, none]) (And.intro rfl (And.intro rfl (And.intro rfl (And.intro rfl (And.intro rfl (And.intro rfl trivial)))))) (tz_wd (k2 := 27) (Nat.le_of_ble_eq_true rfl) (lL_dark_p159 h1 h2 h))
          · replace h := tl_ip h c21
            obtain ⟨x22, u24, e23, h⟩ := tl_b2i h
            refine tl_aload_n dL_dark_144 rfl (tl_aload_n dL_dark_145 rfl (tl_iload dL_dark_146 rfl (tz_cS3 (lL_undoes h1 h2 e23) dL_dark_148 cs_L_dark_250 (c := 10) ⟨rfl, rfl⟩ (k2 := 27) (Nat.le_of_ble_eq_true rfl) (CM := 71) ⟨Nat.le_of_ble_eq_true rfl, Nat.le_of_ble_eq_true rfl⟩ (Nat.le_of_ble_eq_true rfl) (Nat.le_of_ble_eq_true rfl) (tl_if_eq (tgt := 158) dL_dark_151 (by decide) (fun c25 => ?_) (fun c25 => ?_)))))
            · replace h := tl_ip h c25
              refine tl_iconst (v := 0) dL_dark_158 ic_0 (?_)
              exact tz_fg (ls2 := [some (.ref a1), some (.ref a2), none, some (.int x3), some (.int x4), some (.int x5), none, none, some (.int x8), none, none]) (And.intro rfl (And.intro rfl (And.intro rfl (And.intro rfl (And.intro rfl (And.intro rfl trivial)))))) (tz_wd (k2 := 27) (Nat.le_of_ble_eq_true rfl) (lL_dark_p159 h1 h2 h))
            · replace h := tl_in h c25
              refine tl_iconst (v := 1) dL_dark_154 ic_1 (tl_goto (tgt := 159) dL_dark_155 (by decide) (?_))
              exact tz_fg (ls2 := [some (.ref a1), some (.ref a2), none, some (.int x3), some (.int x4), some (.int x5), none, none, some (.int x8), none, none]) (And.intro rfl (And.intro rfl (And.intro rfl (And.intro rfl (And.intro rfl (And.intro rfl trivial)))))) (tz_wd (k2 := 27) (Nat.le_of_ble_eq_true rfl) (lL_dark_p159 h1 h2 h))

theorem lL_dark_p88 {E : tl_E} {a1 : Nat} {a2 : Nat} {x3 : Int32} {x4 : Int32} {x5 : Int32} {x6 : Int32} {x7 : Int32} {x8 : Int32} {x9 : Int32} {u : tz_U} {r : Int32} {v : tz_U} (h1 : tz_on E a1) (h2 : tz_on E a2) (h : fL_dark_p88 a1 a2 x3 x4 x5 x6 x7 x8 x9 u = some (r, v)) : tz_R E mL_dark tl_X0 (tl_Z E mL_dark (tz_Q E r v)) 5 (tz_HU E u) 88 [some (.ref a1), some (.ref a2), none, some (.int x3), some (.int x4), some (.int x5), some (.int x6), some (.int x7), some (.int x8), none, none] [.int x9] := by
  unfold fL_dark_p88 at h
  obtain ⟨x10, u12, e11, h⟩ := tl_b2i h
  refine tl_aload_n dL_dark_88 rfl (tl_iconst (v := 3) dL_dark_89 ic_3 (tl_iload_n dL_dark_90 rfl (tl_iconst (v := 3) dL_dark_91 ic_3 (tl_iconst (v := 0) dL_dark_92 ic_0 (tz_cS5 (lL_call h1 e11) dL_dark_93 cs_L_dark_189 (c := 1) ⟨rfl, rfl⟩ (k2 := 6) (Nat.le_of_ble_eq_true rfl) (CM := 71) ⟨Nat.le_of_ble_eq_true rfl, Nat.le_of_ble_eq_true rfl⟩ (Nat.le_of_ble_eq_true rfl) (Nat.le_of_ble_eq_true rfl) (tl_if_ne (tgt := 103) dL_dark_96 (by decide) (fun c13 => ?_) (fun c13 => ?_)))))))
  · replace h := tl_in h c13
    refine tl_iconst (v := 0) dL_dark_103 ic_0 (?_)
    exact tz_fg (ls2 := [some (.ref a1), some (.ref a2), none, some (.int x3), some (.int x4), some (.int x5), some (.int x6), some (.int x7), some (.int x8), none, none]) (And.intro rfl (And.intro rfl (And.intro rfl (And.intro rfl (And.intro rfl (And.intro rfl (And.intro rfl (And.intro rfl trivial)))))))) (tz_wd (k2 := 6) (Nat.le_of_ble_eq_true rfl) (lL_dark_p104 h1 h2 h))
  · replace h := tl_ip h c13
    refine tl_iconst (v := 1) dL_dark_99 ic_1 (tl_goto (tgt := 104) dL_dark_100 (by decide) (?_))
    exact tz_fg (ls2 := [some (.ref a1), some (.ref a2), none, some (.int x3), some (.int x4), some (.int x5), some (.int x6), some (.int x7), some (.int x8), none, none]) (And.intro rfl (And.intro rfl (And.intro rfl (And.intro rfl (And.intro rfl (And.intro rfl (And.intro rfl (And.intro rfl trivial)))))))) (tz_wd (k2 := 6) (Nat.le_of_ble_eq_true rfl) (lL_dark_p104 h1 h2 h))

theorem lL_dark {E : tl_E} {a1 : Nat} {a2 : Nat} {x3 : Int32} {u : tz_U} {r : Int32} {v : tz_U} (h1 : tz_on E a1) (h2 : tz_on E a2) (h : fL_dark a1 a2 x3 u = some (r, v)) : tz_ML E mL_dark [.ref a1, .ref a2, .int x3] u r v := by
  unfold fL_dark at h
  refine tl_start [some (.ref a1), some (.ref a2), some (.int x3), none, none, none, none, none, none, none, none] rfl rfl rfl (Nat.le_of_ble_eq_true rfl) (tz_st (tz_fg (ls2 := [some (.ref a1), some (.ref a2), some (.int x3), none, none, none, none, none, none, none, none]) (And.intro rfl (And.intro rfl (And.intro rfl trivial))) ?_))
  obtain ⟨x4, u6, e5, h⟩ := tl_b2i h
  obtain ⟨g7, h⟩ := tl_gi h
  refine tl_iload_n dL_dark_0 rfl (tl_aload_n dL_dark_1 rfl (tl_iconst (v := 2) dL_dark_2 ic_2 (tl_iconst (v := 0) dL_dark_3 ic_0 (tl_iconst (v := 0) dL_dark_4 ic_0 (tl_iconst (v := 0) dL_dark_5 ic_0 (tz_cS5 (lL_call h1 e5) dL_dark_6 cs_L_dark_189 (c := 1) ⟨rfl, rfl⟩ (k2 := 1) (Nat.le_of_ble_eq_true rfl) (CM := 71) ⟨Nat.le_of_ble_eq_true rfl, Nat.le_of_ble_eq_true rfl⟩ (Nat.le_of_ble_eq_true rfl) (Nat.le_of_ble_eq_true rfl) (tl_irem dL_dark_9 g7 (tz_isto_n dL_dark_10 (Nat.le_of_ble_eq_true rfl) (fun x8 e => ?_)))))))))
  have h := tl_leteq e h
  clear e
  obtain ⟨x9, u11, e10, h⟩ := tl_b2i h
  obtain ⟨x12, u14, e13, h⟩ := tl_b2i h
  refine tl_aload_n dL_dark_11 rfl (tl_bipush (v := 19) dL_dark_12 bp_19 (tl_iload_n dL_dark_14 rfl (tl_iconst (v := 0) dL_dark_15 ic_0 (tl_iconst (v := 0) dL_dark_16 ic_0 (tz_cS5 (lL_call h1 e10) dL_dark_17 cs_L_dark_189 (c := 1) ⟨rfl, rfl⟩ (k2 := 2) (Nat.le_of_ble_eq_true rfl) (CM := 71) ⟨Nat.le_of_ble_eq_true rfl, Nat.le_of_ble_eq_true rfl⟩ (Nat.le_of_ble_eq_true rfl) (Nat.le_of_ble_eq_true rfl) (tl_istore dL_dark_20 (Nat.le_of_ble_eq_true rfl) (tl_aload_n dL_dark_22 rfl (tl_iconst (v := 2) dL_dark_23 ic_2 (tl_iconst (v := 3) dL_dark_24 ic_3 (tl_iconst (v := 0) dL_dark_25 ic_0 (tl_iconst (v := 0) dL_dark_26 ic_0 (tz_cS5 (lL_call h1 e13) dL_dark_27 cs_L_dark_189 (c := 1) ⟨rfl, rfl⟩ (k2 := 3) (Nat.le_of_ble_eq_true rfl) (CM := 71) ⟨Nat.le_of_ble_eq_true rfl, Nat.le_of_ble_eq_true rfl⟩ (Nat.le_of_ble_eq_true rfl) (Nat.le_of_ble_eq_true rfl) (tl_istore dL_dark_30 (Nat.le_of_ble_eq_true rfl) (tl_iconst (v := 1) dL_dark_32 ic_1 (tl_iload_n dL_dark_33 rfl (tl_iconst (v := 3) dL_dark_34 ic_3 (tl_idiv dL_dark_35 (by decide) (tl_bipush (v := 60) dL_dark_36 bp_60 (tl_irem dL_dark_38 (by decide) (tl_iadd dL_dark_39 (tz_isto dL_dark_40 (Nat.le_of_ble_eq_true rfl) (fun x15 e => ?_))))))))))))))))))))))
  have h := tl_leteq e h
  clear e
  obtain ⟨x16, u18, e17, h⟩ := tl_b2i h
  obtain ⟨x19, u21, e20, h⟩ := tl_b2i h
  refine tl_aload_n dL_dark_42 rfl (tl_bipush (v := 20) dL_dark_43 bp_20 (tl_iload_n dL_dark_45 rfl (tl_iload dL_dark_46 rfl (tl_iconst (v := 0) dL_dark_48 ic_0 (tz_cS5 (lL_call h1 e17) dL_dark_49 cs_L_dark_189 (c := 1) ⟨rfl, rfl⟩ (k2 := 4) (Nat.le_of_ble_eq_true rfl) (CM := 71) ⟨Nat.le_of_ble_eq_true rfl, Nat.le_of_ble_eq_true rfl⟩ (Nat.le_of_ble_eq_true rfl) (Nat.le_of_ble_eq_true rfl) (tl_istore dL_dark_52 (Nat.le_of_ble_eq_true rfl) (tl_aload_n dL_dark_54 rfl (tl_iconst (v := 3) dL_dark_55 ic_3 (tl_iload_n dL_dark_56 rfl (tl_iconst (v := 0) dL_dark_57 ic_0 (tl_iconst (v := 0) dL_dark_58 ic_0 (tz_cS5 (lL_call h1 e20) dL_dark_59 cs_L_dark_189 (c := 1) ⟨rfl, rfl⟩ (k2 := 5) (Nat.le_of_ble_eq_true rfl) (CM := 71) ⟨Nat.le_of_ble_eq_true rfl, Nat.le_of_ble_eq_true rfl⟩ (Nat.le_of_ble_eq_true rfl) (Nat.le_of_ble_eq_true rfl) (tl_istore dL_dark_62 (Nat.le_of_ble_eq_true rfl) (tl_iload dL_dark_64 rfl (tl_iconst (v := (-1)) dL_dark_66 ic_m1 (tl_icmp_lt (tgt := 158) dL_dark_67 (by decide) (fun c22 => ?_) (fun c22 => ?_)))))))))))))))))
  · replace h := tl_ip h c22
    refine tl_iconst (v := 0) dL_dark_158 ic_0 (?_)
    exact tz_fg (ls2 := [some (.ref a1), some (.ref a2), none, some (.int x8), some (.int x9), some (.int x12), none, none, some (.int x19), none, none]) (And.intro rfl (And.intro rfl (And.intro rfl (And.intro rfl (And.intro rfl (And.intro rfl trivial)))))) (tz_wd (k2 := 27) (Nat.le_of_ble_eq_true rfl) (lL_dark_p159 h1 h2 h))
  · replace h := tl_in h c22
    refine tl_iload dL_dark_70 rfl (tl_sipush (v := 200) dL_dark_72 sp_200 (tl_icmp_gt (tgt := 158) dL_dark_75 (by decide) (fun c23 => ?_) (fun c23 => ?_)))
    · replace h := tl_ip h c23
      refine tl_iconst (v := 0) dL_dark_158 ic_0 (?_)
      exact tz_fg (ls2 := [some (.ref a1), some (.ref a2), none, some (.int x8), some (.int x9), some (.int x12), none, none, some (.int x19), none, none]) (And.intro rfl (And.intro rfl (And.intro rfl (And.intro rfl (And.intro rfl (And.intro rfl trivial)))))) (tz_wd (k2 := 27) (Nat.le_of_ble_eq_true rfl) (lL_dark_p159 h1 h2 h))
    · replace h := tl_in h c23
      refine tl_iload dL_dark_78 rfl (tl_if_ne (tgt := 87) dL_dark_80 (by decide) (fun c24 => ?_) (fun c24 => ?_))
      · replace h := tl_in h c24
        refine tl_iconst (v := 0) dL_dark_87 ic_0 (?_)
        exact tz_fg (ls2 := [some (.ref a1), some (.ref a2), none, some (.int x8), some (.int x9), some (.int x12), some (.int x15), some (.int x16), some (.int x19), none, none]) (And.intro rfl (And.intro rfl (And.intro rfl (And.intro rfl (And.intro rfl (And.intro rfl (And.intro rfl (And.intro rfl trivial)))))))) (tz_wd (k2 := 5) (Nat.le_of_ble_eq_true rfl) (lL_dark_p88 h1 h2 h))
      · replace h := tl_ip h c24
        refine tl_iconst (v := 1) dL_dark_83 ic_1 (tl_goto (tgt := 88) dL_dark_84 (by decide) (?_))
        exact tz_fg (ls2 := [some (.ref a1), some (.ref a2), none, some (.int x8), some (.int x9), some (.int x12), some (.int x15), some (.int x16), some (.int x19), none, none]) (And.intro rfl (And.intro rfl (And.intro rfl (And.intro rfl (And.intro rfl (And.intro rfl (And.intro rfl (And.intro rfl trivial)))))))) (tz_wd (k2 := 5) (Nat.le_of_ble_eq_true rfl) (lL_dark_p88 h1 h2 h))

theorem cs_L_done_209 : tl_cV mL_done mX9_doneIn 209 0 := ⟨cd_X9_doneIn, ml_L_209, im_X9_doneIn, se_X9_doneIn, in_X9, ⟨by decide, by decide, by decide +kernel⟩, Nat.le_of_ble_eq_true rfl, Nat.le_of_ble_eq_true rfl⟩
theorem cs_L_done_189 : tl_cS mL_done mL_call 189 5 := ⟨cd_L_call, ml_L_189, sm_L_call, in_L, ⟨by decide, by decide, by decide +kernel⟩, Nat.le_of_ble_eq_true rfl, Nat.le_of_ble_eq_true rfl⟩
theorem cs_L_done_243 : tl_cS mL_done mL_thrown 243 1 := ⟨cd_L_thrown, ml_L_243, sm_L_thrown, in_L, ⟨by decide, by decide, by decide +kernel⟩, Nat.le_of_ble_eq_true rfl, Nat.le_of_ble_eq_true rfl⟩
theorem cs_L_done_247 : tl_cS mL_done mL_waits 247 3 := ⟨cd_L_waits, ml_L_247, sm_L_waits, in_L, ⟨by decide, by decide, by decide +kernel⟩, Nat.le_of_ble_eq_true rfl, Nat.le_of_ble_eq_true rfl⟩
theorem cs_L_done_250 : tl_cS mL_done mL_undoes 250 3 := ⟨cd_L_undoes, ml_L_250, sm_L_undoes, in_L, ⟨by decide, by decide, by decide +kernel⟩, Nat.le_of_ble_eq_true rfl, Nat.le_of_ble_eq_true rfl⟩
def fL_done_p390  (u : tz_U) : Option (Int32 × tz_U) :=
  some (1, u)

def fL_done_p295 (a1 : Nat) (a2 : Nat) (x3 : Int32) (x4 : Int32) (u : tz_U) : Option (Int32 × tz_U) :=
  (if x4 = 0 then some (0, u) else tl_b2 (fL_call a1 18 0 0 0 u) (fun x6 u8 => tl_b2 (fL_thrown x6 u8) (fun x9 u11 => (if x9 = 0 then tl_b2 (fL_call a2 18 0 0 0 u11) (fun x13 u15 => tl_b2 (fL_thrown x13 u15) (fun x16 u18 => (if x16 = 0 then tl_b2 (fL_call a1 16 1 x3 0 u18) (fun x20 u22 => (if x20 = x3 then tl_b2 (fL_call a2 16 1 x3 0 u22) (fun x24 u26 => (if x24 = x3 then tl_b2 (fL_call a1 18 0 0 0 u26) (fun x28 u30 => tl_b2 (fL_thrown x28 u30) (fun x31 u33 => (if x31 = 0 then tl_b2 (fL_call a2 18 0 0 0 u33) (fun x35 u37 => tl_b2 (fL_thrown x35 u37) (fun x38 u40 => (if x38 = 0 then fL_done_p390  u40 else some (0, u40)))) else some (0, u33)))) else some (0, u26))) else some (0, u22))) else some (0, u18)))) else some (0, u11)))))

def fL_done_p222 (a1 : Nat) (a2 : Nat) (x3 : Int32) (x4 : Int32) (x5 : Int32) (u : tz_U) : Option (Int32 × tz_U) :=
  (if x3 ≤ 0 then fL_done_p295 a1 a2 x4 x5 u else (if x5 = 0 then fL_done_p295 a1 a2 x4 x5 u else tl_b2 (fL_waits a1 a2 x3 u) (fun x8 u10 => (if x8 = 0 then fL_done_p295 a1 a2 x4 0 u10 else tl_b2 (fL_call a1 2 10 0 0 u10) (fun x12 u14 => (if x12 = 0 then tl_b2 (fL_call a1 6 2 0 0 u14) (fun x16 u18 => (if x16 = (-1) then tl_b2 (fL_call a1 2 6 0 0 u18) (fun x20 u22 => (if x20 = 0 then tl_b2 (fL_undoes a1 a2 x3 u22) (fun x24 u26 => (if x24 = 0 then fL_done_p295 a1 a2 x4 0 u26 else fL_done_p295 a1 a2 x4 1 u26)) else fL_done_p295 a1 a2 x4 0 u22)) else fL_done_p295 a1 a2 x4 0 u18)) else fL_done_p295 a1 a2 x4 0 u14))))))

def fL_done_p214 (a1 : Nat) (a2 : Nat) (x3 : Int32) (x4 : Int32) (x5 : Int32) (x6 : Int32) (u : tz_U) : Option (Int32 × tz_U) :=
  (if x6 = x5 then fL_done_p222 a1 a2 x3 x4 1 u else fL_done_p222 a1 a2 x3 x4 0 u)

def fL_done_p172 (a1 : Nat) (a2 : Nat) (x3 : Int32) (x4 : Int32) (x5 : Int32) (x6 : Int32) (u : tz_U) : Option (Int32 × tz_U) :=
  (if x6 = x5 then fL_done_p222 a1 a2 x3 x4 1 u else fL_done_p222 a1 a2 x3 x4 0 u)

def fL_done_p138 (a1 : Nat) (a2 : Nat) (x3 : Int32) (x4 : Int32) (x5 : Int32) (x6 : Int32) (x7 : Int32) (x8 : Int32) (u : tz_U) : Option (Int32 × tz_U) :=
  (if x7 = 0 then fL_done_p222 a1 a2 x3 x6 0 u else (if x8 = 0 then (if x3 = 0 then fL_done_p222 a1 a2 x3 x6 1 u else fL_done_p222 a1 a2 x3 x6 0 u) else (if x5 = 0 then (if x4 = 0 then fL_done_p172 a1 a2 x3 x6 1 x3 u else fL_done_p172 a1 a2 x3 x6 (-1) x3 u) else (if x4 ≤ (200 * x5) then (if x4 = 0 then fL_done_p214 a1 a2 x3 x6 1 x3 u else tl_g (¬ x5 = 0) (fL_done_p214 a1 a2 x3 x6 (((x4 + x5) - 1) / x5) x3 u)) else (if x3 = (-1) then fL_done_p222 a1 a2 x3 x6 1 u else fL_done_p222 a1 a2 x3 x6 0 u)))))

def fL_done_p119 (a1 : Nat) (a2 : Nat) (x3 : Int32) (x4 : Int32) (x5 : Int32) (x6 : Int32) (x7 : Int32) (u : tz_U) : Option (Int32 × tz_U) :=
  tl_b2 (fL_call a1 2 10 0 0 u) (fun x8 u10 => (if x8 ≤ 0 then fL_done_p138 a1 a2 x3 x4 x5 x6 x7 0 u10 else fL_done_p138 a1 a2 x3 x4 x5 x6 x7 1 u10))

def fL_done_p48 (a1 : Nat) (a2 : Nat) (x3 : Int32) (x4 : Int32) (x5 : Int32) (x6 : Int32) (u : tz_U) : Option (Int32 × tz_U) :=
  tl_b2 (fL_call a1 16 0 4 0 u) (fun x7 u9 => (if x6 = 0 then fL_done_p119 a1 a2 x3 x4 x7 x5 0 u9 else tl_b2 (fL_call a2 16 0 4 0 u9) (fun x11 u13 => (if x11 = x7 then tl_b2 (fL_call a1 18 0 0 0 u13) (fun x15 u17 => tl_b2 (fL_thrown x15 u17) (fun x18 u20 => (if x18 = 0 then tl_b2 (fL_call a2 18 0 0 0 u20) (fun x22 u24 => tl_b2 (fL_thrown x22 u24) (fun x25 u27 => (if x25 = 0 then (if x4 < 0 then fL_done_p119 a1 a2 x3 x4 x7 x5 0 u27 else fL_done_p119 a1 a2 x3 x4 x7 x5 1 u27) else fL_done_p119 a1 a2 x3 x4 x7 x5 0 u27))) else fL_done_p119 a1 a2 x3 x4 x7 x5 0 u20))) else fL_done_p119 a1 a2 x3 x4 x7 x5 0 u13))))

def fL_done (a1 : Nat) (a2 : Nat) (u : tz_U) : Option (Int32 × tz_U) :=
  tl_b2 (fL_doneIn a1 u) (fun x3 u5 => tl_b2 (fL_call a1 6 3 0 0 u5) (fun x6 u8 => tl_b2 (fL_call a1 16 1 0 0 u8) (fun x9 u11 => tl_b2 (fL_call a2 16 1 0 0 u11) (fun x12 u14 => (if x12 = x9 then fL_done_p48 a1 a2 x3 x6 x9 1 u14 else fL_done_p48 a1 a2 x3 x6 x9 0 u14)))))

theorem lL_done_p390 {E : tl_E}  {u : tz_U} {r : Int32} {v : tz_U}  (h : fL_done_p390  u = some (r, v)) : tz_R E mL_done tl_X0 (tl_Z E mL_done (tz_Q E r v)) 37 (tz_HU E u) 390 [none, none, none, none, none, none, none, none] [] := by
  unfold fL_done_p390 at h
  exact tl_iconst (v := 1) dL_done_390 ic_1 (tl_goto (tgt := 395) dL_done_391 (by decide) (tz_ret dL_done_395 rfl rfl (CM := 37) ⟨Nat.le_of_ble_eq_true rfl, Nat.le_of_ble_eq_true rfl⟩ (Nat.le_of_ble_eq_true rfl) h))

theorem lL_done_p295 {E : tl_E} {a1 : Nat} {a2 : Nat} {x3 : Int32} {x4 : Int32} {u : tz_U} {r : Int32} {v : tz_U} (h1 : tz_on E a1) (h2 : tz_on E a2) (h : fL_done_p295 a1 a2 x3 x4 u = some (r, v)) : tz_R E mL_done tl_X0 (tl_Z E mL_done (tz_Q E r v)) 31 (tz_HU E u) 295 [some (.ref a1), some (.ref a2), none, none, none, some (.int x3), some (.int x4), none] [] := by
  unfold fL_done_p295 at h
  refine tl_iload dL_done_295 rfl (tl_if_eq (tgt := 394) dL_done_297 (by decide) (fun c5 => ?_) (fun c5 => ?_))
  · replace h := tl_ip h c5
    exact tl_iconst (v := 0) dL_done_394 ic_0 (tz_ret dL_done_395 rfl rfl (CM := 37) ⟨Nat.le_of_ble_eq_true rfl, Nat.le_of_ble_eq_true rfl⟩ (Nat.le_of_ble_eq_true rfl) h)
  · replace h := tl_in h c5
    obtain ⟨x6, u8, e7, h⟩ := tl_b2i h
    obtain ⟨x9, u11, e10, h⟩ := tl_b2i h
    refine tl_aload_n dL_done_300 rfl (tl_bipush (v := 18) dL_done_301 bp_18 (tl_iconst (v := 0) dL_done_303 ic_0 (tl_iconst (v := 0) dL_done_304 ic_0 (tl_iconst (v := 0) dL_done_305 ic_0 (tz_cS5 (lL_call h1 e7) dL_done_306 cs_L_done_189 (c := 1) ⟨rfl, rfl⟩ (k2 := 32) (Nat.le_of_ble_eq_true rfl) (CM := 37) ⟨Nat.le_of_ble_eq_true rfl, Nat.le_of_ble_eq_true rfl⟩ (Nat.le_of_ble_eq_true rfl) (Nat.le_of_ble_eq_true rfl) (tz_cS1 (lL_thrown  e10) dL_done_309 cs_L_done_243 (c := 0) ⟨rfl, rfl⟩ (k2 := 32) (Nat.le_of_ble_eq_true rfl) (CM := 37) ⟨Nat.le_of_ble_eq_true rfl, Nat.le_of_ble_eq_true rfl⟩ (Nat.le_of_ble_eq_true rfl) (Nat.le_of_ble_eq_true rfl) (tl_if_ne (tgt := 394) dL_done_312 (by decide) (fun c12 => ?_) (fun c12 => ?_))))))))
    · replace h := tl_in h c12
      exact tl_iconst (v := 0) dL_done_394 ic_0 (tz_ret dL_done_395 rfl rfl (CM := 37) ⟨Nat.le_of_ble_eq_true rfl, Nat.le_of_ble_eq_true rfl⟩ (Nat.le_of_ble_eq_true rfl) h)
    · replace h := tl_ip h c12
      obtain ⟨x13, u15, e14, h⟩ := tl_b2i h
      obtain ⟨x16, u18, e17, h⟩ := tl_b2i h
      refine tl_aload_n dL_done_315 rfl (tl_bipush (v := 18) dL_done_316 bp_18 (tl_iconst (v := 0) dL_done_318 ic_0 (tl_iconst (v := 0) dL_done_319 ic_0 (tl_iconst (v := 0) dL_done_320 ic_0 (tz_cS5 (lL_call h2 e14) dL_done_321 cs_L_done_189 (c := 1) ⟨rfl, rfl⟩ (k2 := 33) (Nat.le_of_ble_eq_true rfl) (CM := 37) ⟨Nat.le_of_ble_eq_true rfl, Nat.le_of_ble_eq_true rfl⟩ (Nat.le_of_ble_eq_true rfl) (Nat.le_of_ble_eq_true rfl) (tz_cS1 (lL_thrown  e17) dL_done_324 cs_L_done_243 (c := 0) ⟨rfl, rfl⟩ (k2 := 33) (Nat.le_of_ble_eq_true rfl) (CM := 37) ⟨Nat.le_of_ble_eq_true rfl, Nat.le_of_ble_eq_true rfl⟩ (Nat.le_of_ble_eq_true rfl) (Nat.le_of_ble_eq_true rfl) (tl_if_ne (tgt := 394) dL_done_327 (by decide) (fun c19 => ?_) (fun c19 => ?_))))))))
      · replace h := tl_in h c19
        exact tl_iconst (v := 0) dL_done_394 ic_0 (tz_ret dL_done_395 rfl rfl (CM := 37) ⟨Nat.le_of_ble_eq_true rfl, Nat.le_of_ble_eq_true rfl⟩ (Nat.le_of_ble_eq_true rfl) h)
      · replace h := tl_ip h c19
        obtain ⟨x20, u22, e21, h⟩ := tl_b2i h
        refine tl_aload_n dL_done_330 rfl (tl_bipush (v := 16) dL_done_331 bp_16 (tl_iconst (v := 1) dL_done_333 ic_1 (tl_iload dL_done_334 rfl (tl_iconst (v := 0) dL_done_336 ic_0 (tz_cS5 (lL_call h1 e21) dL_done_337 cs_L_done_189 (c := 1) ⟨rfl, rfl⟩ (k2 := 34) (Nat.le_of_ble_eq_true rfl) (CM := 37) ⟨Nat.le_of_ble_eq_true rfl, Nat.le_of_ble_eq_true rfl⟩ (Nat.le_of_ble_eq_true rfl) (Nat.le_of_ble_eq_true rfl) (tl_iload dL_done_340 rfl (tl_icmp_ne (tgt := 394) dL_done_342 (by decide) (fun c23 => ?_) (fun c23 => ?_))))))))
        · replace h := tl_in h c23
          exact tl_iconst (v := 0) dL_done_394 ic_0 (tz_ret dL_done_395 rfl rfl (CM := 37) ⟨Nat.le_of_ble_eq_true rfl, Nat.le_of_ble_eq_true rfl⟩ (Nat.le_of_ble_eq_true rfl) h)
        · replace h := tl_ip h c23
          obtain ⟨x24, u26, e25, h⟩ := tl_b2i h
          refine tl_aload_n dL_done_345 rfl (tl_bipush (v := 16) dL_done_346 bp_16 (tl_iconst (v := 1) dL_done_348 ic_1 (tl_iload dL_done_349 rfl (tl_iconst (v := 0) dL_done_351 ic_0 (tz_cS5 (lL_call h2 e25) dL_done_352 cs_L_done_189 (c := 1) ⟨rfl, rfl⟩ (k2 := 35) (Nat.le_of_ble_eq_true rfl) (CM := 37) ⟨Nat.le_of_ble_eq_true rfl, Nat.le_of_ble_eq_true rfl⟩ (Nat.le_of_ble_eq_true rfl) (Nat.le_of_ble_eq_true rfl) (tl_iload dL_done_355 rfl (tl_icmp_ne (tgt := 394) dL_done_357 (by decide) (fun c27 => ?_) (fun c27 => ?_))))))))
          · replace h := tl_in h c27
            exact tl_iconst (v := 0) dL_done_394 ic_0 (tz_ret dL_done_395 rfl rfl (CM := 37) ⟨Nat.le_of_ble_eq_true rfl, Nat.le_of_ble_eq_true rfl⟩ (Nat.le_of_ble_eq_true rfl) h)
          · replace h := tl_ip h c27
            obtain ⟨x28, u30, e29, h⟩ := tl_b2i h
            obtain ⟨x31, u33, e32, h⟩ := tl_b2i h
            refine tl_aload_n dL_done_360 rfl (tl_bipush (v := 18) dL_done_361 bp_18 (tl_iconst (v := 0) dL_done_363 ic_0 (tl_iconst (v := 0) dL_done_364 ic_0 (tl_iconst (v := 0) dL_done_365 ic_0 (tz_cS5 (lL_call h1 e29) dL_done_366 cs_L_done_189 (c := 1) ⟨rfl, rfl⟩ (k2 := 36) (Nat.le_of_ble_eq_true rfl) (CM := 37) ⟨Nat.le_of_ble_eq_true rfl, Nat.le_of_ble_eq_true rfl⟩ (Nat.le_of_ble_eq_true rfl) (Nat.le_of_ble_eq_true rfl) (tz_cS1 (lL_thrown  e32) dL_done_369 cs_L_done_243 (c := 0) ⟨rfl, rfl⟩ (k2 := 36) (Nat.le_of_ble_eq_true rfl) (CM := 37) ⟨Nat.le_of_ble_eq_true rfl, Nat.le_of_ble_eq_true rfl⟩ (Nat.le_of_ble_eq_true rfl) (Nat.le_of_ble_eq_true rfl) (tl_if_ne (tgt := 394) dL_done_372 (by decide) (fun c34 => ?_) (fun c34 => ?_))))))))
            · replace h := tl_in h c34
              exact tl_iconst (v := 0) dL_done_394 ic_0 (tz_ret dL_done_395 rfl rfl (CM := 37) ⟨Nat.le_of_ble_eq_true rfl, Nat.le_of_ble_eq_true rfl⟩ (Nat.le_of_ble_eq_true rfl) h)
            · replace h := tl_ip h c34
              obtain ⟨x35, u37, e36, h⟩ := tl_b2i h
              obtain ⟨x38, u40, e39, h⟩ := tl_b2i h
              refine tl_aload_n dL_done_375 rfl (tl_bipush (v := 18) dL_done_376 bp_18 (tl_iconst (v := 0) dL_done_378 ic_0 (tl_iconst (v := 0) dL_done_379 ic_0 (tl_iconst (v := 0) dL_done_380 ic_0 (tz_cS5 (lL_call h2 e36) dL_done_381 cs_L_done_189 (c := 1) ⟨rfl, rfl⟩ (k2 := 37) (Nat.le_of_ble_eq_true rfl) (CM := 37) ⟨Nat.le_of_ble_eq_true rfl, Nat.le_of_ble_eq_true rfl⟩ (Nat.le_of_ble_eq_true rfl) (Nat.le_of_ble_eq_true rfl) (tz_cS1 (lL_thrown  e39) dL_done_384 cs_L_done_243 (c := 0) ⟨rfl, rfl⟩ (k2 := 37) (Nat.le_of_ble_eq_true rfl) (CM := 37) ⟨Nat.le_of_ble_eq_true rfl, Nat.le_of_ble_eq_true rfl⟩ (Nat.le_of_ble_eq_true rfl) (Nat.le_of_ble_eq_true rfl) (tl_if_ne (tgt := 394) dL_done_387 (by decide) (fun c41 => ?_) (fun c41 => ?_))))))))
              · replace h := tl_in h c41
                exact tl_iconst (v := 0) dL_done_394 ic_0 (tz_ret dL_done_395 rfl rfl (CM := 37) ⟨Nat.le_of_ble_eq_true rfl, Nat.le_of_ble_eq_true rfl⟩ (Nat.le_of_ble_eq_true rfl) h)
              · replace h := tl_ip h c41
                exact tz_fg (ls2 := [none, none, none, none, none, none, none, none]) trivial (tz_wd (k2 := 37) (Nat.le_of_ble_eq_true rfl) (lL_done_p390  h))

theorem lL_done_p222 {E : tl_E} {a1 : Nat} {a2 : Nat} {x3 : Int32} {x4 : Int32} {x5 : Int32} {u : tz_U} {r : Int32} {v : tz_U} (h1 : tz_on E a1) (h2 : tz_on E a2) (h : fL_done_p222 a1 a2 x3 x4 x5 u = some (r, v)) : tz_R E mL_done tl_X0 (tl_Z E mL_done (tz_Q E r v)) 8 (tz_HU E u) 222 [some (.ref a1), some (.ref a2), some (.int x3), none, none, some (.int x4), none, none] [.int x5] := by
  unfold fL_done_p222 at h
  refine tl_istore dL_done_222 (Nat.le_of_ble_eq_true rfl) (tl_iload_n dL_done_224 rfl (tl_if_le (tgt := 295) dL_done_225 (by decide) (fun c6 => ?_) (fun c6 => ?_)))
  · replace h := tl_ip h c6
    exact tz_fg (ls2 := [some (.ref a1), some (.ref a2), none, none, none, some (.int x4), some (.int x5), none]) (And.intro rfl (And.intro rfl (And.intro rfl (And.intro rfl trivial)))) (tz_wd (k2 := 31) (Nat.le_of_ble_eq_true rfl) (lL_done_p295 h1 h2 h))
  · replace h := tl_in h c6
    refine tl_iload dL_done_228 rfl (tl_if_eq (tgt := 295) dL_done_230 (by decide) (fun c7 => ?_) (fun c7 => ?_))
    · replace h := tl_ip h c7
      exact tz_fg (ls2 := [some (.ref a1), some (.ref a2), none, none, none, some (.int x4), some (.int x5), none]) (And.intro rfl (And.intro rfl (And.intro rfl (And.intro rfl trivial)))) (tz_wd (k2 := 31) (Nat.le_of_ble_eq_true rfl) (lL_done_p295 h1 h2 h))
    · replace h := tl_in h c7
      obtain ⟨x8, u10, e9, h⟩ := tl_b2i h
      refine tl_aload_n dL_done_233 rfl (tl_aload_n dL_done_234 rfl (tl_iload_n dL_done_235 rfl (tz_cS3 (lL_waits h1 h2 e9) dL_done_236 cs_L_done_247 (c := 10) ⟨rfl, rfl⟩ (k2 := 18) (Nat.le_of_ble_eq_true rfl) (CM := 37) ⟨Nat.le_of_ble_eq_true rfl, Nat.le_of_ble_eq_true rfl⟩ (Nat.le_of_ble_eq_true rfl) (Nat.le_of_ble_eq_true rfl) (tl_if_eq (tgt := 292) dL_done_239 (by decide) (fun c11 => ?_) (fun c11 => ?_)))))
      · replace h := tl_ip h c11
        refine tl_iconst (v := 0) dL_done_292 ic_0 (tl_istore dL_done_293 (Nat.le_of_ble_eq_true rfl) (?_))
        exact tz_fg (ls2 := [some (.ref a1), some (.ref a2), none, none, none, some (.int x4), some (.int 0), none]) (And.intro rfl (And.intro rfl (And.intro rfl (And.intro rfl trivial)))) (tz_wd (k2 := 31) (Nat.le_of_ble_eq_true rfl) (lL_done_p295 h1 h2 h))
      · replace h := tl_in h c11
        obtain ⟨x12, u14, e13, h⟩ := tl_b2i h
        refine tl_aload_n dL_done_242 rfl (tl_iconst (v := 2) dL_done_243 ic_2 (tl_bipush (v := 10) dL_done_244 bp_10 (tl_iconst (v := 0) dL_done_246 ic_0 (tl_iconst (v := 0) dL_done_247 ic_0 (tz_cS5 (lL_call h1 e13) dL_done_248 cs_L_done_189 (c := 1) ⟨rfl, rfl⟩ (k2 := 19) (Nat.le_of_ble_eq_true rfl) (CM := 37) ⟨Nat.le_of_ble_eq_true rfl, Nat.le_of_ble_eq_true rfl⟩ (Nat.le_of_ble_eq_true rfl) (Nat.le_of_ble_eq_true rfl) (tl_if_ne (tgt := 292) dL_done_251 (by decide) (fun c15 => ?_) (fun c15 => ?_)))))))
        · replace h := tl_in h c15
          refine tl_iconst (v := 0) dL_done_292 ic_0 (tl_istore dL_done_293 (Nat.le_of_ble_eq_true rfl) (?_))
          exact tz_fg (ls2 := [some (.ref a1), some (.ref a2), none, none, none, some (.int x4), some (.int 0), none]) (And.intro rfl (And.intro rfl (And.intro rfl (And.intro rfl trivial)))) (tz_wd (k2 := 31) (Nat.le_of_ble_eq_true rfl) (lL_done_p295 h1 h2 h))
        · replace h := tl_ip h c15
          obtain ⟨x16, u18, e17, h⟩ := tl_b2i h
          refine tl_aload_n dL_done_254 rfl (tl_bipush (v := 6) dL_done_255 bp_6 (tl_iconst (v := 2) dL_done_257 ic_2 (tl_iconst (v := 0) dL_done_258 ic_0 (tl_iconst (v := 0) dL_done_259 ic_0 (tz_cS5 (lL_call h1 e17) dL_done_260 cs_L_done_189 (c := 1) ⟨rfl, rfl⟩ (k2 := 20) (Nat.le_of_ble_eq_true rfl) (CM := 37) ⟨Nat.le_of_ble_eq_true rfl, Nat.le_of_ble_eq_true rfl⟩ (Nat.le_of_ble_eq_true rfl) (Nat.le_of_ble_eq_true rfl) (tl_iconst (v := (-1)) dL_done_263 ic_m1 (tl_icmp_ne (tgt := 292) dL_done_264 (by decide) (fun c19 => ?_) (fun c19 => ?_))))))))
          · replace h := tl_in h c19
            refine tl_iconst (v := 0) dL_done_292 ic_0 (tl_istore dL_done_293 (Nat.le_of_ble_eq_true rfl) (?_))
            exact tz_fg (ls2 := [some (.ref a1), some (.ref a2), none, none, none, some (.int x4), some (.int 0), none]) (And.intro rfl (And.intro rfl (And.intro rfl (And.intro rfl trivial)))) (tz_wd (k2 := 31) (Nat.le_of_ble_eq_true rfl) (lL_done_p295 h1 h2 h))
          · replace h := tl_ip h c19
            obtain ⟨x20, u22, e21, h⟩ := tl_b2i h
            refine tl_aload_n dL_done_267 rfl (tl_iconst (v := 2) dL_done_268 ic_2 (tl_bipush (v := 6) dL_done_269 bp_6 (tl_iconst (v := 0) dL_done_271 ic_0 (tl_iconst (v := 0) dL_done_272 ic_0 (tz_cS5 (lL_call h1 e21) dL_done_273 cs_L_done_189 (c := 1) ⟨rfl, rfl⟩ (k2 := 21) (Nat.le_of_ble_eq_true rfl) (CM := 37) ⟨Nat.le_of_ble_eq_true rfl, Nat.le_of_ble_eq_true rfl⟩ (Nat.le_of_ble_eq_true rfl) (Nat.le_of_ble_eq_true rfl) (tl_if_ne (tgt := 292) dL_done_276 (by decide) (fun c23 => ?_) (fun c23 => ?_)))))))
            · replace h := tl_in h c23
              refine tl_iconst (v := 0) dL_done_292 ic_0 (tl_istore dL_done_293 (Nat.le_of_ble_eq_true rfl) (?_))
              exact tz_fg (ls2 := [some (.ref a1), some (.ref a2), none, none, none, some (.int x4), some (.int 0), none]) (And.intro rfl (And.intro rfl (And.intro rfl (And.intro rfl trivial)))) (tz_wd (k2 := 31) (Nat.le_of_ble_eq_true rfl) (lL_done_p295 h1 h2 h))
            · replace h := tl_ip h c23
              obtain ⟨x24, u26, e25, h⟩ := tl_b2i h
              refine tl_aload_n dL_done_279 rfl (tl_aload_n dL_done_280 rfl (tl_iload_n dL_done_281 rfl (tz_cS3 (lL_undoes h1 h2 e25) dL_done_282 cs_L_done_250 (c := 10) ⟨rfl, rfl⟩ (k2 := 31) (Nat.le_of_ble_eq_true rfl) (CM := 37) ⟨Nat.le_of_ble_eq_true rfl, Nat.le_of_ble_eq_true rfl⟩ (Nat.le_of_ble_eq_true rfl) (Nat.le_of_ble_eq_true rfl) (tl_if_eq (tgt := 292) dL_done_285 (by decide) (fun c27 => ?_) (fun c27 => ?_)))))
              · replace h := tl_ip h c27
                refine tl_iconst (v := 0) dL_done_292 ic_0 (tl_istore dL_done_293 (Nat.le_of_ble_eq_true rfl) (?_))
                exact tz_fg (ls2 := [some (.ref a1), some (.ref a2), none, none, none, some (.int x4), some (.int 0), none]) (And.intro rfl (And.intro rfl (And.intro rfl (And.intro rfl trivial)))) (tz_wd (k2 := 31) (Nat.le_of_ble_eq_true rfl) (lL_done_p295 h1 h2 h))
              · replace h := tl_in h c27
                refine tl_iconst (v := 1) dL_done_288 ic_1 (tl_goto (tgt := 293) dL_done_289 (by decide) (tl_istore dL_done_293 (Nat.le_of_ble_eq_true rfl) (?_)))
                exact tz_fg (ls2 := [some (.ref a1), some (.ref a2), none, none, none, some (.int x4), some (.int 1), none]) (And.intro rfl (And.intro rfl (And.intro rfl (And.intro rfl trivial)))) (tz_wd (k2 := 31) (Nat.le_of_ble_eq_true rfl) (lL_done_p295 h1 h2 h))

theorem lL_done_p214 {E : tl_E} {a1 : Nat} {a2 : Nat} {x3 : Int32} {x4 : Int32} {x5 : Int32} {x6 : Int32} {u : tz_U} {r : Int32} {v : tz_U} (h1 : tz_on E a1) (h2 : tz_on E a2) (h : fL_done_p214 a1 a2 x3 x4 x5 x6 u = some (r, v)) : tz_R E mL_done tl_X0 (tl_Z E mL_done (tz_Q E r v)) 8 (tz_HU E u) 214 [some (.ref a1), some (.ref a2), some (.int x3), none, none, some (.int x4), none, none] [.int x5, .int x6] := by
  unfold fL_done_p214 at h
  refine tl_icmp_ne (tgt := 221) dL_done_214 (by decide) (fun c7 => ?_) (fun c7 => ?_)
  · replace h := tl_in h c7
    refine tl_iconst (v := 0) dL_done_221 ic_0 (?_)
    exact tz_fg (ls2 := [some (.ref a1), some (.ref a2), some (.int x3), none, none, some (.int x4), none, none]) (And.intro rfl (And.intro rfl (And.intro rfl (And.intro rfl trivial)))) (tz_wd (k2 := 8) (Nat.le_of_ble_eq_true rfl) (lL_done_p222 h1 h2 h))
  · replace h := tl_ip h c7
    refine tl_iconst (v := 1) dL_done_217 ic_1 (tl_goto (tgt := 222) dL_done_218 (by decide) (?_))
    exact tz_fg (ls2 := [some (.ref a1), some (.ref a2), some (.int x3), none, none, some (.int x4), none, none]) (And.intro rfl (And.intro rfl (And.intro rfl (And.intro rfl trivial)))) (tz_wd (k2 := 8) (Nat.le_of_ble_eq_true rfl) (lL_done_p222 h1 h2 h))

theorem lL_done_p172 {E : tl_E} {a1 : Nat} {a2 : Nat} {x3 : Int32} {x4 : Int32} {x5 : Int32} {x6 : Int32} {u : tz_U} {r : Int32} {v : tz_U} (h1 : tz_on E a1) (h2 : tz_on E a2) (h : fL_done_p172 a1 a2 x3 x4 x5 x6 u = some (r, v)) : tz_R E mL_done tl_X0 (tl_Z E mL_done (tz_Q E r v)) 8 (tz_HU E u) 172 [some (.ref a1), some (.ref a2), some (.int x3), none, none, some (.int x4), none, none] [.int x5, .int x6] := by
  unfold fL_done_p172 at h
  refine tl_icmp_ne (tgt := 221) dL_done_172 (by decide) (fun c7 => ?_) (fun c7 => ?_)
  · replace h := tl_in h c7
    refine tl_iconst (v := 0) dL_done_221 ic_0 (?_)
    exact tz_fg (ls2 := [some (.ref a1), some (.ref a2), some (.int x3), none, none, some (.int x4), none, none]) (And.intro rfl (And.intro rfl (And.intro rfl (And.intro rfl trivial)))) (tz_wd (k2 := 8) (Nat.le_of_ble_eq_true rfl) (lL_done_p222 h1 h2 h))
  · replace h := tl_ip h c7
    refine tl_goto (tgt := 217) dL_done_175 (by decide) (tl_iconst (v := 1) dL_done_217 ic_1 (tl_goto (tgt := 222) dL_done_218 (by decide) (?_)))
    exact tz_fg (ls2 := [some (.ref a1), some (.ref a2), some (.int x3), none, none, some (.int x4), none, none]) (And.intro rfl (And.intro rfl (And.intro rfl (And.intro rfl trivial)))) (tz_wd (k2 := 8) (Nat.le_of_ble_eq_true rfl) (lL_done_p222 h1 h2 h))

theorem lL_done_p138 {E : tl_E} {a1 : Nat} {a2 : Nat} {x3 : Int32} {x4 : Int32} {x5 : Int32} {x6 : Int32} {x7 : Int32} {x8 : Int32} {u : tz_U} {r : Int32} {v : tz_U} (h1 : tz_on E a1) (h2 : tz_on E a2) (h : fL_done_p138 a1 a2 x3 x4 x5 x6 x7 x8 u = some (r, v)) : tz_R E mL_done tl_X0 (tl_Z E mL_done (tz_Q E r v)) 8 (tz_HU E u) 138 [some (.ref a1), some (.ref a2), some (.int x3), some (.int x4), some (.int x5), some (.int x6), some (.int x7), none] [.int x8] := by
  unfold fL_done_p138 at h
  refine tl_istore dL_done_138 (Nat.le_of_ble_eq_true rfl) (tl_iload dL_done_140 rfl (tl_if_eq (tgt := 221) dL_done_142 (by decide) (fun c9 => ?_) (fun c9 => ?_)))
  · replace h := tl_ip h c9
    refine tl_iconst (v := 0) dL_done_221 ic_0 (?_)
    exact tz_fg (ls2 := [some (.ref a1), some (.ref a2), some (.int x3), none, none, some (.int x6), none, none]) (And.intro rfl (And.intro rfl (And.intro rfl (And.intro rfl trivial)))) (tz_wd (k2 := 8) (Nat.le_of_ble_eq_true rfl) (lL_done_p222 h1 h2 h))
  · replace h := tl_in h c9
    refine tl_iload dL_done_145 rfl (tl_if_ne (tgt := 157) dL_done_147 (by decide) (fun c10 => ?_) (fun c10 => ?_))
    · replace h := tl_in h c10
      refine tl_iload dL_done_157 rfl (tl_if_ne (tgt := 178) dL_done_159 (by decide) (fun c11 => ?_) (fun c11 => ?_))
      · replace h := tl_in h c11
        refine tl_iload_n dL_done_178 rfl (tl_sipush (v := 200) dL_done_179 sp_200 (tl_iload dL_done_182 rfl (tl_imul dL_done_184 (tl_icmp_le (tgt := 196) dL_done_185 (by decide) (fun c12 => ?_) (fun c12 => ?_)))))
        · replace h := tl_ip h c12
          refine tl_iload_n dL_done_196 rfl (tl_iload_n dL_done_197 rfl (tl_if_ne (tgt := 205) dL_done_198 (by decide) (fun c13 => ?_) (fun c13 => ?_)))
          · replace h := tl_in h c13
            obtain ⟨g14, h⟩ := tl_gi h
            refine tl_iload_n dL_done_205 rfl (tl_iload dL_done_206 rfl (tl_iadd dL_done_208 (tl_iconst (v := 1) dL_done_209 ic_1 (tl_isub dL_done_210 (tl_iload dL_done_211 rfl (tl_idiv dL_done_213 g14 (?_)))))))
            exact tz_fg (ls2 := [some (.ref a1), some (.ref a2), some (.int x3), none, none, some (.int x6), none, none]) (And.intro rfl (And.intro rfl (And.intro rfl (And.intro rfl trivial)))) (tz_wd (k2 := 8) (Nat.le_of_ble_eq_true rfl) (lL_done_p214 h1 h2 h))
          · replace h := tl_ip h c13
            refine tl_iconst (v := 1) dL_done_201 ic_1 (tl_goto (tgt := 214) dL_done_202 (by decide) (?_))
            exact tz_fg (ls2 := [some (.ref a1), some (.ref a2), some (.int x3), none, none, some (.int x6), none, none]) (And.intro rfl (And.intro rfl (And.intro rfl (And.intro rfl trivial)))) (tz_wd (k2 := 8) (Nat.le_of_ble_eq_true rfl) (lL_done_p214 h1 h2 h))
        · replace h := tl_in h c12
          refine tl_iload_n dL_done_188 rfl (tl_iconst (v := (-1)) dL_done_189 ic_m1 (tl_icmp_ne (tgt := 221) dL_done_190 (by decide) (fun c13 => ?_) (fun c13 => ?_)))
          · replace h := tl_in h c13
            refine tl_iconst (v := 0) dL_done_221 ic_0 (?_)
            exact tz_fg (ls2 := [some (.ref a1), some (.ref a2), some (.int x3), none, none, some (.int x6), none, none]) (And.intro rfl (And.intro rfl (And.intro rfl (And.intro rfl trivial)))) (tz_wd (k2 := 8) (Nat.le_of_ble_eq_true rfl) (lL_done_p222 h1 h2 h))
          · replace h := tl_ip h c13
            refine tl_goto (tgt := 217) dL_done_193 (by decide) (tl_iconst (v := 1) dL_done_217 ic_1 (tl_goto (tgt := 222) dL_done_218 (by decide) (?_)))
            exact tz_fg (ls2 := [some (.ref a1), some (.ref a2), some (.int x3), none, none, some (.int x6), none, none]) (And.intro rfl (And.intro rfl (And.intro rfl (And.intro rfl trivial)))) (tz_wd (k2 := 8) (Nat.le_of_ble_eq_true rfl) (lL_done_p222 h1 h2 h))
      · replace h := tl_ip h c11
        refine tl_iload_n dL_done_162 rfl (tl_iload_n dL_done_163 rfl (tl_if_ne (tgt := 171) dL_done_164 (by decide) (fun c12 => ?_) (fun c12 => ?_)))
        · replace h := tl_in h c12
          refine tl_iconst (v := (-1)) dL_done_171 ic_m1 (?_)
          exact tz_fg (ls2 := [some (.ref a1), some (.ref a2), some (.int x3), none, none, some (.int x6), none, none]) (And.intro rfl (And.intro rfl (And.intro rfl (And.intro rfl trivial)))) (tz_wd (k2 := 8) (Nat.le_of_ble_eq_true rfl) (lL_done_p172 h1 h2 h))
        · replace h := tl_ip h c12
          refine tl_iconst (v := 1) dL_done_167 ic_1 (tl_goto (tgt := 172) dL_done_168 (by decide) (?_))
          exact tz_fg (ls2 := [some (.ref a1), some (.ref a2), some (.int x3), none, none, some (.int x6), none, none]) (And.intro rfl (And.intro rfl (And.intro rfl (And.intro rfl trivial)))) (tz_wd (k2 := 8) (Nat.le_of_ble_eq_true rfl) (lL_done_p172 h1 h2 h))
    · replace h := tl_ip h c10
      refine tl_iload_n dL_done_150 rfl (tl_if_ne (tgt := 221) dL_done_151 (by decide) (fun c11 => ?_) (fun c11 => ?_))
      · replace h := tl_in h c11
        refine tl_iconst (v := 0) dL_done_221 ic_0 (?_)
        exact tz_fg (ls2 := [some (.ref a1), some (.ref a2), some (.int x3), none, none, some (.int x6), none, none]) (And.intro rfl (And.intro rfl (And.intro rfl (And.intro rfl trivial)))) (tz_wd (k2 := 8) (Nat.le_of_ble_eq_true rfl) (lL_done_p222 h1 h2 h))
      · replace h := tl_ip h c11
        refine tl_goto (tgt := 217) dL_done_154 (by decide) (tl_iconst (v := 1) dL_done_217 ic_1 (tl_goto (tgt := 222) dL_done_218 (by decide) (?_)))
        exact tz_fg (ls2 := [some (.ref a1), some (.ref a2), some (.int x3), none, none, some (.int x6), none, none]) (And.intro rfl (And.intro rfl (And.intro rfl (And.intro rfl trivial)))) (tz_wd (k2 := 8) (Nat.le_of_ble_eq_true rfl) (lL_done_p222 h1 h2 h))

theorem lL_done_p119 {E : tl_E} {a1 : Nat} {a2 : Nat} {x3 : Int32} {x4 : Int32} {x5 : Int32} {x6 : Int32} {x7 : Int32} {u : tz_U} {r : Int32} {v : tz_U} (h1 : tz_on E a1) (h2 : tz_on E a2) (h : fL_done_p119 a1 a2 x3 x4 x5 x6 x7 u = some (r, v)) : tz_R E mL_done tl_X0 (tl_Z E mL_done (tz_Q E r v)) 7 (tz_HU E u) 119 [some (.ref a1), some (.ref a2), some (.int x3), some (.int x4), some (.int x5), some (.int x6), none, none] [.int x7] := by
  unfold fL_done_p119 at h
  obtain ⟨x8, u10, e9, h⟩ := tl_b2i h
  refine tl_istore dL_done_119 (Nat.le_of_ble_eq_true rfl) (tl_aload_n dL_done_121 rfl (tl_iconst (v := 2) dL_done_122 ic_2 (tl_bipush (v := 10) dL_done_123 bp_10 (tl_iconst (v := 0) dL_done_125 ic_0 (tl_iconst (v := 0) dL_done_126 ic_0 (tz_cS5 (lL_call h1 e9) dL_done_127 cs_L_done_189 (c := 1) ⟨rfl, rfl⟩ (k2 := 8) (Nat.le_of_ble_eq_true rfl) (CM := 37) ⟨Nat.le_of_ble_eq_true rfl, Nat.le_of_ble_eq_true rfl⟩ (Nat.le_of_ble_eq_true rfl) (Nat.le_of_ble_eq_true rfl) (tl_if_le (tgt := 137) dL_done_130 (by decide) (fun c11 => ?_) (fun c11 => ?_))))))))
  · replace h := tl_ip h c11
    refine tl_iconst (v := 0) dL_done_137 ic_0 (?_)
    exact tz_fg (ls2 := [some (.ref a1), some (.ref a2), some (.int x3), some (.int x4), some (.int x5), some (.int x6), some (.int x7), none]) (And.intro rfl (And.intro rfl (And.intro rfl (And.intro rfl (And.intro rfl (And.intro rfl (And.intro rfl trivial))))))) (tz_wd (k2 := 8) (Nat.le_of_ble_eq_true rfl) (lL_done_p138 h1 h2 h))
  · replace h := tl_in h c11
    refine tl_iconst (v := 1) dL_done_133 ic_1 (tl_goto (tgt := 138) dL_done_134 (by decide) (?_))
    exact tz_fg (ls2 := [some (.ref a1), some (.ref a2), some (.int x3), some (.int x4), some (.int x5), some (.int x6), some (.int x7), none]) (And.intro rfl (And.intro rfl (And.intro rfl (And.intro rfl (And.intro rfl (And.intro rfl (And.intro rfl trivial))))))) (tz_wd (k2 := 8) (Nat.le_of_ble_eq_true rfl) (lL_done_p138 h1 h2 h))

theorem lL_done_p48 {E : tl_E} {a1 : Nat} {a2 : Nat} {x3 : Int32} {x4 : Int32} {x5 : Int32} {x6 : Int32} {u : tz_U} {r : Int32} {v : tz_U} (h1 : tz_on E a1) (h2 : tz_on E a2) (h : fL_done_p48 a1 a2 x3 x4 x5 x6 u = some (r, v)) : tz_R E mL_done tl_X0 (tl_Z E mL_done (tz_Q E r v)) 3 (tz_HU E u) 48 [some (.ref a1), some (.ref a2), some (.int x3), some (.int x4), none, some (.int x5), none, none] [.int x6] := by
  unfold fL_done_p48 at h
  obtain ⟨x7, u9, e8, h⟩ := tl_b2i h
  refine tl_istore dL_done_48 (Nat.le_of_ble_eq_true rfl) (tl_aload_n dL_done_50 rfl (tl_bipush (v := 16) dL_done_51 bp_16 (tl_iconst (v := 0) dL_done_53 ic_0 (tl_iconst (v := 4) dL_done_54 ic_4 (tl_iconst (v := 0) dL_done_55 ic_0 (tz_cS5 (lL_call h1 e8) dL_done_56 cs_L_done_189 (c := 1) ⟨rfl, rfl⟩ (k2 := 4) (Nat.le_of_ble_eq_true rfl) (CM := 37) ⟨Nat.le_of_ble_eq_true rfl, Nat.le_of_ble_eq_true rfl⟩ (Nat.le_of_ble_eq_true rfl) (Nat.le_of_ble_eq_true rfl) (tl_istore dL_done_59 (Nat.le_of_ble_eq_true rfl) (tl_iload dL_done_61 rfl (tl_if_eq (tgt := 118) dL_done_63 (by decide) (fun c10 => ?_) (fun c10 => ?_))))))))))
  · replace h := tl_ip h c10
    refine tl_iconst (v := 0) dL_done_118 ic_0 (?_)
    exact tz_fg (ls2 := [some (.ref a1), some (.ref a2), some (.int x3), some (.int x4), some (.int x7), some (.int x5), none, none]) (And.intro rfl (And.intro rfl (And.intro rfl (And.intro rfl (And.intro rfl (And.intro rfl trivial)))))) (tz_wd (k2 := 7) (Nat.le_of_ble_eq_true rfl) (lL_done_p119 h1 h2 h))
  · replace h := tl_in h c10
    obtain ⟨x11, u13, e12, h⟩ := tl_b2i h
    refine tl_aload_n dL_done_66 rfl (tl_bipush (v := 16) dL_done_67 bp_16 (tl_iconst (v := 0) dL_done_69 ic_0 (tl_iconst (v := 4) dL_done_70 ic_4 (tl_iconst (v := 0) dL_done_71 ic_0 (tz_cS5 (lL_call h2 e12) dL_done_72 cs_L_done_189 (c := 1) ⟨rfl, rfl⟩ (k2 := 5) (Nat.le_of_ble_eq_true rfl) (CM := 37) ⟨Nat.le_of_ble_eq_true rfl, Nat.le_of_ble_eq_true rfl⟩ (Nat.le_of_ble_eq_true rfl) (Nat.le_of_ble_eq_true rfl) (tl_iload dL_done_75 rfl (tl_icmp_ne (tgt := 118) dL_done_77 (by decide) (fun c14 => ?_) (fun c14 => ?_))))))))
    · replace h := tl_in h c14
      refine tl_iconst (v := 0) dL_done_118 ic_0 (?_)
      exact tz_fg (ls2 := [some (.ref a1), some (.ref a2), some (.int x3), some (.int x4), some (.int x7), some (.int x5), none, none]) (And.intro rfl (And.intro rfl (And.intro rfl (And.intro rfl (And.intro rfl (And.intro rfl trivial)))))) (tz_wd (k2 := 7) (Nat.le_of_ble_eq_true rfl) (lL_done_p119 h1 h2 h))
    · replace h := tl_ip h c14
      obtain ⟨x15, u17, e16, h⟩ := tl_b2i h
      obtain ⟨x18, u20, e19, h⟩ := tl_b2i h
      refine tl_aload_n dL_done_80 rfl (tl_bipush (v := 18) dL_done_81 bp_18 (tl_iconst (v := 0) dL_done_83 ic_0 (tl_iconst (v := 0) dL_done_84 ic_0 (tl_iconst (v := 0) dL_done_85 ic_0 (tz_cS5 (lL_call h1 e16) dL_done_86 cs_L_done_189 (c := 1) ⟨rfl, rfl⟩ (k2 := 6) (Nat.le_of_ble_eq_true rfl) (CM := 37) ⟨Nat.le_of_ble_eq_true rfl, Nat.le_of_ble_eq_true rfl⟩ (Nat.le_of_ble_eq_true rfl) (Nat.le_of_ble_eq_true rfl) (tz_cS1 (lL_thrown  e19) dL_done_89 cs_L_done_243 (c := 0) ⟨rfl, rfl⟩ (k2 := 6) (Nat.le_of_ble_eq_true rfl) (CM := 37) ⟨Nat.le_of_ble_eq_true rfl, Nat.le_of_ble_eq_true rfl⟩ (Nat.le_of_ble_eq_true rfl) (Nat.le_of_ble_eq_true rfl) (tl_if_ne (tgt := 118) dL_done_92 (by decide) (fun c21 => ?_) (fun c21 => ?_))))))))
      · replace h := tl_in h c21
        refine tl_iconst (v := 0) dL_done_118 ic_0 (?_)
        exact tz_fg (ls2 := [some (.ref a1), some (.ref a2), some (.int x3), some (.int x4), some (.int x7), some (.int x5), none, none]) (And.intro rfl (And.intro rfl (And.intro rfl (And.intro rfl (And.intro rfl (And.intro rfl trivial)))))) (tz_wd (k2 := 7) (Nat.le_of_ble_eq_true rfl) (lL_done_p119 h1 h2 h))
      · replace h := tl_ip h c21
        obtain ⟨x22, u24, e23, h⟩ := tl_b2i h
        obtain ⟨x25, u27, e26, h⟩ := tl_b2i h
        refine tl_aload_n dL_done_95 rfl (tl_bipush (v := 18) dL_done_96 bp_18 (tl_iconst (v := 0) dL_done_98 ic_0 (tl_iconst (v := 0) dL_done_99 ic_0 (tl_iconst (v := 0) dL_done_100 ic_0 (tz_cS5 (lL_call h2 e23) dL_done_101 cs_L_done_189 (c := 1) ⟨rfl, rfl⟩ (k2 := 7) (Nat.le_of_ble_eq_true rfl) (CM := 37) ⟨Nat.le_of_ble_eq_true rfl, Nat.le_of_ble_eq_true rfl⟩ (Nat.le_of_ble_eq_true rfl) (Nat.le_of_ble_eq_true rfl) (tz_cS1 (lL_thrown  e26) dL_done_104 cs_L_done_243 (c := 0) ⟨rfl, rfl⟩ (k2 := 7) (Nat.le_of_ble_eq_true rfl) (CM := 37) ⟨Nat.le_of_ble_eq_true rfl, Nat.le_of_ble_eq_true rfl⟩ (Nat.le_of_ble_eq_true rfl) (Nat.le_of_ble_eq_true rfl) (tl_if_ne (tgt := 118) dL_done_107 (by decide) (fun c28 => ?_) (fun c28 => ?_))))))))
        · replace h := tl_in h c28
          refine tl_iconst (v := 0) dL_done_118 ic_0 (?_)
          exact tz_fg (ls2 := [some (.ref a1), some (.ref a2), some (.int x3), some (.int x4), some (.int x7), some (.int x5), none, none]) (And.intro rfl (And.intro rfl (And.intro rfl (And.intro rfl (And.intro rfl (And.intro rfl trivial)))))) (tz_wd (k2 := 7) (Nat.le_of_ble_eq_true rfl) (lL_done_p119 h1 h2 h))
        · replace h := tl_ip h c28
          refine tl_iload_n dL_done_110 rfl (tl_if_lt (tgt := 118) dL_done_111 (by decide) (fun c29 => ?_) (fun c29 => ?_))
          · replace h := tl_ip h c29
            refine tl_iconst (v := 0) dL_done_118 ic_0 (?_)
            exact tz_fg (ls2 := [some (.ref a1), some (.ref a2), some (.int x3), some (.int x4), some (.int x7), some (.int x5), none, none]) (And.intro rfl (And.intro rfl (And.intro rfl (And.intro rfl (And.intro rfl (And.intro rfl trivial)))))) (tz_wd (k2 := 7) (Nat.le_of_ble_eq_true rfl) (lL_done_p119 h1 h2 h))
          · replace h := tl_in h c29
            refine tl_iconst (v := 1) dL_done_114 ic_1 (tl_goto (tgt := 119) dL_done_115 (by decide) (?_))
            exact tz_fg (ls2 := [some (.ref a1), some (.ref a2), some (.int x3), some (.int x4), some (.int x7), some (.int x5), none, none]) (And.intro rfl (And.intro rfl (And.intro rfl (And.intro rfl (And.intro rfl (And.intro rfl trivial)))))) (tz_wd (k2 := 7) (Nat.le_of_ble_eq_true rfl) (lL_done_p119 h1 h2 h))

theorem lL_done {E : tl_E} {a1 : Nat} {a2 : Nat} {u : tz_U} {r : Int32} {v : tz_U} (h1 : tz_on E a1) (h2 : tz_on E a2) (h : fL_done a1 a2 u = some (r, v)) : tz_ML E mL_done [.ref a1, .ref a2] u r v := by
  unfold fL_done at h
  refine tl_start [some (.ref a1), some (.ref a2), none, none, none, none, none, none] rfl rfl rfl (Nat.le_of_ble_eq_true rfl) (tz_st (tz_fg (ls2 := [some (.ref a1), some (.ref a2), none, none, none, none, none, none]) (And.intro rfl (And.intro rfl trivial)) ?_))
  obtain ⟨x3, u5, e4, h⟩ := tl_b2i h
  obtain ⟨x6, u8, e7, h⟩ := tl_b2i h
  obtain ⟨x9, u11, e10, h⟩ := tl_b2i h
  obtain ⟨x12, u14, e13, h⟩ := tl_b2i h
  refine tl_aload_n dL_done_0 rfl (tz_cD h1 (lL_doneIn h1 e4) rfl dL_done_1 cs_L_done_209 (c := 0) ⟨rfl, rfl⟩ (k2 := 0) (Nat.le_of_ble_eq_true rfl) (CM := 37) ⟨Nat.le_of_ble_eq_true rfl, Nat.le_of_ble_eq_true rfl⟩ (Nat.le_of_ble_eq_true rfl) (Nat.le_of_ble_eq_true rfl) (tl_istore_n dL_done_4 (Nat.le_of_ble_eq_true rfl) (tl_aload_n dL_done_5 rfl (tl_bipush (v := 6) dL_done_6 bp_6 (tl_iconst (v := 3) dL_done_8 ic_3 (tl_iconst (v := 0) dL_done_9 ic_0 (tl_iconst (v := 0) dL_done_10 ic_0 (tz_cS5 (lL_call h1 e7) dL_done_11 cs_L_done_189 (c := 1) ⟨rfl, rfl⟩ (k2 := 1) (Nat.le_of_ble_eq_true rfl) (CM := 37) ⟨Nat.le_of_ble_eq_true rfl, Nat.le_of_ble_eq_true rfl⟩ (Nat.le_of_ble_eq_true rfl) (Nat.le_of_ble_eq_true rfl) (tl_istore_n dL_done_14 (Nat.le_of_ble_eq_true rfl) (tl_iconst (v := 0) dL_done_15 ic_0 (tl_istore dL_done_16 (Nat.le_of_ble_eq_true rfl) (tl_aload_n dL_done_18 rfl (tl_bipush (v := 16) dL_done_19 bp_16 (tl_iconst (v := 1) dL_done_21 ic_1 (tl_iconst (v := 0) dL_done_22 ic_0 (tl_iconst (v := 0) dL_done_23 ic_0 (tz_cS5 (lL_call h1 e10) dL_done_24 cs_L_done_189 (c := 1) ⟨rfl, rfl⟩ (k2 := 2) (Nat.le_of_ble_eq_true rfl) (CM := 37) ⟨Nat.le_of_ble_eq_true rfl, Nat.le_of_ble_eq_true rfl⟩ (Nat.le_of_ble_eq_true rfl) (Nat.le_of_ble_eq_true rfl) (tl_istore dL_done_27 (Nat.le_of_ble_eq_true rfl) (tl_aload_n dL_done_29 rfl (tl_bipush (v := 16) dL_done_30 bp_16 (tl_iconst (v := 1) dL_done_32 ic_1 (tl_iconst (v := 0) dL_done_33 ic_0 (tl_iconst (v := 0) dL_done_34 ic_0 (tz_cS5 (lL_call h2 e13) dL_done_35 cs_L_done_189 (c := 1) ⟨rfl, rfl⟩ (k2 := 3) (Nat.le_of_ble_eq_true rfl) (CM := 37) ⟨Nat.le_of_ble_eq_true rfl, Nat.le_of_ble_eq_true rfl⟩ (Nat.le_of_ble_eq_true rfl) (Nat.le_of_ble_eq_true rfl) (tl_iload dL_done_38 rfl (tl_icmp_ne (tgt := 47) dL_done_40 (by decide) (fun c15 => ?_) (fun c15 => ?_)))))))))))))))))))))))))))
  · replace h := tl_in h c15
    refine tl_iconst (v := 0) dL_done_47 ic_0 (?_)
    exact tz_fg (ls2 := [some (.ref a1), some (.ref a2), some (.int x3), some (.int x6), none, some (.int x9), none, none]) (And.intro rfl (And.intro rfl (And.intro rfl (And.intro rfl (And.intro rfl trivial))))) (tz_wd (k2 := 3) (Nat.le_of_ble_eq_true rfl) (lL_done_p48 h1 h2 h))
  · replace h := tl_ip h c15
    refine tl_iconst (v := 1) dL_done_43 ic_1 (tl_goto (tgt := 48) dL_done_44 (by decide) (?_))
    exact tz_fg (ls2 := [some (.ref a1), some (.ref a2), some (.int x3), some (.int x6), none, some (.int x9), none, none]) (And.intro rfl (And.intro rfl (And.intro rfl (And.intro rfl (And.intro rfl trivial))))) (tz_wd (k2 := 3) (Nat.le_of_ble_eq_true rfl) (lL_done_p48 h1 h2 h))

theorem cs_L_best_189 : tl_cS mL_best mL_call 189 5 := ⟨cd_L_call, ml_L_189, sm_L_call, in_L, ⟨by decide, by decide, by decide +kernel⟩, Nat.le_of_ble_eq_true rfl, Nat.le_of_ble_eq_true rfl⟩
theorem cs_L_best_243 : tl_cS mL_best mL_thrown 243 1 := ⟨cd_L_thrown, ml_L_243, sm_L_thrown, in_L, ⟨by decide, by decide, by decide +kernel⟩, Nat.le_of_ble_eq_true rfl, Nat.le_of_ble_eq_true rfl⟩
def fL_best_p328 (a1 : Nat) (a2 : Nat) (u : tz_U) : Option (Int32 × tz_U) :=
  tl_b2 (fL_call a1 18 0 0 0 u) (fun x3 u5 => tl_b2 (fL_thrown x3 u5) (fun x6 u8 => (if x6 = 0 then tl_b2 (fL_call a2 18 0 0 0 u8) (fun x10 u12 => tl_b2 (fL_thrown x10 u12) (fun x13 u15 => (if x13 = 0 then tl_b2 (fL_call a1 18 0 0 0 u15) (fun x17 u19 => tl_b2 (fL_thrown x17 u19) (fun x20 u22 => (if x20 = 0 then tl_b2 (fL_call a2 18 0 0 0 u22) (fun x24 u26 => tl_b2 (fL_thrown x24 u26) (fun x27 u29 => (if x27 = 0 then some (1, u29) else some (0, u29)))) else some (0, u22)))) else some (0, u15)))) else some (0, u8))))

def fL_best_p273 (a1 : Nat) (a2 : Nat) (x3 : Int32) (x4 : Int32) (x5 : Int32) (x6 : Int32) (x7 : Int32) (u : tz_U) : Option (Int32 × tz_U) :=
  tl_b2 (fL_call a1 17 x3 0 0 u) (fun x8 u10 => (if x7 = 0 then some (0, u10) else tl_b2 (fL_call a2 17 x3 0 0 u10) (fun x12 u14 => (if x12 = x8 then (if x8 < x6 then fL_best_p328 a1 a2 u14 else (if x8 = x6 then (if x4 < x5 then some (0, u14) else fL_best_p328 a1 a2 u14) else some (0, u14))) else some (0, u14)))))

def fL_best_p238 (a1 : Nat) (a2 : Nat) (x3 : Int32) (x4 : Int32) (x5 : Int32) (x6 : Int32) (x7 : Int32) (x8 : Int32) (u : tz_U) : Option (Int32 × tz_U) :=
  tl_b2 (fL_call a1 13 x4 x3 x7 u) (fun x9 u11 => (if x9 ≤ 0 then fL_best_p273 a1 a2 x5 x6 x7 x8 0 u11 else tl_b2 (fL_call a2 13 x4 x3 x7 u11) (fun x13 u15 => (if x13 ≤ 0 then fL_best_p273 a1 a2 x5 x6 x7 x8 0 u15 else fL_best_p273 a1 a2 x5 x6 x7 x8 1 u15))))

def fL_best_p144 (a1 : Nat) (a2 : Nat) (x3 : Int32) (x4 : Int32) (x5 : Int32) (x6 : Int32) (x7 : Int32) (x8 : Int32) (u : tz_U) : Option (Int32 × tz_U) :=
  tl_b2 (fL_call a1 17 x5 0 0 u) (fun x9 u11 => (if x8 = 0 then fL_best_p273 a1 a2 x5 x6 x7 x9 0 u11 else tl_b2 (fL_call a2 17 x5 0 0 u11) (fun x13 u15 => (if x13 = x9 then tl_b2 (fL_call a1 18 0 0 0 u15) (fun x17 u19 => tl_b2 (fL_thrown x17 u19) (fun x20 u22 => (if x20 = 0 then tl_b2 (fL_call a2 18 0 0 0 u22) (fun x24 u26 => tl_b2 (fL_thrown x24 u26) (fun x27 u29 => (if x27 = 0 then tl_b2 (fL_call a1 18 0 0 0 u29) (fun x31 u33 => tl_b2 (fL_thrown x31 u33) (fun x34 u36 => (if x34 = 0 then tl_b2 (fL_call a2 18 0 0 0 u36) (fun x38 u40 => tl_b2 (fL_thrown x38 u40) (fun x41 u43 => (if x41 = 0 then fL_best_p238 a1 a2 x3 x4 x5 x6 x7 x9 u43 else fL_best_p273 a1 a2 x5 x6 x7 x9 0 u43))) else fL_best_p273 a1 a2 x5 x6 x7 x9 0 u36))) else fL_best_p273 a1 a2 x5 x6 x7 x9 0 u29))) else fL_best_p273 a1 a2 x5 x6 x7 x9 0 u22))) else fL_best_p273 a1 a2 x5 x6 x7 x9 0 u15))))

def fL_best (a1 : Nat) (a2 : Nat) (x3 : Int32) (u : tz_U) : Option (Int32 × tz_U) :=
  tl_b2 (fL_call a1 2 2 0 0 u) (fun x4 u6 => (if x4 = 0 then some (1, u6) else tl_b2 (fL_call a1 2 10 0 0 u6) (fun x8 u10 => (if x8 = 6 then some (1, u10) else tl_b2 (fL_call a1 2 0 0 0 u10) (fun x12 u14 => tl_g (¬ x12 = 0) (tl_let ((x3 - x3 / x12 * x12)) (fun x16 => tl_g (¬ x4 = 0) (tl_let (((x3 / 3) - (x3 / 3) / x4 * x4)) (fun x18 => tl_let ((1 + ((x3 / 24) - (x3 / 24) / 30 * 30))) (fun x19 => tl_b2 (fL_call a1 21 x18 x16 x19 u14) (fun x20 u22 => tl_b2 (fL_call a1 3 x16 0 0 u22) (fun x23 u25 => tl_g (¬ x23 = 0) (tl_let (((x3 / 720) - (x3 / 720) / x23 * x23)) (fun x27 => (if x20 < 0 then fL_best_p144 a1 a2 x16 x18 x19 x20 x27 0 u25 else tl_b2 (fL_call a1 3 x16 0 0 u25) (fun x29 u31 => (if x29 ≤ x20 then fL_best_p144 a1 a2 x16 x18 x19 x20 x27 0 u31 else tl_b2 (fL_call a1 13 x18 x16 x20 u31) (fun x33 u35 => (if x33 ≤ 0 then fL_best_p144 a1 a2 x16 x18 x19 x20 x27 0 u35 else tl_b2 (fL_call a2 13 x18 x16 x20 u35) (fun x37 u39 => (if x37 ≤ 0 then fL_best_p144 a1 a2 x16 x18 x19 x20 x27 0 u39 else fL_best_p144 a1 a2 x16 x18 x19 x20 x27 1 u39)))))))))))))))))))))

theorem lL_best_p328 {E : tl_E} {a1 : Nat} {a2 : Nat} {u : tz_U} {r : Int32} {v : tz_U} (h1 : tz_on E a1) (h2 : tz_on E a2) (h : fL_best_p328 a1 a2 u = some (r, v)) : tz_R E mL_best tl_X0 (tl_Z E mL_best (tz_Q E r v)) 18 (tz_HU E u) 328 [some (.ref a1), some (.ref a2), none, none, none, none, none, none, none, none, none, none] [] := by
  unfold fL_best_p328 at h
  obtain ⟨x3, u5, e4, h⟩ := tl_b2i h
  obtain ⟨x6, u8, e7, h⟩ := tl_b2i h
  refine tl_aload_n dL_best_328 rfl (tl_bipush (v := 18) dL_best_329 bp_18 (tl_iconst (v := 0) dL_best_331 ic_0 (tl_iconst (v := 0) dL_best_332 ic_0 (tl_iconst (v := 0) dL_best_333 ic_0 (tz_cS5 (lL_call h1 e4) dL_best_334 cs_L_best_189 (c := 1) ⟨rfl, rfl⟩ (k2 := 19) (Nat.le_of_ble_eq_true rfl) (CM := 22) ⟨Nat.le_of_ble_eq_true rfl, Nat.le_of_ble_eq_true rfl⟩ (Nat.le_of_ble_eq_true rfl) (Nat.le_of_ble_eq_true rfl) (tz_cS1 (lL_thrown  e7) dL_best_337 cs_L_best_243 (c := 0) ⟨rfl, rfl⟩ (k2 := 19) (Nat.le_of_ble_eq_true rfl) (CM := 22) ⟨Nat.le_of_ble_eq_true rfl, Nat.le_of_ble_eq_true rfl⟩ (Nat.le_of_ble_eq_true rfl) (Nat.le_of_ble_eq_true rfl) (tl_if_ne (tgt := 392) dL_best_340 (by decide) (fun c9 => ?_) (fun c9 => ?_))))))))
  · replace h := tl_in h c9
    exact tl_iconst (v := 0) dL_best_392 ic_0 (tz_ret dL_best_393 rfl rfl (CM := 22) ⟨Nat.le_of_ble_eq_true rfl, Nat.le_of_ble_eq_true rfl⟩ (Nat.le_of_ble_eq_true rfl) h)
  · replace h := tl_ip h c9
    obtain ⟨x10, u12, e11, h⟩ := tl_b2i h
    obtain ⟨x13, u15, e14, h⟩ := tl_b2i h
    refine tl_aload_n dL_best_343 rfl (tl_bipush (v := 18) dL_best_344 bp_18 (tl_iconst (v := 0) dL_best_346 ic_0 (tl_iconst (v := 0) dL_best_347 ic_0 (tl_iconst (v := 0) dL_best_348 ic_0 (tz_cS5 (lL_call h2 e11) dL_best_349 cs_L_best_189 (c := 1) ⟨rfl, rfl⟩ (k2 := 20) (Nat.le_of_ble_eq_true rfl) (CM := 22) ⟨Nat.le_of_ble_eq_true rfl, Nat.le_of_ble_eq_true rfl⟩ (Nat.le_of_ble_eq_true rfl) (Nat.le_of_ble_eq_true rfl) (tz_cS1 (lL_thrown  e14) dL_best_352 cs_L_best_243 (c := 0) ⟨rfl, rfl⟩ (k2 := 20) (Nat.le_of_ble_eq_true rfl) (CM := 22) ⟨Nat.le_of_ble_eq_true rfl, Nat.le_of_ble_eq_true rfl⟩ (Nat.le_of_ble_eq_true rfl) (Nat.le_of_ble_eq_true rfl) (tl_if_ne (tgt := 392) dL_best_355 (by decide) (fun c16 => ?_) (fun c16 => ?_))))))))
    · replace h := tl_in h c16
      exact tl_iconst (v := 0) dL_best_392 ic_0 (tz_ret dL_best_393 rfl rfl (CM := 22) ⟨Nat.le_of_ble_eq_true rfl, Nat.le_of_ble_eq_true rfl⟩ (Nat.le_of_ble_eq_true rfl) h)
    · replace h := tl_ip h c16
      obtain ⟨x17, u19, e18, h⟩ := tl_b2i h
      obtain ⟨x20, u22, e21, h⟩ := tl_b2i h
      refine tl_aload_n dL_best_358 rfl (tl_bipush (v := 18) dL_best_359 bp_18 (tl_iconst (v := 0) dL_best_361 ic_0 (tl_iconst (v := 0) dL_best_362 ic_0 (tl_iconst (v := 0) dL_best_363 ic_0 (tz_cS5 (lL_call h1 e18) dL_best_364 cs_L_best_189 (c := 1) ⟨rfl, rfl⟩ (k2 := 21) (Nat.le_of_ble_eq_true rfl) (CM := 22) ⟨Nat.le_of_ble_eq_true rfl, Nat.le_of_ble_eq_true rfl⟩ (Nat.le_of_ble_eq_true rfl) (Nat.le_of_ble_eq_true rfl) (tz_cS1 (lL_thrown  e21) dL_best_367 cs_L_best_243 (c := 0) ⟨rfl, rfl⟩ (k2 := 21) (Nat.le_of_ble_eq_true rfl) (CM := 22) ⟨Nat.le_of_ble_eq_true rfl, Nat.le_of_ble_eq_true rfl⟩ (Nat.le_of_ble_eq_true rfl) (Nat.le_of_ble_eq_true rfl) (tl_if_ne (tgt := 392) dL_best_370 (by decide) (fun c23 => ?_) (fun c23 => ?_))))))))
      · replace h := tl_in h c23
        exact tl_iconst (v := 0) dL_best_392 ic_0 (tz_ret dL_best_393 rfl rfl (CM := 22) ⟨Nat.le_of_ble_eq_true rfl, Nat.le_of_ble_eq_true rfl⟩ (Nat.le_of_ble_eq_true rfl) h)
      · replace h := tl_ip h c23
        obtain ⟨x24, u26, e25, h⟩ := tl_b2i h
        obtain ⟨x27, u29, e28, h⟩ := tl_b2i h
        refine tl_aload_n dL_best_373 rfl (tl_bipush (v := 18) dL_best_374 bp_18 (tl_iconst (v := 0) dL_best_376 ic_0 (tl_iconst (v := 0) dL_best_377 ic_0 (tl_iconst (v := 0) dL_best_378 ic_0 (tz_cS5 (lL_call h2 e25) dL_best_379 cs_L_best_189 (c := 1) ⟨rfl, rfl⟩ (k2 := 22) (Nat.le_of_ble_eq_true rfl) (CM := 22) ⟨Nat.le_of_ble_eq_true rfl, Nat.le_of_ble_eq_true rfl⟩ (Nat.le_of_ble_eq_true rfl) (Nat.le_of_ble_eq_true rfl) (tz_cS1 (lL_thrown  e28) dL_best_382 cs_L_best_243 (c := 0) ⟨rfl, rfl⟩ (k2 := 22) (Nat.le_of_ble_eq_true rfl) (CM := 22) ⟨Nat.le_of_ble_eq_true rfl, Nat.le_of_ble_eq_true rfl⟩ (Nat.le_of_ble_eq_true rfl) (Nat.le_of_ble_eq_true rfl) (tl_if_ne (tgt := 392) dL_best_385 (by decide) (fun c30 => ?_) (fun c30 => ?_))))))))
        · replace h := tl_in h c30
          exact tl_iconst (v := 0) dL_best_392 ic_0 (tz_ret dL_best_393 rfl rfl (CM := 22) ⟨Nat.le_of_ble_eq_true rfl, Nat.le_of_ble_eq_true rfl⟩ (Nat.le_of_ble_eq_true rfl) h)
        · replace h := tl_ip h c30
          exact tl_iconst (v := 1) dL_best_388 ic_1 (tl_goto (tgt := 393) dL_best_389 (by decide) (tz_ret dL_best_393 rfl rfl (CM := 22) ⟨Nat.le_of_ble_eq_true rfl, Nat.le_of_ble_eq_true rfl⟩ (Nat.le_of_ble_eq_true rfl) h))

theorem lL_best_p273 {E : tl_E} {a1 : Nat} {a2 : Nat} {x3 : Int32} {x4 : Int32} {x5 : Int32} {x6 : Int32} {x7 : Int32} {u : tz_U} {r : Int32} {v : tz_U} (h1 : tz_on E a1) (h2 : tz_on E a2) (h : fL_best_p273 a1 a2 x3 x4 x5 x6 x7 u = some (r, v)) : tz_R E mL_best tl_X0 (tl_Z E mL_best (tz_Q E r v)) 16 (tz_HU E u) 273 [some (.ref a1), some (.ref a2), none, none, none, none, some (.int x3), some (.int x4), some (.int x5), none, some (.int x6), none] [.int x7] := by
  unfold fL_best_p273 at h
  obtain ⟨x8, u10, e9, h⟩ := tl_b2i h
  refine tl_istore dL_best_273 (Nat.le_of_ble_eq_true rfl) (tl_aload_n dL_best_275 rfl (tl_bipush (v := 17) dL_best_276 bp_17 (tl_iload dL_best_278 rfl (tl_iconst (v := 0) dL_best_280 ic_0 (tl_iconst (v := 0) dL_best_281 ic_0 (tz_cS5 (lL_call h1 e9) dL_best_282 cs_L_best_189 (c := 1) ⟨rfl, rfl⟩ (k2 := 17) (Nat.le_of_ble_eq_true rfl) (CM := 22) ⟨Nat.le_of_ble_eq_true rfl, Nat.le_of_ble_eq_true rfl⟩ (Nat.le_of_ble_eq_true rfl) (Nat.le_of_ble_eq_true rfl) (tl_istore dL_best_285 (Nat.le_of_ble_eq_true rfl) (tl_iload dL_best_287 rfl (tl_if_eq (tgt := 392) dL_best_289 (by decide) (fun c11 => ?_) (fun c11 => ?_))))))))))
  · replace h := tl_ip h c11
    exact tl_iconst (v := 0) dL_best_392 ic_0 (tz_ret dL_best_393 rfl rfl (CM := 22) ⟨Nat.le_of_ble_eq_true rfl, Nat.le_of_ble_eq_true rfl⟩ (Nat.le_of_ble_eq_true rfl) h)
  · replace h := tl_in h c11
    obtain ⟨x12, u14, e13, h⟩ := tl_b2i h
    refine tl_aload_n dL_best_292 rfl (tl_bipush (v := 17) dL_best_293 bp_17 (tl_iload dL_best_295 rfl (tl_iconst (v := 0) dL_best_297 ic_0 (tl_iconst (v := 0) dL_best_298 ic_0 (tz_cS5 (lL_call h2 e13) dL_best_299 cs_L_best_189 (c := 1) ⟨rfl, rfl⟩ (k2 := 18) (Nat.le_of_ble_eq_true rfl) (CM := 22) ⟨Nat.le_of_ble_eq_true rfl, Nat.le_of_ble_eq_true rfl⟩ (Nat.le_of_ble_eq_true rfl) (Nat.le_of_ble_eq_true rfl) (tl_iload dL_best_302 rfl (tl_icmp_ne (tgt := 392) dL_best_304 (by decide) (fun c15 => ?_) (fun c15 => ?_))))))))
    · replace h := tl_in h c15
      exact tl_iconst (v := 0) dL_best_392 ic_0 (tz_ret dL_best_393 rfl rfl (CM := 22) ⟨Nat.le_of_ble_eq_true rfl, Nat.le_of_ble_eq_true rfl⟩ (Nat.le_of_ble_eq_true rfl) h)
    · replace h := tl_ip h c15
      refine tl_iload dL_best_307 rfl (tl_iload dL_best_309 rfl (tl_icmp_lt (tgt := 328) dL_best_311 (by decide) (fun c16 => ?_) (fun c16 => ?_)))
      · replace h := tl_ip h c16
        exact tz_fg (ls2 := [some (.ref a1), some (.ref a2), none, none, none, none, none, none, none, none, none, none]) (And.intro rfl (And.intro rfl trivial)) (tz_wd (k2 := 18) (Nat.le_of_ble_eq_true rfl) (lL_best_p328 h1 h2 h))
      · replace h := tl_in h c16
        refine tl_iload dL_best_314 rfl (tl_iload dL_best_316 rfl (tl_icmp_ne (tgt := 392) dL_best_318 (by decide) (fun c17 => ?_) (fun c17 => ?_)))
        · replace h := tl_in h c17
          exact tl_iconst (v := 0) dL_best_392 ic_0 (tz_ret dL_best_393 rfl rfl (CM := 22) ⟨Nat.le_of_ble_eq_true rfl, Nat.le_of_ble_eq_true rfl⟩ (Nat.le_of_ble_eq_true rfl) h)
        · replace h := tl_ip h c17
          refine tl_iload dL_best_321 rfl (tl_iload dL_best_323 rfl (tl_icmp_gt (tgt := 392) dL_best_325 (by decide) (fun c18 => ?_) (fun c18 => ?_)))
          · replace h := tl_ip h c18
            exact tl_iconst (v := 0) dL_best_392 ic_0 (tz_ret dL_best_393 rfl rfl (CM := 22) ⟨Nat.le_of_ble_eq_true rfl, Nat.le_of_ble_eq_true rfl⟩ (Nat.le_of_ble_eq_true rfl) h)
          · replace h := tl_in h c18
            exact tz_fg (ls2 := [some (.ref a1), some (.ref a2), none, none, none, none, none, none, none, none, none, none]) (And.intro rfl (And.intro rfl trivial)) (tz_wd (k2 := 18) (Nat.le_of_ble_eq_true rfl) (lL_best_p328 h1 h2 h))

theorem lL_best_p238 {E : tl_E} {a1 : Nat} {a2 : Nat} {x3 : Int32} {x4 : Int32} {x5 : Int32} {x6 : Int32} {x7 : Int32} {x8 : Int32} {u : tz_U} {r : Int32} {v : tz_U} (h1 : tz_on E a1) (h2 : tz_on E a2) (h : fL_best_p238 a1 a2 x3 x4 x5 x6 x7 x8 u = some (r, v)) : tz_R E mL_best tl_X0 (tl_Z E mL_best (tz_Q E r v)) 14 (tz_HU E u) 238 [some (.ref a1), some (.ref a2), none, none, some (.int x3), some (.int x4), some (.int x5), some (.int x6), some (.int x7), none, some (.int x8), none] [] := by
  unfold fL_best_p238 at h
  obtain ⟨x9, u11, e10, h⟩ := tl_b2i h
  refine tl_aload_n dL_best_238 rfl (tl_bipush (v := 13) dL_best_239 bp_13 (tl_iload dL_best_241 rfl (tl_iload dL_best_243 rfl (tl_iload dL_best_245 rfl (tz_cS5 (lL_call h1 e10) dL_best_247 cs_L_best_189 (c := 1) ⟨rfl, rfl⟩ (k2 := 15) (Nat.le_of_ble_eq_true rfl) (CM := 22) ⟨Nat.le_of_ble_eq_true rfl, Nat.le_of_ble_eq_true rfl⟩ (Nat.le_of_ble_eq_true rfl) (Nat.le_of_ble_eq_true rfl) (tl_if_le (tgt := 272) dL_best_250 (by decide) (fun c12 => ?_) (fun c12 => ?_)))))))
  · replace h := tl_ip h c12
    refine tl_iconst (v := 0) dL_best_272 ic_0 (?_)
    exact tz_fg (ls2 := [some (.ref a1), some (.ref a2), none, none, none, none, some (.int x5), some (.int x6), some (.int x7), none, some (.int x8), none]) (And.intro rfl (And.intro rfl (And.intro rfl (And.intro rfl (And.intro rfl (And.intro rfl trivial)))))) (tz_wd (k2 := 16) (Nat.le_of_ble_eq_true rfl) (lL_best_p273 h1 h2 h))
  · replace h := tl_in h c12
    obtain ⟨x13, u15, e14, h⟩ := tl_b2i h
    refine tl_aload_n dL_best_253 rfl (tl_bipush (v := 13) dL_best_254 bp_13 (tl_iload dL_best_256 rfl (tl_iload dL_best_258 rfl (tl_iload dL_best_260 rfl (tz_cS5 (lL_call h2 e14) dL_best_262 cs_L_best_189 (c := 1) ⟨rfl, rfl⟩ (k2 := 16) (Nat.le_of_ble_eq_true rfl) (CM := 22) ⟨Nat.le_of_ble_eq_true rfl, Nat.le_of_ble_eq_true rfl⟩ (Nat.le_of_ble_eq_true rfl) (Nat.le_of_ble_eq_true rfl) (tl_if_le (tgt := 272) dL_best_265 (by decide) (fun c16 => ?_) (fun c16 => ?_)))))))
    · replace h := tl_ip h c16
      refine tl_iconst (v := 0) dL_best_272 ic_0 (?_)
      exact tz_fg (ls2 := [some (.ref a1), some (.ref a2), none, none, none, none, some (.int x5), some (.int x6), some (.int x7), none, some (.int x8), none]) (And.intro rfl (And.intro rfl (And.intro rfl (And.intro rfl (And.intro rfl (And.intro rfl trivial)))))) (tz_wd (k2 := 16) (Nat.le_of_ble_eq_true rfl) (lL_best_p273 h1 h2 h))
    · replace h := tl_in h c16
      refine tl_iconst (v := 1) dL_best_268 ic_1 (tl_goto (tgt := 273) dL_best_269 (by decide) (?_))
      exact tz_fg (ls2 := [some (.ref a1), some (.ref a2), none, none, none, none, some (.int x5), some (.int x6), some (.int x7), none, some (.int x8), none]) (And.intro rfl (And.intro rfl (And.intro rfl (And.intro rfl (And.intro rfl (And.intro rfl trivial)))))) (tz_wd (k2 := 16) (Nat.le_of_ble_eq_true rfl) (lL_best_p273 h1 h2 h))

theorem lL_best_p144 {E : tl_E} {a1 : Nat} {a2 : Nat} {x3 : Int32} {x4 : Int32} {x5 : Int32} {x6 : Int32} {x7 : Int32} {x8 : Int32} {u : tz_U} {r : Int32} {v : tz_U} (h1 : tz_on E a1) (h2 : tz_on E a2) (h : fL_best_p144 a1 a2 x3 x4 x5 x6 x7 x8 u = some (r, v)) : tz_R E mL_best tl_X0 (tl_Z E mL_best (tz_Q E r v)) 8 (tz_HU E u) 144 [some (.ref a1), some (.ref a2), none, none, some (.int x3), some (.int x4), some (.int x5), some (.int x6), some (.int x7), none, none, none] [.int x8] := by
  unfold fL_best_p144 at h
  obtain ⟨x9, u11, e10, h⟩ := tl_b2i h
  refine tl_istore dL_best_144 (Nat.le_of_ble_eq_true rfl) (tl_aload_n dL_best_146 rfl (tl_bipush (v := 17) dL_best_147 bp_17 (tl_iload dL_best_149 rfl (tl_iconst (v := 0) dL_best_151 ic_0 (tl_iconst (v := 0) dL_best_152 ic_0 (tz_cS5 (lL_call h1 e10) dL_best_153 cs_L_best_189 (c := 1) ⟨rfl, rfl⟩ (k2 := 9) (Nat.le_of_ble_eq_true rfl) (CM := 22) ⟨Nat.le_of_ble_eq_true rfl, Nat.le_of_ble_eq_true rfl⟩ (Nat.le_of_ble_eq_true rfl) (Nat.le_of_ble_eq_true rfl) (tl_istore dL_best_156 (Nat.le_of_ble_eq_true rfl) (tl_iload dL_best_158 rfl (tl_if_eq (tgt := 272) dL_best_160 (by decide) (fun c12 => ?_) (fun c12 => ?_))))))))))
  · replace h := tl_ip h c12
    refine tl_iconst (v := 0) dL_best_272 ic_0 (?_)
    exact tz_fg (ls2 := [some (.ref a1), some (.ref a2), none, none, none, none, some (.int x5), some (.int x6), some (.int x7), none, some (.int x9), none]) (And.intro rfl (And.intro rfl (And.intro rfl (And.intro rfl (And.intro rfl (And.intro rfl trivial)))))) (tz_wd (k2 := 16) (Nat.le_of_ble_eq_true rfl) (lL_best_p273 h1 h2 h))
  · replace h := tl_in h c12
    obtain ⟨x13, u15, e14, h⟩ := tl_b2i h
    refine tl_aload_n dL_best_163 rfl (tl_bipush (v := 17) dL_best_164 bp_17 (tl_iload dL_best_166 rfl (tl_iconst (v := 0) dL_best_168 ic_0 (tl_iconst (v := 0) dL_best_169 ic_0 (tz_cS5 (lL_call h2 e14) dL_best_170 cs_L_best_189 (c := 1) ⟨rfl, rfl⟩ (k2 := 10) (Nat.le_of_ble_eq_true rfl) (CM := 22) ⟨Nat.le_of_ble_eq_true rfl, Nat.le_of_ble_eq_true rfl⟩ (Nat.le_of_ble_eq_true rfl) (Nat.le_of_ble_eq_true rfl) (tl_iload dL_best_173 rfl (tl_icmp_ne (tgt := 272) dL_best_175 (by decide) (fun c16 => ?_) (fun c16 => ?_))))))))
    · replace h := tl_in h c16
      refine tl_iconst (v := 0) dL_best_272 ic_0 (?_)
      exact tz_fg (ls2 := [some (.ref a1), some (.ref a2), none, none, none, none, some (.int x5), some (.int x6), some (.int x7), none, some (.int x9), none]) (And.intro rfl (And.intro rfl (And.intro rfl (And.intro rfl (And.intro rfl (And.intro rfl trivial)))))) (tz_wd (k2 := 16) (Nat.le_of_ble_eq_true rfl) (lL_best_p273 h1 h2 h))
    · replace h := tl_ip h c16
      obtain ⟨x17, u19, e18, h⟩ := tl_b2i h
      obtain ⟨x20, u22, e21, h⟩ := tl_b2i h
      refine tl_aload_n dL_best_178 rfl (tl_bipush (v := 18) dL_best_179 bp_18 (tl_iconst (v := 0) dL_best_181 ic_0 (tl_iconst (v := 0) dL_best_182 ic_0 (tl_iconst (v := 0) dL_best_183 ic_0 (tz_cS5 (lL_call h1 e18) dL_best_184 cs_L_best_189 (c := 1) ⟨rfl, rfl⟩ (k2 := 11) (Nat.le_of_ble_eq_true rfl) (CM := 22) ⟨Nat.le_of_ble_eq_true rfl, Nat.le_of_ble_eq_true rfl⟩ (Nat.le_of_ble_eq_true rfl) (Nat.le_of_ble_eq_true rfl) (tz_cS1 (lL_thrown  e21) dL_best_187 cs_L_best_243 (c := 0) ⟨rfl, rfl⟩ (k2 := 11) (Nat.le_of_ble_eq_true rfl) (CM := 22) ⟨Nat.le_of_ble_eq_true rfl, Nat.le_of_ble_eq_true rfl⟩ (Nat.le_of_ble_eq_true rfl) (Nat.le_of_ble_eq_true rfl) (tl_if_ne (tgt := 272) dL_best_190 (by decide) (fun c23 => ?_) (fun c23 => ?_))))))))
      · replace h := tl_in h c23
        refine tl_iconst (v := 0) dL_best_272 ic_0 (?_)
        exact tz_fg (ls2 := [some (.ref a1), some (.ref a2), none, none, none, none, some (.int x5), some (.int x6), some (.int x7), none, some (.int x9), none]) (And.intro rfl (And.intro rfl (And.intro rfl (And.intro rfl (And.intro rfl (And.intro rfl trivial)))))) (tz_wd (k2 := 16) (Nat.le_of_ble_eq_true rfl) (lL_best_p273 h1 h2 h))
      · replace h := tl_ip h c23
        obtain ⟨x24, u26, e25, h⟩ := tl_b2i h
        obtain ⟨x27, u29, e28, h⟩ := tl_b2i h
        refine tl_aload_n dL_best_193 rfl (tl_bipush (v := 18) dL_best_194 bp_18 (tl_iconst (v := 0) dL_best_196 ic_0 (tl_iconst (v := 0) dL_best_197 ic_0 (tl_iconst (v := 0) dL_best_198 ic_0 (tz_cS5 (lL_call h2 e25) dL_best_199 cs_L_best_189 (c := 1) ⟨rfl, rfl⟩ (k2 := 12) (Nat.le_of_ble_eq_true rfl) (CM := 22) ⟨Nat.le_of_ble_eq_true rfl, Nat.le_of_ble_eq_true rfl⟩ (Nat.le_of_ble_eq_true rfl) (Nat.le_of_ble_eq_true rfl) (tz_cS1 (lL_thrown  e28) dL_best_202 cs_L_best_243 (c := 0) ⟨rfl, rfl⟩ (k2 := 12) (Nat.le_of_ble_eq_true rfl) (CM := 22) ⟨Nat.le_of_ble_eq_true rfl, Nat.le_of_ble_eq_true rfl⟩ (Nat.le_of_ble_eq_true rfl) (Nat.le_of_ble_eq_true rfl) (tl_if_ne (tgt := 272) dL_best_205 (by decide) (fun c30 => ?_) (fun c30 => ?_))))))))
        · replace h := tl_in h c30
          refine tl_iconst (v := 0) dL_best_272 ic_0 (?_)
          exact tz_fg (ls2 := [some (.ref a1), some (.ref a2), none, none, none, none, some (.int x5), some (.int x6), some (.int x7), none, some (.int x9), none]) (And.intro rfl (And.intro rfl (And.intro rfl (And.intro rfl (And.intro rfl (And.intro rfl trivial)))))) (tz_wd (k2 := 16) (Nat.le_of_ble_eq_true rfl) (lL_best_p273 h1 h2 h))
        · replace h := tl_ip h c30
          obtain ⟨x31, u33, e32, h⟩ := tl_b2i h
          obtain ⟨x34, u36, e35, h⟩ := tl_b2i h
          refine tl_aload_n dL_best_208 rfl (tl_bipush (v := 18) dL_best_209 bp_18 (tl_iconst (v := 0) dL_best_211 ic_0 (tl_iconst (v := 0) dL_best_212 ic_0 (tl_iconst (v := 0) dL_best_213 ic_0 (tz_cS5 (lL_call h1 e32) dL_best_214 cs_L_best_189 (c := 1) ⟨rfl, rfl⟩ (k2 := 13) (Nat.le_of_ble_eq_true rfl) (CM := 22) ⟨Nat.le_of_ble_eq_true rfl, Nat.le_of_ble_eq_true rfl⟩ (Nat.le_of_ble_eq_true rfl) (Nat.le_of_ble_eq_true rfl) (tz_cS1 (lL_thrown  e35) dL_best_217 cs_L_best_243 (c := 0) ⟨rfl, rfl⟩ (k2 := 13) (Nat.le_of_ble_eq_true rfl) (CM := 22) ⟨Nat.le_of_ble_eq_true rfl, Nat.le_of_ble_eq_true rfl⟩ (Nat.le_of_ble_eq_true rfl) (Nat.le_of_ble_eq_true rfl) (tl_if_ne (tgt := 272) dL_best_220 (by decide) (fun c37 => ?_) (fun c37 => ?_))))))))
          · replace h := tl_in h c37
            refine tl_iconst (v := 0) dL_best_272 ic_0 (?_)
            exact tz_fg (ls2 := [some (.ref a1), some (.ref a2), none, none, none, none, some (.int x5), some (.int x6), some (.int x7), none, some (.int x9), none]) (And.intro rfl (And.intro rfl (And.intro rfl (And.intro rfl (And.intro rfl (And.intro rfl trivial)))))) (tz_wd (k2 := 16) (Nat.le_of_ble_eq_true rfl) (lL_best_p273 h1 h2 h))
          · replace h := tl_ip h c37
            obtain ⟨x38, u40, e39, h⟩ := tl_b2i h
            obtain ⟨x41, u43, e42, h⟩ := tl_b2i h
            refine tl_aload_n dL_best_223 rfl (tl_bipush (v := 18) dL_best_224 bp_18 (tl_iconst (v := 0) dL_best_226 ic_0 (tl_iconst (v := 0) dL_best_227 ic_0 (tl_iconst (v := 0) dL_best_228 ic_0 (tz_cS5 (lL_call h2 e39) dL_best_229 cs_L_best_189 (c := 1) ⟨rfl, rfl⟩ (k2 := 14) (Nat.le_of_ble_eq_true rfl) (CM := 22) ⟨Nat.le_of_ble_eq_true rfl, Nat.le_of_ble_eq_true rfl⟩ (Nat.le_of_ble_eq_true rfl) (Nat.le_of_ble_eq_true rfl) (tz_cS1 (lL_thrown  e42) dL_best_232 cs_L_best_243 (c := 0) ⟨rfl, rfl⟩ (k2 := 14) (Nat.le_of_ble_eq_true rfl) (CM := 22) ⟨Nat.le_of_ble_eq_true rfl, Nat.le_of_ble_eq_true rfl⟩ (Nat.le_of_ble_eq_true rfl) (Nat.le_of_ble_eq_true rfl) (tl_if_ne (tgt := 272) dL_best_235 (by decide) (fun c44 => ?_) (fun c44 => ?_))))))))
            · replace h := tl_in h c44
              refine tl_iconst (v := 0) dL_best_272 ic_0 (?_)
              exact tz_fg (ls2 := [some (.ref a1), some (.ref a2), none, none, none, none, some (.int x5), some (.int x6), some (.int x7), none, some (.int x9), none]) (And.intro rfl (And.intro rfl (And.intro rfl (And.intro rfl (And.intro rfl (And.intro rfl trivial)))))) (tz_wd (k2 := 16) (Nat.le_of_ble_eq_true rfl) (lL_best_p273 h1 h2 h))
            · replace h := tl_ip h c44
              exact tz_fg (ls2 := [some (.ref a1), some (.ref a2), none, none, some (.int x3), some (.int x4), some (.int x5), some (.int x6), some (.int x7), none, some (.int x9), none]) (And.intro rfl (And.intro rfl (And.intro rfl (And.intro rfl (And.intro rfl (And.intro rfl (And.intro rfl (And.intro rfl trivial)))))))) (tz_wd (k2 := 14) (Nat.le_of_ble_eq_true rfl) (lL_best_p238 h1 h2 h))

theorem lL_best {E : tl_E} {a1 : Nat} {a2 : Nat} {x3 : Int32} {u : tz_U} {r : Int32} {v : tz_U} (h1 : tz_on E a1) (h2 : tz_on E a2) (h : fL_best a1 a2 x3 u = some (r, v)) : tz_ML E mL_best [.ref a1, .ref a2, .int x3] u r v := by
  unfold fL_best at h
  refine tl_start [some (.ref a1), some (.ref a2), some (.int x3), none, none, none, none, none, none, none, none, none] rfl rfl rfl (Nat.le_of_ble_eq_true rfl) (tz_st (tz_fg (ls2 := [some (.ref a1), some (.ref a2), some (.int x3), none, none, none, none, none, none, none, none, none]) (And.intro rfl (And.intro rfl (And.intro rfl trivial))) ?_))
  obtain ⟨x4, u6, e5, h⟩ := tl_b2i h
  refine tl_aload_n dL_best_0 rfl (tl_iconst (v := 2) dL_best_1 ic_2 (tl_iconst (v := 2) dL_best_2 ic_2 (tl_iconst (v := 0) dL_best_3 ic_0 (tl_iconst (v := 0) dL_best_4 ic_0 (tz_cS5 (lL_call h1 e5) dL_best_5 cs_L_best_189 (c := 1) ⟨rfl, rfl⟩ (k2 := 1) (Nat.le_of_ble_eq_true rfl) (CM := 22) ⟨Nat.le_of_ble_eq_true rfl, Nat.le_of_ble_eq_true rfl⟩ (Nat.le_of_ble_eq_true rfl) (Nat.le_of_ble_eq_true rfl) (tl_istore_n dL_best_8 (Nat.le_of_ble_eq_true rfl) (tl_iload_n dL_best_9 rfl (tl_if_eq (tgt := 27) dL_best_10 (by decide) (fun c7 => ?_) (fun c7 => ?_)))))))))
  · replace h := tl_ip h c7
    exact tl_iconst (v := 1) dL_best_27 ic_1 (tz_ret dL_best_28 rfl rfl (CM := 22) ⟨Nat.le_of_ble_eq_true rfl, Nat.le_of_ble_eq_true rfl⟩ (Nat.le_of_ble_eq_true rfl) h)
  · replace h := tl_in h c7
    obtain ⟨x8, u10, e9, h⟩ := tl_b2i h
    refine tl_aload_n dL_best_13 rfl (tl_iconst (v := 2) dL_best_14 ic_2 (tl_bipush (v := 10) dL_best_15 bp_10 (tl_iconst (v := 0) dL_best_17 ic_0 (tl_iconst (v := 0) dL_best_18 ic_0 (tz_cS5 (lL_call h1 e9) dL_best_19 cs_L_best_189 (c := 1) ⟨rfl, rfl⟩ (k2 := 2) (Nat.le_of_ble_eq_true rfl) (CM := 22) ⟨Nat.le_of_ble_eq_true rfl, Nat.le_of_ble_eq_true rfl⟩ (Nat.le_of_ble_eq_true rfl) (Nat.le_of_ble_eq_true rfl) (tl_bipush (v := 6) dL_best_22 bp_6 (tl_icmp_ne (tgt := 29) dL_best_24 (by decide) (fun c11 => ?_) (fun c11 => ?_))))))))
    · replace h := tl_in h c11
      obtain ⟨x12, u14, e13, h⟩ := tl_b2i h
      obtain ⟨g15, h⟩ := tl_gi h
      refine tl_iload_n dL_best_29 rfl (tl_aload_n dL_best_30 rfl (tl_iconst (v := 2) dL_best_31 ic_2 (tl_iconst (v := 0) dL_best_32 ic_0 (tl_iconst (v := 0) dL_best_33 ic_0 (tl_iconst (v := 0) dL_best_34 ic_0 (tz_cS5 (lL_call h1 e13) dL_best_35 cs_L_best_189 (c := 1) ⟨rfl, rfl⟩ (k2 := 3) (Nat.le_of_ble_eq_true rfl) (CM := 22) ⟨Nat.le_of_ble_eq_true rfl, Nat.le_of_ble_eq_true rfl⟩ (Nat.le_of_ble_eq_true rfl) (Nat.le_of_ble_eq_true rfl) (tl_irem dL_best_38 g15 (tz_isto dL_best_39 (Nat.le_of_ble_eq_true rfl) (fun x16 e => ?_)))))))))
      have h := tl_leteq e h
      clear e
      obtain ⟨g17, h⟩ := tl_gi h
      refine tl_iload_n dL_best_41 rfl (tl_iconst (v := 3) dL_best_42 ic_3 (tl_idiv dL_best_43 (by decide) (tl_iload_n dL_best_44 rfl (tl_irem dL_best_45 g17 (tz_isto dL_best_46 (Nat.le_of_ble_eq_true rfl) (fun x18 e => ?_))))))
      have h := tl_leteq e h
      clear e
      refine tl_iconst (v := 1) dL_best_48 ic_1 (tl_iload_n dL_best_49 rfl (tl_bipush (v := 24) dL_best_50 bp_24 (tl_idiv dL_best_52 (by decide) (tl_bipush (v := 30) dL_best_53 bp_30 (tl_irem dL_best_55 (by decide) (tl_iadd dL_best_56 (tz_isto dL_best_57 (Nat.le_of_ble_eq_true rfl) (fun x19 e => ?_))))))))
      have h := tl_leteq e h
      clear e
      obtain ⟨x20, u22, e21, h⟩ := tl_b2i h
      obtain ⟨x23, u25, e24, h⟩ := tl_b2i h
      obtain ⟨g26, h⟩ := tl_gi h
      refine tl_aload_n dL_best_59 rfl (tl_bipush (v := 21) dL_best_60 bp_21 (tl_iload dL_best_62 rfl (tl_iload dL_best_64 rfl (tl_iload dL_best_66 rfl (tz_cS5 (lL_call h1 e21) dL_best_68 cs_L_best_189 (c := 1) ⟨rfl, rfl⟩ (k2 := 4) (Nat.le_of_ble_eq_true rfl) (CM := 22) ⟨Nat.le_of_ble_eq_true rfl, Nat.le_of_ble_eq_true rfl⟩ (Nat.le_of_ble_eq_true rfl) (Nat.le_of_ble_eq_true rfl) (tl_istore dL_best_71 (Nat.le_of_ble_eq_true rfl) (tl_iload_n dL_best_73 rfl (tl_sipush (v := 720) dL_best_74 sp_720 (tl_idiv dL_best_77 (by decide) (tl_aload_n dL_best_78 rfl (tl_iconst (v := 3) dL_best_79 ic_3 (tl_iload dL_best_80 rfl (tl_iconst (v := 0) dL_best_82 ic_0 (tl_iconst (v := 0) dL_best_83 ic_0 (tz_cS5 (lL_call h1 e24) dL_best_84 cs_L_best_189 (c := 1) ⟨rfl, rfl⟩ (k2 := 5) (Nat.le_of_ble_eq_true rfl) (CM := 22) ⟨Nat.le_of_ble_eq_true rfl, Nat.le_of_ble_eq_true rfl⟩ (Nat.le_of_ble_eq_true rfl) (Nat.le_of_ble_eq_true rfl) (tl_irem dL_best_87 g26 (tz_isto dL_best_88 (Nat.le_of_ble_eq_true rfl) (fun x27 e => ?_))))))))))))))))))
      have h := tl_leteq e h
      clear e
      refine tl_iload dL_best_90 rfl (tl_if_lt (tgt := 143) dL_best_92 (by decide) (fun c28 => ?_) (fun c28 => ?_))
      · replace h := tl_ip h c28
        refine tl_iconst (v := 0) dL_best_143 ic_0 (?_)
        exact tz_fg (ls2 := [some (.ref a1), some (.ref a2), none, none, some (.int x16), some (.int x18), some (.int x19), some (.int x20), some (.int x27), none, none, none]) (And.intro rfl (And.intro rfl (And.intro rfl (And.intro rfl (And.intro rfl (And.intro rfl (And.intro rfl trivial))))))) (tz_wd (k2 := 8) (Nat.le_of_ble_eq_true rfl) (lL_best_p144 h1 h2 h))
      · replace h := tl_in h c28
        obtain ⟨x29, u31, e30, h⟩ := tl_b2i h
        refine tl_iload dL_best_95 rfl (tl_aload_n dL_best_97 rfl (tl_iconst (v := 3) dL_best_98 ic_3 (tl_iload dL_best_99 rfl (tl_iconst (v := 0) dL_best_101 ic_0 (tl_iconst (v := 0) dL_best_102 ic_0 (tz_cS5 (lL_call h1 e30) dL_best_103 cs_L_best_189 (c := 1) ⟨rfl, rfl⟩ (k2 := 6) (Nat.le_of_ble_eq_true rfl) (CM := 22) ⟨Nat.le_of_ble_eq_true rfl, Nat.le_of_ble_eq_true rfl⟩ (Nat.le_of_ble_eq_true rfl) (Nat.le_of_ble_eq_true rfl) (tl_icmp_ge (tgt := 143) dL_best_106 (by decide) (fun c32 => ?_) (fun c32 => ?_))))))))
        · replace h := tl_ip h c32
          refine tl_iconst (v := 0) dL_best_143 ic_0 (?_)
          exact tz_fg (ls2 := [some (.ref a1), some (.ref a2), none, none, some (.int x16), some (.int x18), some (.int x19), some (.int x20), some (.int x27), none, none, none]) (And.intro rfl (And.intro rfl (And.intro rfl (And.intro rfl (And.intro rfl (And.intro rfl (And.intro rfl trivial))))))) (tz_wd (k2 := 8) (Nat.le_of_ble_eq_true rfl) (lL_best_p144 h1 h2 h))
        · replace h := tl_in h c32
          obtain ⟨x33, u35, e34, h⟩ := tl_b2i h
          refine tl_aload_n dL_best_109 rfl (tl_bipush (v := 13) dL_best_110 bp_13 (tl_iload dL_best_112 rfl (tl_iload dL_best_114 rfl (tl_iload dL_best_116 rfl (tz_cS5 (lL_call h1 e34) dL_best_118 cs_L_best_189 (c := 1) ⟨rfl, rfl⟩ (k2 := 7) (Nat.le_of_ble_eq_true rfl) (CM := 22) ⟨Nat.le_of_ble_eq_true rfl, Nat.le_of_ble_eq_true rfl⟩ (Nat.le_of_ble_eq_true rfl) (Nat.le_of_ble_eq_true rfl) (tl_if_le (tgt := 143) dL_best_121 (by decide) (fun c36 => ?_) (fun c36 => ?_)))))))
          · replace h := tl_ip h c36
            refine tl_iconst (v := 0) dL_best_143 ic_0 (?_)
            exact tz_fg (ls2 := [some (.ref a1), some (.ref a2), none, none, some (.int x16), some (.int x18), some (.int x19), some (.int x20), some (.int x27), none, none, none]) (And.intro rfl (And.intro rfl (And.intro rfl (And.intro rfl (And.intro rfl (And.intro rfl (And.intro rfl trivial))))))) (tz_wd (k2 := 8) (Nat.le_of_ble_eq_true rfl) (lL_best_p144 h1 h2 h))
          · replace h := tl_in h c36
            obtain ⟨x37, u39, e38, h⟩ := tl_b2i h
            refine tl_aload_n dL_best_124 rfl (tl_bipush (v := 13) dL_best_125 bp_13 (tl_iload dL_best_127 rfl (tl_iload dL_best_129 rfl (tl_iload dL_best_131 rfl (tz_cS5 (lL_call h2 e38) dL_best_133 cs_L_best_189 (c := 1) ⟨rfl, rfl⟩ (k2 := 8) (Nat.le_of_ble_eq_true rfl) (CM := 22) ⟨Nat.le_of_ble_eq_true rfl, Nat.le_of_ble_eq_true rfl⟩ (Nat.le_of_ble_eq_true rfl) (Nat.le_of_ble_eq_true rfl) (tl_if_le (tgt := 143) dL_best_136 (by decide) (fun c40 => ?_) (fun c40 => ?_)))))))
            · replace h := tl_ip h c40
              refine tl_iconst (v := 0) dL_best_143 ic_0 (?_)
              exact tz_fg (ls2 := [some (.ref a1), some (.ref a2), none, none, some (.int x16), some (.int x18), some (.int x19), some (.int x20), some (.int x27), none, none, none]) (And.intro rfl (And.intro rfl (And.intro rfl (And.intro rfl (And.intro rfl (And.intro rfl (And.intro rfl trivial))))))) (tz_wd (k2 := 8) (Nat.le_of_ble_eq_true rfl) (lL_best_p144 h1 h2 h))
            · replace h := tl_in h c40
              refine tl_iconst (v := 1) dL_best_139 ic_1 (tl_goto (tgt := 144) dL_best_140 (by decide) (?_))
              exact tz_fg (ls2 := [some (.ref a1), some (.ref a2), none, none, some (.int x16), some (.int x18), some (.int x19), some (.int x20), some (.int x27), none, none, none]) (And.intro rfl (And.intro rfl (And.intro rfl (And.intro rfl (And.intro rfl (And.intro rfl (And.intro rfl trivial))))))) (tz_wd (k2 := 8) (Nat.le_of_ble_eq_true rfl) (lL_best_p144 h1 h2 h))
    · replace h := tl_ip h c11
      exact tl_iconst (v := 1) dL_best_27 ic_1 (tz_ret dL_best_28 rfl rfl (CM := 22) ⟨Nat.le_of_ble_eq_true rfl, Nat.le_of_ble_eq_true rfl⟩ (Nat.le_of_ble_eq_true rfl) h)

