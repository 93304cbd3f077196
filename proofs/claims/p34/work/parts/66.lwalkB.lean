/-! Printed by wip/p34/gen: what the law's methods compute, and their walks. -/
theorem cs_L_refuses_189 : tl_cS mL_refuses mL_call 189 5 := ⟨cd_L_call, ml_L_189, sm_L_call, in_L, ⟨by decide, by decide, by decide +kernel⟩, Nat.le_of_ble_eq_true rfl, Nat.le_of_ble_eq_true rfl⟩
theorem cs_L_refuses_193 : tl_cH mL_refuses mL_lamps hL_lamps 193 5 := ⟨cw_L_lamps, ml_L_193, sm_L_lamps, in_L, ⟨by decide, by decide, by decide +kernel⟩, Nat.le_of_ble_eq_true rfl, Nat.le_of_ble_eq_true rfl⟩
theorem cs_L_refuses_196 : tl_cH mL_refuses mL_ways hL_ways 196 5 := ⟨cw_L_ways, ml_L_196, sm_L_ways, in_L, ⟨by decide, by decide, by decide +kernel⟩, Nat.le_of_ble_eq_true rfl, Nat.le_of_ble_eq_true rfl⟩
theorem cs_L_refuses_199 : tl_cH mL_refuses mL_doScript hL_doScript 199 3 := ⟨cw_L_doScript, ml_L_199, sm_L_doScript, in_L, ⟨by decide, by decide, by decide +kernel⟩, Nat.le_of_ble_eq_true rfl, Nat.le_of_ble_eq_true rfl⟩
theorem cs_L_refuses_205 : tl_cH mL_refuses mL_doSimulate hL_doSimulate 205 3 := ⟨cw_L_doSimulate, ml_L_205, sm_L_doSimulate, in_L, ⟨by decide, by decide, by decide +kernel⟩, Nat.le_of_ble_eq_true rfl, Nat.le_of_ble_eq_true rfl⟩
def fL_refuses_p1161 (a1 : Nat) (x2 : Int32) (x3 : Int32) (u : tz_U) : Option (Int32 × tz_U) :=
  (if x3 = 0 then some (1, u) else tl_b2 (fL_call a1 7 0 (4 + (x2 - x2 / 9 * 9)) 0 u) (fun x5 u7 => (if x5 = (-9999002) then some (1, u7) else some (0, u7))))

def fL_refuses_p1139 (a1 : Nat) (x2 : Int32) (x3 : Int32) (x4 : Int32) (u : tz_U) : Option (Int32 × tz_U) :=
  (if x3 = 0 then fL_refuses_p1161 a1 x2 x4 u else tl_b2 (fL_call a1 4 0 (4 + (x2 - x2 / 9 * 9)) 0 u) (fun x6 u8 => (if x6 = (-9999002) then fL_refuses_p1161 a1 x2 x4 u8 else some (0, u8))))

def fL_refuses_p1115 (a1 : Nat) (x2 : Int32) (x3 : Int32) (x4 : Int32) (x5 : Int32) (x6 : Int32) (u : tz_U) : Option (Int32 × tz_U) :=
  (if x6 = 0 then some (0, u) else (if x3 < 3 then fL_refuses_p1139 a1 x2 x4 x5 u else tl_b2 (fL_call a1 9 5 0 0 u) (fun x9 u11 => (if x9 = (-9999003) then fL_refuses_p1139 a1 x2 x4 x5 u11 else some (0, u11)))))

def fL_refuses_p1051 (a1 : Nat) (x2 : Int32) (x3 : Int32) (x4 : Int32) (x5 : Int32) (x6 : Int32) (x7 : Int32) (x8 : Int32) (x9 : Int32) (a10 : Nat) (u : tz_U) : Option (Int32 × tz_U) :=
  tl_b2 (fL_call a10 x9 x8 x7 x6 u) (fun x11 u13 => (if x11 = (-9999002) then (if x5 < 6 then fL_refuses_p1115 a1 x2 x3 x4 x5 1 u13 else tl_b2 (fL_call a1 13 0 0 0 u13) (fun x16 u18 => (if x16 = (-9999003) then tl_b2 (fL_call a1 14 0 5 0 u18) (fun x20 u22 => (if x20 = (-9999003) then tl_b2 (fL_call a1 21 0 0 5 u22) (fun x24 u26 => (if x24 = (-9999003) then fL_refuses_p1115 a1 x2 x3 x4 x5 1 u26 else fL_refuses_p1115 a1 x2 x3 x4 x5 0 u26)) else fL_refuses_p1115 a1 x2 x3 x4 x5 0 u22)) else fL_refuses_p1115 a1 x2 x3 x4 x5 0 u18))) else fL_refuses_p1115 a1 x2 x3 x4 x5 0 u13))

def fL_refuses_p1020 (a1 : Nat) (x2 : Int32) (x3 : Int32) (x4 : Int32) (x5 : Int32) (x6 : Int32) (x7 : Int32) (x8 : Int32) (a9 : Nat) (u : tz_U) : Option (Int32 × tz_U) :=
  tl_b2 (fL_call a9 x8 x7 x6 0 u) (fun x10 u12 => (if x10 = (-9999002) then (if (x2 - x2 / 2 * 2) = 0 then fL_refuses_p1051 a1 x2 x3 x4 x5 0 0 0 21 a1 u12 else fL_refuses_p1051 a1 x2 x3 x4 x5 (101 + (x2 - x2 / 9 * 9)) 0 0 21 a1 u12) else fL_refuses_p1115 a1 x2 x3 x4 x5 0 u12))

def fL_refuses_p969 (a1 : Nat) (x2 : Int32) (x3 : Int32) (x4 : Int32) (x5 : Int32) (x6 : Int32) (x7 : Int32) (u : tz_U) : Option (Int32 × tz_U) :=
  (if x5 ≤ 0 then fL_refuses_p1115 a1 x2 x3 x4 x6 x7 u else (if x7 = 0 then fL_refuses_p1115 a1 x2 x3 x4 x6 0 u else tl_b2 (fL_call a1 5 0 (5 + (x2 - x2 / 9 * 9)) 0 u) (fun x10 u12 => (if x10 = (-9999002) then (if (x2 - x2 / 2 * 2) = 0 then fL_refuses_p1020 a1 x2 x3 x4 x6 0 0 14 a1 u12 else fL_refuses_p1020 a1 x2 x3 x4 x6 (100 + (x2 - x2 / 9 * 9)) 0 14 a1 u12) else fL_refuses_p1115 a1 x2 x3 x4 x6 0 u12))))

def fL_refuses_p946 (a1 : Nat) (x2 : Int32) (x3 : Int32) (x4 : Int32) (x5 : Int32) (x6 : Int32) (u : tz_U) : Option (Int32 × tz_U) :=
  tl_b2 (fL_doSimulate a1 ((x2 : Int32).toInt64) (61 + (x2 - x2 / 9 * 9)) u) (fun x7 u9 => (if x7 = (-9999002) then fL_refuses_p969 a1 x2 x3 x4 x5 x6 1 u9 else fL_refuses_p969 a1 x2 x3 x4 x5 x6 0 u9))

def fL_refuses_p800 (a1 : Nat) (x2 : Int32) (x3 : Int32) (x4 : Int32) (x5 : Int32) (x6 : Int32) (x7 : Int32) (x8 : Int32) (x9 : Int32) (x10 : Int32) (x11 : Int32) (x12 : Int32) (a13 : Nat) (u : tz_U) : Option (Int32 × tz_U) :=
  tl_b2 (fL_call a13 x12 x11 x10 0 u) (fun x14 u16 => (if x14 = (-9999002) then tl_b2 (fL_call a1 21 x8 0 0 u16) (fun x18 u20 => (if x18 = (-9999001) then tl_b2 (fL_call a1 21 0 x7 0 u20) (fun x22 u24 => (if x22 = (-9999001) then tl_b2 (fL_ways a1 x7 0 0 0 u24) (fun x26 u28 => (if x26 = (-9999001) then tl_b2 (fL_ways a1 0 x9 0 0 u28) (fun x30 u32 => (if x30 = (-9999001) then tl_b2 (fL_ways a1 0 0 0 x9 u32) (fun x34 u36 => (if x34 = (-9999001) then tl_b2 (fL_call a1 22 (2 + (x2 - x2 / 50 * 50)) 0 0 u36) (fun x38 u40 => (if x38 = (-9999001) then tl_b2 (fL_call a1 23 ((-1) - (x2 - x2 / 9 * 9)) 0 0 u40) (fun x42 u44 => (if x42 = (-9999001) then tl_b2 (fL_doScript a1 0 0 u44) (fun x46 u48 => (if x46 = (-9999002) then tl_b2 (fL_doScript a1 1 (1000000 + (x2 : Int32).toInt64) u48) (fun x50 u52 => (if x50 = (-9999002) then fL_refuses_p946 a1 x2 x3 x4 x5 x6 u52 else fL_refuses_p969 a1 x2 x3 x4 x5 x6 0 u52)) else fL_refuses_p969 a1 x2 x3 x4 x5 x6 0 u48)) else fL_refuses_p969 a1 x2 x3 x4 x5 x6 0 u44)) else fL_refuses_p969 a1 x2 x3 x4 x5 x6 0 u40)) else fL_refuses_p969 a1 x2 x3 x4 x5 x6 0 u36)) else fL_refuses_p969 a1 x2 x3 x4 x5 x6 0 u32)) else fL_refuses_p969 a1 x2 x3 x4 x5 x6 0 u28)) else fL_refuses_p969 a1 x2 x3 x4 x5 x6 0 u24)) else fL_refuses_p969 a1 x2 x3 x4 x5 x6 0 u20)) else fL_refuses_p969 a1 x2 x3 x4 x5 x6 0 u16))

def fL_refuses_p738 (a1 : Nat) (x2 : Int32) (x3 : Int32) (x4 : Int32) (x5 : Int32) (x6 : Int32) (x7 : Int32) (x8 : Int32) (x9 : Int32) (x10 : Int32) (x11 : Int32) (a12 : Nat) (u : tz_U) : Option (Int32 × tz_U) :=
  tl_b2 (fL_call a12 x11 x10 0 0 u) (fun x13 u15 => (if x13 = (-9999002) then tl_b2 (fL_call a1 19 x7 0 0 u15) (fun x17 u19 => (if x17 = (-9999001) then tl_b2 (fL_call a1 20 x7 0 0 u19) (fun x21 u23 => (if x21 = (-9999001) then (if (x2 - x2 / 2 * 2) = 0 then fL_refuses_p800 a1 x2 x3 x4 x5 x6 x7 x8 x9 0 0 20 a1 u23 else fL_refuses_p800 a1 x2 x3 x4 x5 x6 x7 x8 x9 (201 + (x2 - x2 / 9 * 9)) 0 20 a1 u23) else fL_refuses_p969 a1 x2 x3 x4 x5 x6 0 u23)) else fL_refuses_p969 a1 x2 x3 x4 x5 x6 0 u19)) else fL_refuses_p969 a1 x2 x3 x4 x5 x6 0 u15))

def fL_refuses_p690 (a1 : Nat) (x2 : Int32) (x3 : Int32) (x4 : Int32) (x5 : Int32) (x6 : Int32) (x7 : Int32) (x8 : Int32) (x9 : Int32) (x10 : Int32) (x11 : Int32) (x12 : Int32) (a13 : Nat) (u : tz_U) : Option (Int32 × tz_U) :=
  tl_b2 (fL_call a13 x12 x11 x10 0 u) (fun x14 u16 => (if x14 = (-9999002) then tl_b2 (fL_call a1 16 (2 + (x2 - x2 / 9 * 9)) 0 0 u16) (fun x18 u20 => (if x18 = (-9999002) then (if (x2 - x2 / 2 * 2) = 0 then fL_refuses_p738 a1 x2 x3 x4 x5 x6 x7 x8 x9 0 17 a1 u20 else fL_refuses_p738 a1 x2 x3 x4 x5 x6 x7 x8 x9 (61 + (x2 - x2 / 9 * 9)) 17 a1 u20) else fL_refuses_p969 a1 x2 x3 x4 x5 x6 0 u20)) else fL_refuses_p969 a1 x2 x3 x4 x5 x6 0 u16))

def fL_refuses_p661 (a1 : Nat) (x2 : Int32) (x3 : Int32) (x4 : Int32) (x5 : Int32) (x6 : Int32) (x7 : Int32) (x8 : Int32) (x9 : Int32) (x10 : Int32) (x11 : Int32) (x12 : Int32) (a13 : Nat) (u : tz_U) : Option (Int32 × tz_U) :=
  tl_b2 (fL_call a13 x12 x11 x10 0 u) (fun x14 u16 => (if x14 = (-9999002) then (if (x2 - x2 / 2 * 2) = 0 then fL_refuses_p690 a1 x2 x3 x4 x5 x6 x7 x8 x9 (-1) 1 16 a1 u16 else fL_refuses_p690 a1 x2 x3 x4 x5 x6 x7 x8 x9 (2 + (x2 - x2 / 9 * 9)) 1 16 a1 u16) else fL_refuses_p969 a1 x2 x3 x4 x5 x6 0 u16))

def fL_refuses_p550 (a1 : Nat) (x2 : Int32) (x3 : Int32) (x4 : Int32) (x5 : Int32) (x6 : Int32) (x7 : Int32) (x8 : Int32) (x9 : Int32) (x10 : Int32) (x11 : Int32) (a12 : Nat) (u : tz_U) : Option (Int32 × tz_U) :=
  tl_b2 (fL_call a12 x11 x10 0 0 u) (fun x13 u15 => (if x13 = (-9999002) then tl_b2 (fL_call a1 13 x8 0 0 u15) (fun x17 u19 => (if x17 = (-9999001) then tl_b2 (fL_call a1 13 0 x7 0 u19) (fun x21 u23 => (if x21 = (-9999001) then tl_b2 (fL_call a1 13 0 0 x9 u23) (fun x25 u27 => (if x25 = (-9999001) then tl_b2 (fL_call a1 14 x8 0 0 u27) (fun x29 u31 => (if x29 = (-9999001) then tl_b2 (fL_call a1 15 (x6 + (x2 - x2 / 9 * 9)) 0 0 u31) (fun x33 u35 => (if x33 = (-9999001) then (if (x2 - x2 / 2 * 2) = 0 then fL_refuses_p661 a1 x2 x3 x4 x5 x6 x7 x8 x9 (-1) 0 16 a1 u35 else fL_refuses_p661 a1 x2 x3 x4 x5 x6 x7 x8 x9 (13 + (x2 - x2 / 9 * 9)) 0 16 a1 u35) else fL_refuses_p969 a1 x2 x3 x4 x5 x6 0 u35)) else fL_refuses_p969 a1 x2 x3 x4 x5 x6 0 u31)) else fL_refuses_p969 a1 x2 x3 x4 x5 x6 0 u27)) else fL_refuses_p969 a1 x2 x3 x4 x5 x6 0 u23)) else fL_refuses_p969 a1 x2 x3 x4 x5 x6 0 u19)) else fL_refuses_p969 a1 x2 x3 x4 x5 x6 0 u15))

def fL_refuses_p516 (a1 : Nat) (x2 : Int32) (x3 : Int32) (x4 : Int32) (x5 : Int32) (x6 : Int32) (x7 : Int32) (x8 : Int32) (x9 : Int32) (x10 : Int32) (x11 : Int32) (x12 : Int32) (x13 : Int32) (a14 : Nat) (u : tz_U) : Option (Int32 × tz_U) :=
  tl_b2 (fL_lamps a14 x13 x12 x11 x10 u) (fun x15 u17 => (if x15 = (-9999002) then (if (x2 - x2 / 2 * 2) = 0 then fL_refuses_p550 a1 x2 x3 x4 x5 x6 x7 x8 x9 ((-1) - (x2 - x2 / 9 * 9)) 12 a1 u17 else fL_refuses_p550 a1 x2 x3 x4 x5 x6 x7 x8 x9 (1000 + (x2 - x2 / 9 * 9)) 12 a1 u17) else fL_refuses_p969 a1 x2 x3 x4 x5 x6 0 u17))

def fL_refuses_p486 (a1 : Nat) (x2 : Int32) (x3 : Int32) (x4 : Int32) (x5 : Int32) (x6 : Int32) (x7 : Int32) (x8 : Int32) (x9 : Int32) (x10 : Int32) (x11 : Int32) (x12 : Int32) (a13 : Nat) (u : tz_U) : Option (Int32 × tz_U) :=
  tl_b2 (fL_lamps a13 x12 x11 x10 5 u) (fun x14 u16 => (if x14 = (-9999002) then (if (x2 - x2 / 2 * 2) = 0 then fL_refuses_p516 a1 x2 x3 x4 x5 x6 x7 x8 x9 (-1) 5 0 0 a1 u16 else fL_refuses_p516 a1 x2 x3 x4 x5 x6 x7 x8 x9 (100 + (x2 - x2 / 9 * 9)) 5 0 0 a1 u16) else fL_refuses_p969 a1 x2 x3 x4 x5 x6 0 u16))

def fL_refuses_p399 (a1 : Nat) (x2 : Int32) (x3 : Int32) (x4 : Int32) (x5 : Int32) (x6 : Int32) (x7 : Int32) (x8 : Int32) (x9 : Int32) (x10 : Int32) (x11 : Int32) (x12 : Int32) (x13 : Int32) (a14 : Nat) (u : tz_U) : Option (Int32 × tz_U) :=
  tl_b2 (fL_call a14 x13 x12 x11 0 u) (fun x15 u17 => (if x15 = (-9999002) then tl_b2 (fL_call a1 11 x8 0 0 u17) (fun x19 u21 => (if x19 = (-9999001) then tl_b2 (fL_call a1 11 0 x7 0 u21) (fun x23 u25 => (if x23 = (-9999001) then tl_b2 (fL_lamps a1 x7 0 0 0 u25) (fun x27 u29 => (if x27 = (-9999001) then tl_b2 (fL_lamps a1 0 x10 0 0 u29) (fun x31 u33 => (if x31 = (-9999001) then (if (x2 - x2 / 2 * 2) = 0 then fL_refuses_p486 a1 x2 x3 x4 x5 x6 x7 x9 x10 0 0 0 a1 u33 else fL_refuses_p486 a1 x2 x3 x4 x5 x6 x7 x9 x10 (10 + (x2 - x2 / 9 * 9)) 0 0 a1 u33) else fL_refuses_p969 a1 x2 x3 x4 x5 x6 0 u33)) else fL_refuses_p969 a1 x2 x3 x4 x5 x6 0 u29)) else fL_refuses_p969 a1 x2 x3 x4 x5 x6 0 u25)) else fL_refuses_p969 a1 x2 x3 x4 x5 x6 0 u21)) else fL_refuses_p969 a1 x2 x3 x4 x5 x6 0 u17))

def fL_refuses_p352 (a1 : Nat) (x2 : Int32) (x3 : Int32) (x4 : Int32) (x5 : Int32) (x6 : Int32) (x7 : Int32) (x8 : Int32) (x9 : Int32) (x10 : Int32) (x11 : Int32) (x12 : Int32) (a13 : Nat) (u : tz_U) : Option (Int32 × tz_U) :=
  tl_b2 (fL_call a13 x12 x11 0 0 u) (fun x14 u16 => (if x14 = (-9999002) then tl_b2 (fL_call a1 10 x7 9 0 u16) (fun x18 u20 => (if x18 = (-9999001) then (if (x2 - x2 / 2 * 2) = 0 then fL_refuses_p399 a1 x2 x3 x4 x5 x6 x7 x8 x9 x10 0 0 10 a1 u20 else fL_refuses_p399 a1 x2 x3 x4 x5 x6 x7 x8 x9 x10 (6 + (x2 - x2 / 9 * 9)) 0 10 a1 u20) else fL_refuses_p969 a1 x2 x3 x4 x5 x6 0 u20)) else fL_refuses_p969 a1 x2 x3 x4 x5 x6 0 u16))

def fL_refuses_p332 (a1 : Nat) (x2 : Int32) (x3 : Int32) (x4 : Int32) (x5 : Int32) (x6 : Int32) (x7 : Int32) (x8 : Int32) (x9 : Int32) (x10 : Int32) (u : tz_U) : Option (Int32 × tz_U) :=
  (if (x2 - x2 / 2 * 2) = 0 then fL_refuses_p352 a1 x2 x3 x4 x5 x6 x7 x8 x9 x10 0 9 a1 u else fL_refuses_p352 a1 x2 x3 x4 x5 x6 x7 x8 x9 x10 (61 + (x2 - x2 / 9 * 9)) 9 a1 u)

def fL_refuses_p164 (a1 : Nat) (x2 : Int32) (x3 : Int32) (x4 : Int32) (x5 : Int32) (x6 : Int32) (x7 : Int32) (x8 : Int32) (x9 : Int32) (x10 : Int32) (x11 : Int32) (x12 : Int32) (a13 : Nat) (u : tz_U) : Option (Int32 × tz_U) :=
  tl_b2 (fL_call a13 x12 x11 0 0 u) (fun x14 u16 => (if x14 = (-9999002) then tl_b2 (fL_call a1 2 (13 + (x2 - x2 / 50 * 50)) 0 0 u16) (fun x18 u20 => (if x18 = (-9999002) then tl_b2 (fL_call a1 3 x7 99 0 u20) (fun x22 u24 => (if x22 = (-9999001) then tl_b2 (fL_call a1 3 0 (6 + (x2 - x2 / 9 * 9)) 0 u24) (fun x26 u28 => (if x26 = (-9999002) then tl_b2 (fL_call a1 4 x8 99 0 u28) (fun x30 u32 => (if x30 = (-9999001) then tl_b2 (fL_call a1 5 x9 99 0 u32) (fun x34 u36 => (if x34 = (-9999001) then tl_b2 (fL_call a1 6 (4 + (x2 - x2 / 9 * 9)) 0 0 u36) (fun x38 u40 => (if x38 = (-9999002) then tl_b2 (fL_call a1 7 (x6 + (x2 - x2 / 9 * 9)) 99 0 u40) (fun x42 u44 => (if x42 = (-9999001) then tl_b2 (fL_call a1 8 x7 9 0 u44) (fun x46 u48 => (if x46 = (-9999001) then tl_b2 (fL_call a1 8 0 (2 + (x2 - x2 / 9 * 9)) 0 u48) (fun x50 u52 => (if x50 = (-9999002) then fL_refuses_p332 a1 x2 x3 x4 x5 x6 x7 x8 x9 x10 u52 else fL_refuses_p969 a1 x2 x3 x4 x5 x6 0 u52)) else fL_refuses_p969 a1 x2 x3 x4 x5 x6 0 u48)) else fL_refuses_p969 a1 x2 x3 x4 x5 x6 0 u44)) else fL_refuses_p969 a1 x2 x3 x4 x5 x6 0 u40)) else fL_refuses_p969 a1 x2 x3 x4 x5 x6 0 u36)) else fL_refuses_p969 a1 x2 x3 x4 x5 x6 0 u32)) else fL_refuses_p969 a1 x2 x3 x4 x5 x6 0 u28)) else fL_refuses_p969 a1 x2 x3 x4 x5 x6 0 u24)) else fL_refuses_p969 a1 x2 x3 x4 x5 x6 0 u20)) else fL_refuses_p969 a1 x2 x3 x4 x5 x6 0 u16))

def fL_refuses_p137 (a1 : Nat) (x2 : Int32) (x3 : Int32) (x4 : Int32) (x5 : Int32) (x6 : Int32) (x7 : Int32) (x8 : Int32) (x9 : Int32) (x10 : Int32) (u : tz_U) : Option (Int32 × tz_U) :=
  (if (x2 - x2 / 2 * 2) = 0 then fL_refuses_p164 a1 x2 x3 x4 x5 x6 x7 x8 x9 x10 ((-1) - (x2 - x2 / 9 * 9)) 0 a1 u else fL_refuses_p164 a1 x2 x3 x4 x5 x6 x7 x8 x9 x10 (256 + (x2 - x2 / 9 * 9)) 0 a1 u)

def fL_refuses_p107 (a1 : Nat) (x2 : Int32) (x3 : Int32) (x4 : Int32) (x5 : Int32) (x6 : Int32) (x7 : Int32) (x8 : Int32) (x9 : Int32) (u : tz_U) : Option (Int32 × tz_U) :=
  (if (x2 - x2 / 2 * 2) = 0 then fL_refuses_p137 a1 x2 x3 x4 x5 x6 x7 x8 x9 ((-1) - (x2 - x2 / 99 * 99)) u else tl_b2 (fL_call a1 3 0 0 0 u) (fun x11 u13 => fL_refuses_p137 a1 x2 x3 x4 x5 x6 x7 x8 x9 (x11 + (x2 - x2 / 99 * 99)) u13))

def fL_refuses_p83 (a1 : Nat) (x2 : Int32) (x3 : Int32) (x4 : Int32) (x5 : Int32) (x6 : Int32) (x7 : Int32) (x8 : Int32) (u : tz_U) : Option (Int32 × tz_U) :=
  (if (x2 - x2 / 2 * 2) = 0 then fL_refuses_p107 a1 x2 x3 x4 x5 x6 x7 x8 ((-1) - (x2 - x2 / 99 * 99)) u else fL_refuses_p107 a1 x2 x3 x4 x5 x6 x7 x8 (x5 + (x2 - x2 / 99 * 99)) u)

def fL_refuses_p60 (a1 : Nat) (x2 : Int32) (x3 : Int32) (x4 : Int32) (x5 : Int32) (x6 : Int32) (x7 : Int32) (u : tz_U) : Option (Int32 × tz_U) :=
  (if (x2 - x2 / 2 * 2) = 0 then fL_refuses_p83 a1 x2 x3 x4 x5 x6 x7 ((-1) - (x2 - x2 / 99 * 99)) u else fL_refuses_p83 a1 x2 x3 x4 x5 x6 x7 (x4 + (x2 - x2 / 99 * 99)) u)

def fL_refuses (a1 : Nat) (x2 : Int32) (u : tz_U) : Option (Int32 × tz_U) :=
  tl_b2 (fL_call a1 2 0 0 0 u) (fun x3 u5 => tl_b2 (fL_call a1 2 1 0 0 u5) (fun x6 u8 => tl_b2 (fL_call a1 2 2 0 0 u8) (fun x9 u11 => tl_b2 (fL_call a1 2 10 0 0 u11) (fun x12 u14 => (if (x2 - x2 / 2 * 2) = 0 then fL_refuses_p60 a1 x2 x3 x6 x9 x12 ((-1) - (x2 - x2 / 99 * 99)) u14 else fL_refuses_p60 a1 x2 x3 x6 x9 x12 (x3 + (x2 - x2 / 99 * 99)) u14)))))

theorem lL_refuses_p1161 {E : tl_E} {a1 : Nat} {x2 : Int32} {x3 : Int32} {u : tz_U} {r : Int32} {v : tz_U} (h1 : tz_on E a1) (h : fL_refuses_p1161 a1 x2 x3 u = some (r, v)) : tz_R E mL_refuses tl_X0 (tl_Z E mL_refuses (tz_Q E r v)) 55 (tz_HU E u) 1161 [some (.ref a1), some (.int x2), none, none, none, some (.int x3), none, none, none, none, none] [] := by
  unfold fL_refuses_p1161 at h
  refine tl_iload dL_refuses_1161 rfl (tl_if_eq (tgt := 1185) dL_refuses_1163 (by decide) (fun c4 => ?_) (fun c4 => ?_))
  · replace h := tl_ip h c4
    exact tl_iconst (v := 1) dL_refuses_1185 ic_1 (tl_goto (tgt := 1190) dL_refuses_1186 (by decide) (tz_ret dL_refuses_1190 rfl rfl (CM := 56) ⟨Nat.le_of_ble_eq_true rfl, Nat.le_of_ble_eq_true rfl⟩ (Nat.le_of_ble_eq_true rfl) h))
  · replace h := tl_in h c4
    obtain ⟨x5, u7, e6, h⟩ := tl_b2i h
    refine tl_aload_n dL_refuses_1166 rfl (tl_bipush (v := 7) dL_refuses_1167 bp_7 (tl_iconst (v := 0) dL_refuses_1169 ic_0 (tl_iconst (v := 4) dL_refuses_1170 ic_4 (tl_iload_n dL_refuses_1171 rfl (tl_bipush (v := 9) dL_refuses_1172 bp_9 (tl_irem dL_refuses_1174 (by decide) (tl_iadd dL_refuses_1175 (tl_iconst (v := 0) dL_refuses_1176 ic_0 (tz_cS5 (lL_call h1 e6) dL_refuses_1177 cs_L_refuses_189 (c := 1) ⟨rfl, rfl⟩ (k2 := 56) (Nat.le_of_ble_eq_true rfl) (CM := 56) ⟨Nat.le_of_ble_eq_true rfl, Nat.le_of_ble_eq_true rfl⟩ (Nat.le_of_ble_eq_true rfl) (Nat.le_of_ble_eq_true rfl) (tl_ldc dL_refuses_1180 kc_L_18 (tl_icmp_ne (tgt := 1189) dL_refuses_1182 (by decide) (fun c8 => ?_) (fun c8 => ?_))))))))))))
    · replace h := tl_in h c8
      exact tl_iconst (v := 0) dL_refuses_1189 ic_0 (tz_ret dL_refuses_1190 rfl rfl (CM := 56) ⟨Nat.le_of_ble_eq_true rfl, Nat.le_of_ble_eq_true rfl⟩ (Nat.le_of_ble_eq_true rfl) h)
    · replace h := tl_ip h c8
      exact tl_iconst (v := 1) dL_refuses_1185 ic_1 (tl_goto (tgt := 1190) dL_refuses_1186 (by decide) (tz_ret dL_refuses_1190 rfl rfl (CM := 56) ⟨Nat.le_of_ble_eq_true rfl, Nat.le_of_ble_eq_true rfl⟩ (Nat.le_of_ble_eq_true rfl) h))

theorem lL_refuses_p1139 {E : tl_E} {a1 : Nat} {x2 : Int32} {x3 : Int32} {x4 : Int32} {u : tz_U} {r : Int32} {v : tz_U} (h1 : tz_on E a1) (h : fL_refuses_p1139 a1 x2 x3 x4 u = some (r, v)) : tz_R E mL_refuses tl_X0 (tl_Z E mL_refuses (tz_Q E r v)) 54 (tz_HU E u) 1139 [some (.ref a1), some (.int x2), none, some (.int x3), none, some (.int x4), none, none, none, none, none] [] := by
  unfold fL_refuses_p1139 at h
  refine tl_iload_n dL_refuses_1139 rfl (tl_if_eq (tgt := 1161) dL_refuses_1140 (by decide) (fun c5 => ?_) (fun c5 => ?_))
  · replace h := tl_ip h c5
    exact tz_fg (ls2 := [some (.ref a1), some (.int x2), none, none, none, some (.int x4), none, none, none, none, none]) (And.intro rfl (And.intro rfl (And.intro rfl trivial))) (tz_wd (k2 := 55) (Nat.le_of_ble_eq_true rfl) (lL_refuses_p1161 h1 h))
  · replace h := tl_in h c5
    obtain ⟨x6, u8, e7, h⟩ := tl_b2i h
    refine tl_aload_n dL_refuses_1143 rfl (tl_iconst (v := 4) dL_refuses_1144 ic_4 (tl_iconst (v := 0) dL_refuses_1145 ic_0 (tl_iconst (v := 4) dL_refuses_1146 ic_4 (tl_iload_n dL_refuses_1147 rfl (tl_bipush (v := 9) dL_refuses_1148 bp_9 (tl_irem dL_refuses_1150 (by decide) (tl_iadd dL_refuses_1151 (tl_iconst (v := 0) dL_refuses_1152 ic_0 (tz_cS5 (lL_call h1 e7) dL_refuses_1153 cs_L_refuses_189 (c := 1) ⟨rfl, rfl⟩ (k2 := 55) (Nat.le_of_ble_eq_true rfl) (CM := 56) ⟨Nat.le_of_ble_eq_true rfl, Nat.le_of_ble_eq_true rfl⟩ (Nat.le_of_ble_eq_true rfl) (Nat.le_of_ble_eq_true rfl) (tl_ldc dL_refuses_1156 kc_L_18 (tl_icmp_ne (tgt := 1189) dL_refuses_1158 (by decide) (fun c9 => ?_) (fun c9 => ?_))))))))))))
    · replace h := tl_in h c9
      exact tl_iconst (v := 0) dL_refuses_1189 ic_0 (tz_ret dL_refuses_1190 rfl rfl (CM := 56) ⟨Nat.le_of_ble_eq_true rfl, Nat.le_of_ble_eq_true rfl⟩ (Nat.le_of_ble_eq_true rfl) h)
    · replace h := tl_ip h c9
      exact tz_fg (ls2 := [some (.ref a1), some (.int x2), none, none, none, some (.int x4), none, none, none, none, none]) (And.intro rfl (And.intro rfl (And.intro rfl trivial))) (tz_wd (k2 := 55) (Nat.le_of_ble_eq_true rfl) (lL_refuses_p1161 h1 h))

theorem lL_refuses_p1115 {E : tl_E} {a1 : Nat} {x2 : Int32} {x3 : Int32} {x4 : Int32} {x5 : Int32} {x6 : Int32} {u : tz_U} {r : Int32} {v : tz_U} (h1 : tz_on E a1) (h : fL_refuses_p1115 a1 x2 x3 x4 x5 x6 u = some (r, v)) : tz_R E mL_refuses tl_X0 (tl_Z E mL_refuses (tz_Q E r v)) 53 (tz_HU E u) 1115 [some (.ref a1), some (.int x2), some (.int x3), some (.int x4), none, some (.int x5), none, none, none, none, some (.int x6)] [] := by
  unfold fL_refuses_p1115 at h
  refine tl_iload dL_refuses_1115 rfl (tl_if_eq (tgt := 1189) dL_refuses_1117 (by decide) (fun c7 => ?_) (fun c7 => ?_))
  · replace h := tl_ip h c7
    exact tl_iconst (v := 0) dL_refuses_1189 ic_0 (tz_ret dL_refuses_1190 rfl rfl (CM := 56) ⟨Nat.le_of_ble_eq_true rfl, Nat.le_of_ble_eq_true rfl⟩ (Nat.le_of_ble_eq_true rfl) h)
  · replace h := tl_in h c7
    refine tl_iload_n dL_refuses_1120 rfl (tl_iconst (v := 3) dL_refuses_1121 ic_3 (tl_icmp_lt (tgt := 1139) dL_refuses_1122 (by decide) (fun c8 => ?_) (fun c8 => ?_)))
    · replace h := tl_ip h c8
      exact tz_fg (ls2 := [some (.ref a1), some (.int x2), none, some (.int x4), none, some (.int x5), none, none, none, none, none]) (And.intro rfl (And.intro rfl (And.intro rfl (And.intro rfl trivial)))) (tz_wd (k2 := 54) (Nat.le_of_ble_eq_true rfl) (lL_refuses_p1139 h1 h))
    · replace h := tl_in h c8
      obtain ⟨x9, u11, e10, h⟩ := tl_b2i h
      refine tl_aload_n dL_refuses_1125 rfl (tl_bipush (v := 9) dL_refuses_1126 bp_9 (tl_iconst (v := 5) dL_refuses_1128 ic_5 (tl_iconst (v := 0) dL_refuses_1129 ic_0 (tl_iconst (v := 0) dL_refuses_1130 ic_0 (tz_cS5 (lL_call h1 e10) dL_refuses_1131 cs_L_refuses_189 (c := 1) ⟨rfl, rfl⟩ (k2 := 54) (Nat.le_of_ble_eq_true rfl) (CM := 56) ⟨Nat.le_of_ble_eq_true rfl, Nat.le_of_ble_eq_true rfl⟩ (Nat.le_of_ble_eq_true rfl) (Nat.le_of_ble_eq_true rfl) (tl_ldc dL_refuses_1134 kc_L_21 (tl_icmp_ne (tgt := 1189) dL_refuses_1136 (by decide) (fun c12 => ?_) (fun c12 => ?_))))))))
      · replace h := tl_in h c12
        exact tl_iconst (v := 0) dL_refuses_1189 ic_0 (tz_ret dL_refuses_1190 rfl rfl (CM := 56) ⟨Nat.le_of_ble_eq_true rfl, Nat.le_of_ble_eq_true rfl⟩ (Nat.le_of_ble_eq_true rfl) h)
      · replace h := tl_ip h c12
        exact tz_fg (ls2 := [some (.ref a1), some (.int x2), none, some (.int x4), none, some (.int x5), none, none, none, none, none]) (And.intro rfl (And.intro rfl (And.intro rfl (And.intro rfl trivial)))) (tz_wd (k2 := 54) (Nat.le_of_ble_eq_true rfl) (lL_refuses_p1139 h1 h))

theorem lL_refuses_p1051 {E : tl_E} {a1 : Nat} {x2 : Int32} {x3 : Int32} {x4 : Int32} {x5 : Int32} {x6 : Int32} {x7 : Int32} {x8 : Int32} {x9 : Int32} {a10 : Nat} {u : tz_U} {r : Int32} {v : tz_U} (h1 : tz_on E a1) (h10 : tz_on E a10) (h : fL_refuses_p1051 a1 x2 x3 x4 x5 x6 x7 x8 x9 a10 u = some (r, v)) : tz_R E mL_refuses tl_X0 (tl_Z E mL_refuses (tz_Q E r v)) 49 (tz_HU E u) 1051 [some (.ref a1), some (.int x2), some (.int x3), some (.int x4), none, some (.int x5), none, none, none, none, none] [.int x6, .int x7, .int x8, .int x9, .ref a10] := by
  unfold fL_refuses_p1051 at h
  obtain ⟨x11, u13, e12, h⟩ := tl_b2i h
  refine tz_cS5 (lL_call h10 e12) dL_refuses_1051 cs_L_refuses_189 (c := 1) ⟨rfl, rfl⟩ (k2 := 50) (Nat.le_of_ble_eq_true rfl) (CM := 56) ⟨Nat.le_of_ble_eq_true rfl, Nat.le_of_ble_eq_true rfl⟩ (Nat.le_of_ble_eq_true rfl) (Nat.le_of_ble_eq_true rfl) (tl_ldc dL_refuses_1054 kc_L_18 (tl_icmp_ne (tgt := 1112) dL_refuses_1056 (by decide) (fun c14 => ?_) (fun c14 => ?_)))
  · replace h := tl_in h c14
    refine tl_iconst (v := 0) dL_refuses_1112 ic_0 (tl_istore dL_refuses_1113 (Nat.le_of_ble_eq_true rfl) (?_))
    exact tz_fg (ls2 := [some (.ref a1), some (.int x2), some (.int x3), some (.int x4), none, some (.int x5), none, none, none, none, some (.int 0)]) (And.intro rfl (And.intro rfl (And.intro rfl (And.intro rfl (And.intro rfl (And.intro rfl trivial)))))) (tz_wd (k2 := 53) (Nat.le_of_ble_eq_true rfl) (lL_refuses_p1115 h1 h))
  · replace h := tl_ip h c14
    refine tl_iload dL_refuses_1059 rfl (tl_bipush (v := 6) dL_refuses_1061 bp_6 (tl_icmp_lt (tgt := 1108) dL_refuses_1063 (by decide) (fun c15 => ?_) (fun c15 => ?_)))
    · replace h := tl_ip h c15
      refine tl_iconst (v := 1) dL_refuses_1108 ic_1 (tl_goto (tgt := 1113) dL_refuses_1109 (by decide) (tl_istore dL_refuses_1113 (Nat.le_of_ble_eq_true rfl) (?_)))
      exact tz_fg (ls2 := [some (.ref a1), some (.int x2), some (.int x3), some (.int x4), none, some (.int x5), none, none, none, none, some (.int 1)]) (And.intro rfl (And.intro rfl (And.intro rfl (And.intro rfl (And.intro rfl (And.intro rfl trivial)))))) (tz_wd (k2 := 53) (Nat.le_of_ble_eq_true rfl) (lL_refuses_p1115 h1 h))
    · replace h := tl_in h c15
      obtain ⟨x16, u18, e17, h⟩ := tl_b2i h
      refine tl_aload_n dL_refuses_1066 rfl (tl_bipush (v := 13) dL_refuses_1067 bp_13 (tl_iconst (v := 0) dL_refuses_1069 ic_0 (tl_iconst (v := 0) dL_refuses_1070 ic_0 (tl_iconst (v := 0) dL_refuses_1071 ic_0 (tz_cS5 (lL_call h1 e17) dL_refuses_1072 cs_L_refuses_189 (c := 1) ⟨rfl, rfl⟩ (k2 := 51) (Nat.le_of_ble_eq_true rfl) (CM := 56) ⟨Nat.le_of_ble_eq_true rfl, Nat.le_of_ble_eq_true rfl⟩ (Nat.le_of_ble_eq_true rfl) (Nat.le_of_ble_eq_true rfl) (tl_ldc dL_refuses_1075 kc_L_21 (tl_icmp_ne (tgt := 1112) dL_refuses_1077 (by decide) (fun c19 => ?_) (fun c19 => ?_))))))))
      · replace h := tl_in h c19
        refine tl_iconst (v := 0) dL_refuses_1112 ic_0 (tl_istore dL_refuses_1113 (Nat.le_of_ble_eq_true rfl) (?_))
        exact tz_fg (ls2 := [some (.ref a1), some (.int x2), some (.int x3), some (.int x4), none, some (.int x5), none, none, none, none, some (.int 0)]) (And.intro rfl (And.intro rfl (And.intro rfl (And.intro rfl (And.intro rfl (And.intro rfl trivial)))))) (tz_wd (k2 := 53) (Nat.le_of_ble_eq_true rfl) (lL_refuses_p1115 h1 h))
      · replace h := tl_ip h c19
        obtain ⟨x20, u22, e21, h⟩ := tl_b2i h
        refine tl_aload_n dL_refuses_1080 rfl (tl_bipush (v := 14) dL_refuses_1081 bp_14 (tl_iconst (v := 0) dL_refuses_1083 ic_0 (tl_iconst (v := 5) dL_refuses_1084 ic_5 (tl_iconst (v := 0) dL_refuses_1085 ic_0 (tz_cS5 (lL_call h1 e21) dL_refuses_1086 cs_L_refuses_189 (c := 1) ⟨rfl, rfl⟩ (k2 := 52) (Nat.le_of_ble_eq_true rfl) (CM := 56) ⟨Nat.le_of_ble_eq_true rfl, Nat.le_of_ble_eq_true rfl⟩ (Nat.le_of_ble_eq_true rfl) (Nat.le_of_ble_eq_true rfl) (tl_ldc dL_refuses_1089 kc_L_21 (tl_icmp_ne (tgt := 1112) dL_refuses_1091 (by decide) (fun c23 => ?_) (fun c23 => ?_))))))))
        · replace h := tl_in h c23
          refine tl_iconst (v := 0) dL_refuses_1112 ic_0 (tl_istore dL_refuses_1113 (Nat.le_of_ble_eq_true rfl) (?_))
          exact tz_fg (ls2 := [some (.ref a1), some (.int x2), some (.int x3), some (.int x4), none, some (.int x5), none, none, none, none, some (.int 0)]) (And.intro rfl (And.intro rfl (And.intro rfl (And.intro rfl (And.intro rfl (And.intro rfl trivial)))))) (tz_wd (k2 := 53) (Nat.le_of_ble_eq_true rfl) (lL_refuses_p1115 h1 h))
        · replace h := tl_ip h c23
          obtain ⟨x24, u26, e25, h⟩ := tl_b2i h
          refine tl_aload_n dL_refuses_1094 rfl (tl_bipush (v := 21) dL_refuses_1095 bp_21 (tl_iconst (v := 0) dL_refuses_1097 ic_0 (tl_iconst (v := 0) dL_refuses_1098 ic_0 (tl_iconst (v := 5) dL_refuses_1099 ic_5 (tz_cS5 (lL_call h1 e25) dL_refuses_1100 cs_L_refuses_189 (c := 1) ⟨rfl, rfl⟩ (k2 := 53) (Nat.le_of_ble_eq_true rfl) (CM := 56) ⟨Nat.le_of_ble_eq_true rfl, Nat.le_of_ble_eq_true rfl⟩ (Nat.le_of_ble_eq_true rfl) (Nat.le_of_ble_eq_true rfl) (tl_ldc dL_refuses_1103 kc_L_21 (tl_icmp_ne (tgt := 1112) dL_refuses_1105 (by decide) (fun c27 => ?_) (fun c27 => ?_))))))))
          · replace h := tl_in h c27
            refine tl_iconst (v := 0) dL_refuses_1112 ic_0 (tl_istore dL_refuses_1113 (Nat.le_of_ble_eq_true rfl) (?_))
            exact tz_fg (ls2 := [some (.ref a1), some (.int x2), some (.int x3), some (.int x4), none, some (.int x5), none, none, none, none, some (.int 0)]) (And.intro rfl (And.intro rfl (And.intro rfl (And.intro rfl (And.intro rfl (And.intro rfl trivial)))))) (tz_wd (k2 := 53) (Nat.le_of_ble_eq_true rfl) (lL_refuses_p1115 h1 h))
          · replace h := tl_ip h c27
            refine tl_iconst (v := 1) dL_refuses_1108 ic_1 (tl_goto (tgt := 1113) dL_refuses_1109 (by decide) (tl_istore dL_refuses_1113 (Nat.le_of_ble_eq_true rfl) (?_)))
            exact tz_fg (ls2 := [some (.ref a1), some (.int x2), some (.int x3), some (.int x4), none, some (.int x5), none, none, none, none, some (.int 1)]) (And.intro rfl (And.intro rfl (And.intro rfl (And.intro rfl (And.intro rfl (And.intro rfl trivial)))))) (tz_wd (k2 := 53) (Nat.le_of_ble_eq_true rfl) (lL_refuses_p1115 h1 h))

theorem lL_refuses_p1020 {E : tl_E} {a1 : Nat} {x2 : Int32} {x3 : Int32} {x4 : Int32} {x5 : Int32} {x6 : Int32} {x7 : Int32} {x8 : Int32} {a9 : Nat} {u : tz_U} {r : Int32} {v : tz_U} (h1 : tz_on E a1) (h9 : tz_on E a9) (h : fL_refuses_p1020 a1 x2 x3 x4 x5 x6 x7 x8 a9 u = some (r, v)) : tz_R E mL_refuses tl_X0 (tl_Z E mL_refuses (tz_Q E r v)) 48 (tz_HU E u) 1020 [some (.ref a1), some (.int x2), some (.int x3), some (.int x4), none, some (.int x5), none, none, none, none, none] [.int x6, .int x7, .int x8, .ref a9] := by
  unfold fL_refuses_p1020 at h
  obtain ⟨x10, u12, e11, h⟩ := tl_b2i h
  refine tl_iconst (v := 0) dL_refuses_1020 ic_0 (tz_cS5 (lL_call h9 e11) dL_refuses_1021 cs_L_refuses_189 (c := 1) ⟨rfl, rfl⟩ (k2 := 49) (Nat.le_of_ble_eq_true rfl) (CM := 56) ⟨Nat.le_of_ble_eq_true rfl, Nat.le_of_ble_eq_true rfl⟩ (Nat.le_of_ble_eq_true rfl) (Nat.le_of_ble_eq_true rfl) (tl_ldc dL_refuses_1024 kc_L_18 (tl_icmp_ne (tgt := 1112) dL_refuses_1026 (by decide) (fun c13 => ?_) (fun c13 => ?_))))
  · replace h := tl_in h c13
    refine tl_iconst (v := 0) dL_refuses_1112 ic_0 (tl_istore dL_refuses_1113 (Nat.le_of_ble_eq_true rfl) (?_))
    exact tz_fg (ls2 := [some (.ref a1), some (.int x2), some (.int x3), some (.int x4), none, some (.int x5), none, none, none, none, some (.int 0)]) (And.intro rfl (And.intro rfl (And.intro rfl (And.intro rfl (And.intro rfl (And.intro rfl trivial)))))) (tz_wd (k2 := 53) (Nat.le_of_ble_eq_true rfl) (lL_refuses_p1115 h1 h))
  · replace h := tl_ip h c13
    refine tl_aload_n dL_refuses_1029 rfl (tl_bipush (v := 21) dL_refuses_1030 bp_21 (tl_iconst (v := 0) dL_refuses_1032 ic_0 (tl_iconst (v := 0) dL_refuses_1033 ic_0 (tl_iload_n dL_refuses_1034 rfl (tl_iconst (v := 2) dL_refuses_1035 ic_2 (tl_irem dL_refuses_1036 (by decide) (tl_if_ne (tgt := 1044) dL_refuses_1037 (by decide) (fun c14 => ?_) (fun c14 => ?_))))))))
    · replace h := tl_in h c14
      refine tl_bipush (v := 101) dL_refuses_1044 bp_101 (tl_iload_n dL_refuses_1046 rfl (tl_bipush (v := 9) dL_refuses_1047 bp_9 (tl_irem dL_refuses_1049 (by decide) (tl_iadd dL_refuses_1050 (?_)))))
      exact tz_fg (ls2 := [some (.ref a1), some (.int x2), some (.int x3), some (.int x4), none, some (.int x5), none, none, none, none, none]) (And.intro rfl (And.intro rfl (And.intro rfl (And.intro rfl (And.intro rfl trivial))))) (tz_wd (k2 := 49) (Nat.le_of_ble_eq_true rfl) (lL_refuses_p1051 h1 h1 h))
    · replace h := tl_ip h c14
      refine tl_iconst (v := 0) dL_refuses_1040 ic_0 (tl_goto (tgt := 1051) dL_refuses_1041 (by decide) (?_))
      exact tz_fg (ls2 := [some (.ref a1), some (.int x2), some (.int x3), some (.int x4), none, some (.int x5), none, none, none, none, none]) (And.intro rfl (And.intro rfl (And.intro rfl (And.intro rfl (And.intro rfl trivial))))) (tz_wd (k2 := 49) (Nat.le_of_ble_eq_true rfl) (lL_refuses_p1051 h1 h1 h))

theorem lL_refuses_p969 {E : tl_E} {a1 : Nat} {x2 : Int32} {x3 : Int32} {x4 : Int32} {x5 : Int32} {x6 : Int32} {x7 : Int32} {u : tz_U} {r : Int32} {v : tz_U} (h1 : tz_on E a1) (h : fL_refuses_p969 a1 x2 x3 x4 x5 x6 x7 u = some (r, v)) : tz_R E mL_refuses tl_X0 (tl_Z E mL_refuses (tz_Q E r v)) 47 (tz_HU E u) 969 [some (.ref a1), some (.int x2), some (.int x3), some (.int x4), some (.int x5), some (.int x6), none, none, none, none, none] [.int x7] := by
  unfold fL_refuses_p969 at h
  refine tl_istore dL_refuses_969 (Nat.le_of_ble_eq_true rfl) (tl_iload dL_refuses_971 rfl (tl_if_le (tgt := 1115) dL_refuses_973 (by decide) (fun c8 => ?_) (fun c8 => ?_)))
  · replace h := tl_ip h c8
    exact tz_fg (ls2 := [some (.ref a1), some (.int x2), some (.int x3), some (.int x4), none, some (.int x6), none, none, none, none, some (.int x7)]) (And.intro rfl (And.intro rfl (And.intro rfl (And.intro rfl (And.intro rfl (And.intro rfl trivial)))))) (tz_wd (k2 := 53) (Nat.le_of_ble_eq_true rfl) (lL_refuses_p1115 h1 h))
  · replace h := tl_in h c8
    refine tl_iload dL_refuses_976 rfl (tl_if_eq (tgt := 1112) dL_refuses_978 (by decide) (fun c9 => ?_) (fun c9 => ?_))
    · replace h := tl_ip h c9
      refine tl_iconst (v := 0) dL_refuses_1112 ic_0 (tl_istore dL_refuses_1113 (Nat.le_of_ble_eq_true rfl) (?_))
      exact tz_fg (ls2 := [some (.ref a1), some (.int x2), some (.int x3), some (.int x4), none, some (.int x6), none, none, none, none, some (.int 0)]) (And.intro rfl (And.intro rfl (And.intro rfl (And.intro rfl (And.intro rfl (And.intro rfl trivial)))))) (tz_wd (k2 := 53) (Nat.le_of_ble_eq_true rfl) (lL_refuses_p1115 h1 h))
    · replace h := tl_in h c9
      obtain ⟨x10, u12, e11, h⟩ := tl_b2i h
      refine tl_aload_n dL_refuses_981 rfl (tl_iconst (v := 5) dL_refuses_982 ic_5 (tl_iconst (v := 0) dL_refuses_983 ic_0 (tl_iconst (v := 5) dL_refuses_984 ic_5 (tl_iload_n dL_refuses_985 rfl (tl_bipush (v := 9) dL_refuses_986 bp_9 (tl_irem dL_refuses_988 (by decide) (tl_iadd dL_refuses_989 (tl_iconst (v := 0) dL_refuses_990 ic_0 (tz_cS5 (lL_call h1 e11) dL_refuses_991 cs_L_refuses_189 (c := 1) ⟨rfl, rfl⟩ (k2 := 48) (Nat.le_of_ble_eq_true rfl) (CM := 56) ⟨Nat.le_of_ble_eq_true rfl, Nat.le_of_ble_eq_true rfl⟩ (Nat.le_of_ble_eq_true rfl) (Nat.le_of_ble_eq_true rfl) (tl_ldc dL_refuses_994 kc_L_18 (tl_icmp_ne (tgt := 1112) dL_refuses_996 (by decide) (fun c13 => ?_) (fun c13 => ?_))))))))))))
      · replace h := tl_in h c13
        refine tl_iconst (v := 0) dL_refuses_1112 ic_0 (tl_istore dL_refuses_1113 (Nat.le_of_ble_eq_true rfl) (?_))
        exact tz_fg (ls2 := [some (.ref a1), some (.int x2), some (.int x3), some (.int x4), none, some (.int x6), none, none, none, none, some (.int 0)]) (And.intro rfl (And.intro rfl (And.intro rfl (And.intro rfl (And.intro rfl (And.intro rfl trivial)))))) (tz_wd (k2 := 53) (Nat.le_of_ble_eq_true rfl) (lL_refuses_p1115 h1 h))
      · replace h := tl_ip h c13
        refine tl_aload_n dL_refuses_999 rfl (tl_bipush (v := 14) dL_refuses_1000 bp_14 (tl_iconst (v := 0) dL_refuses_1002 ic_0 (tl_iload_n dL_refuses_1003 rfl (tl_iconst (v := 2) dL_refuses_1004 ic_2 (tl_irem dL_refuses_1005 (by decide) (tl_if_ne (tgt := 1013) dL_refuses_1006 (by decide) (fun c14 => ?_) (fun c14 => ?_)))))))
        · replace h := tl_in h c14
          refine tl_bipush (v := 100) dL_refuses_1013 bp_100 (tl_iload_n dL_refuses_1015 rfl (tl_bipush (v := 9) dL_refuses_1016 bp_9 (tl_irem dL_refuses_1018 (by decide) (tl_iadd dL_refuses_1019 (?_)))))
          exact tz_fg (ls2 := [some (.ref a1), some (.int x2), some (.int x3), some (.int x4), none, some (.int x6), none, none, none, none, none]) (And.intro rfl (And.intro rfl (And.intro rfl (And.intro rfl (And.intro rfl trivial))))) (tz_wd (k2 := 48) (Nat.le_of_ble_eq_true rfl) (lL_refuses_p1020 h1 h1 h))
        · replace h := tl_ip h c14
          refine tl_iconst (v := 0) dL_refuses_1009 ic_0 (tl_goto (tgt := 1020) dL_refuses_1010 (by decide) (?_))
          exact tz_fg (ls2 := [some (.ref a1), some (.int x2), some (.int x3), some (.int x4), none, some (.int x6), none, none, none, none, none]) (And.intro rfl (And.intro rfl (And.intro rfl (And.intro rfl (And.intro rfl trivial))))) (tz_wd (k2 := 48) (Nat.le_of_ble_eq_true rfl) (lL_refuses_p1020 h1 h1 h))

theorem lL_refuses_p946 {E : tl_E} {a1 : Nat} {x2 : Int32} {x3 : Int32} {x4 : Int32} {x5 : Int32} {x6 : Int32} {u : tz_U} {r : Int32} {v : tz_U} (h1 : tz_on E a1) (h : fL_refuses_p946 a1 x2 x3 x4 x5 x6 u = some (r, v)) : tz_R E mL_refuses tl_X0 (tl_Z E mL_refuses (tz_Q E r v)) 46 (tz_HU E u) 946 [some (.ref a1), some (.int x2), some (.int x3), some (.int x4), some (.int x5), some (.int x6), none, none, none, none, none] [] := by
  unfold fL_refuses_p946 at h
  obtain ⟨x7, u9, e8, h⟩ := tl_b2i h
  refine tl_aload_n dL_refuses_946 rfl (tl_iload_n dL_refuses_947 rfl (tl_i2l dL_refuses_948 (tl_bipush (v := 61) dL_refuses_949 bp_61 (tl_iload_n dL_refuses_951 rfl (tl_bipush (v := 9) dL_refuses_952 bp_9 (tl_irem dL_refuses_954 (by decide) (tl_iadd dL_refuses_955 (tz_cH3 (lL_doSimulate h1 e8) dL_refuses_956 cs_L_refuses_205 (c := 1) ⟨rfl, rfl⟩ (k2 := 47) (Nat.le_of_ble_eq_true rfl) (CM := 56) ⟨Nat.le_of_ble_eq_true rfl, Nat.le_of_ble_eq_true rfl⟩ (Nat.le_of_ble_eq_true rfl) (Nat.le_of_ble_eq_true rfl) (tl_ldc dL_refuses_959 kc_L_18 (tl_icmp_ne (tgt := 968) dL_refuses_961 (by decide) (fun c10 => ?_) (fun c10 => ?_)))))))))))
  · replace h := tl_in h c10
    refine tl_iconst (v := 0) dL_refuses_968 ic_0 (?_)
    exact tz_fg (ls2 := [some (.ref a1), some (.int x2), some (.int x3), some (.int x4), some (.int x5), some (.int x6), none, none, none, none, none]) (And.intro rfl (And.intro rfl (And.intro rfl (And.intro rfl (And.intro rfl (And.intro rfl trivial)))))) (tz_wd (k2 := 47) (Nat.le_of_ble_eq_true rfl) (lL_refuses_p969 h1 h))
  · replace h := tl_ip h c10
    refine tl_iconst (v := 1) dL_refuses_964 ic_1 (tl_goto (tgt := 969) dL_refuses_965 (by decide) (?_))
    exact tz_fg (ls2 := [some (.ref a1), some (.int x2), some (.int x3), some (.int x4), some (.int x5), some (.int x6), none, none, none, none, none]) (And.intro rfl (And.intro rfl (And.intro rfl (And.intro rfl (And.intro rfl (And.intro rfl trivial)))))) (tz_wd (k2 := 47) (Nat.le_of_ble_eq_true rfl) (lL_refuses_p969 h1 h))

theorem lL_refuses_p800 {E : tl_E} {a1 : Nat} {x2 : Int32} {x3 : Int32} {x4 : Int32} {x5 : Int32} {x6 : Int32} {x7 : Int32} {x8 : Int32} {x9 : Int32} {x10 : Int32} {x11 : Int32} {x12 : Int32} {a13 : Nat} {u : tz_U} {r : Int32} {v : tz_U} (h1 : tz_on E a1) (h13 : tz_on E a13) (h : fL_refuses_p800 a1 x2 x3 x4 x5 x6 x7 x8 x9 x10 x11 x12 a13 u = some (r, v)) : tz_R E mL_refuses tl_X0 (tl_Z E mL_refuses (tz_Q E r v)) 36 (tz_HU E u) 800 [some (.ref a1), some (.int x2), some (.int x3), some (.int x4), some (.int x5), some (.int x6), some (.int x7), none, some (.int x8), some (.int x9), none] [.int x10, .int x11, .int x12, .ref a13] := by
  unfold fL_refuses_p800 at h
  obtain ⟨x14, u16, e15, h⟩ := tl_b2i h
  refine tl_iconst (v := 0) dL_refuses_800 ic_0 (tz_cS5 (lL_call h13 e15) dL_refuses_801 cs_L_refuses_189 (c := 1) ⟨rfl, rfl⟩ (k2 := 37) (Nat.le_of_ble_eq_true rfl) (CM := 56) ⟨Nat.le_of_ble_eq_true rfl, Nat.le_of_ble_eq_true rfl⟩ (Nat.le_of_ble_eq_true rfl) (Nat.le_of_ble_eq_true rfl) (tl_ldc dL_refuses_804 kc_L_18 (tl_icmp_ne (tgt := 968) dL_refuses_806 (by decide) (fun c17 => ?_) (fun c17 => ?_))))
  · replace h := tl_in h c17
    refine tl_iconst (v := 0) dL_refuses_968 ic_0 (?_)
    exact tz_fg (ls2 := [some (.ref a1), some (.int x2), some (.int x3), some (.int x4), some (.int x5), some (.int x6), none, none, none, none, none]) (And.intro rfl (And.intro rfl (And.intro rfl (And.intro rfl (And.intro rfl (And.intro rfl trivial)))))) (tz_wd (k2 := 47) (Nat.le_of_ble_eq_true rfl) (lL_refuses_p969 h1 h))
  · replace h := tl_ip h c17
    obtain ⟨x18, u20, e19, h⟩ := tl_b2i h
    refine tl_aload_n dL_refuses_809 rfl (tl_bipush (v := 21) dL_refuses_810 bp_21 (tl_iload dL_refuses_812 rfl (tl_iconst (v := 0) dL_refuses_814 ic_0 (tl_iconst (v := 0) dL_refuses_815 ic_0 (tz_cS5 (lL_call h1 e19) dL_refuses_816 cs_L_refuses_189 (c := 1) ⟨rfl, rfl⟩ (k2 := 38) (Nat.le_of_ble_eq_true rfl) (CM := 56) ⟨Nat.le_of_ble_eq_true rfl, Nat.le_of_ble_eq_true rfl⟩ (Nat.le_of_ble_eq_true rfl) (Nat.le_of_ble_eq_true rfl) (tl_ldc dL_refuses_819 kc_L_15 (tl_icmp_ne (tgt := 968) dL_refuses_821 (by decide) (fun c21 => ?_) (fun c21 => ?_))))))))
    · replace h := tl_in h c21
      refine tl_iconst (v := 0) dL_refuses_968 ic_0 (?_)
      exact tz_fg (ls2 := [some (.ref a1), some (.int x2), some (.int x3), some (.int x4), some (.int x5), some (.int x6), none, none, none, none, none]) (And.intro rfl (And.intro rfl (And.intro rfl (And.intro rfl (And.intro rfl (And.intro rfl trivial)))))) (tz_wd (k2 := 47) (Nat.le_of_ble_eq_true rfl) (lL_refuses_p969 h1 h))
    · replace h := tl_ip h c21
      obtain ⟨x22, u24, e23, h⟩ := tl_b2i h
      refine tl_aload_n dL_refuses_824 rfl (tl_bipush (v := 21) dL_refuses_825 bp_21 (tl_iconst (v := 0) dL_refuses_827 ic_0 (tl_iload dL_refuses_828 rfl (tl_iconst (v := 0) dL_refuses_830 ic_0 (tz_cS5 (lL_call h1 e23) dL_refuses_831 cs_L_refuses_189 (c := 1) ⟨rfl, rfl⟩ (k2 := 39) (Nat.le_of_ble_eq_true rfl) (CM := 56) ⟨Nat.le_of_ble_eq_true rfl, Nat.le_of_ble_eq_true rfl⟩ (Nat.le_of_ble_eq_true rfl) (Nat.le_of_ble_eq_true rfl) (tl_ldc dL_refuses_834 kc_L_15 (tl_icmp_ne (tgt := 968) dL_refuses_836 (by decide) (fun c25 => ?_) (fun c25 => ?_))))))))
      · replace h := tl_in h c25
        refine tl_iconst (v := 0) dL_refuses_968 ic_0 (?_)
        exact tz_fg (ls2 := [some (.ref a1), some (.int x2), some (.int x3), some (.int x4), some (.int x5), some (.int x6), none, none, none, none, none]) (And.intro rfl (And.intro rfl (And.intro rfl (And.intro rfl (And.intro rfl (And.intro rfl trivial)))))) (tz_wd (k2 := 47) (Nat.le_of_ble_eq_true rfl) (lL_refuses_p969 h1 h))
      · replace h := tl_ip h c25
        obtain ⟨x26, u28, e27, h⟩ := tl_b2i h
        refine tl_aload_n dL_refuses_839 rfl (tl_iload dL_refuses_840 rfl (tl_iconst (v := 0) dL_refuses_842 ic_0 (tl_iconst (v := 0) dL_refuses_843 ic_0 (tl_iconst (v := 0) dL_refuses_844 ic_0 (tz_cH5 (lL_ways h1 e27) dL_refuses_845 cs_L_refuses_196 (c := 1) ⟨rfl, rfl⟩ (k2 := 40) (Nat.le_of_ble_eq_true rfl) (CM := 56) ⟨Nat.le_of_ble_eq_true rfl, Nat.le_of_ble_eq_true rfl⟩ (Nat.le_of_ble_eq_true rfl) (Nat.le_of_ble_eq_true rfl) (tl_ldc dL_refuses_848 kc_L_15 (tl_icmp_ne (tgt := 968) dL_refuses_850 (by decide) (fun c29 => ?_) (fun c29 => ?_))))))))
        · replace h := tl_in h c29
          refine tl_iconst (v := 0) dL_refuses_968 ic_0 (?_)
          exact tz_fg (ls2 := [some (.ref a1), some (.int x2), some (.int x3), some (.int x4), some (.int x5), some (.int x6), none, none, none, none, none]) (And.intro rfl (And.intro rfl (And.intro rfl (And.intro rfl (And.intro rfl (And.intro rfl trivial)))))) (tz_wd (k2 := 47) (Nat.le_of_ble_eq_true rfl) (lL_refuses_p969 h1 h))
        · replace h := tl_ip h c29
          obtain ⟨x30, u32, e31, h⟩ := tl_b2i h
          refine tl_aload_n dL_refuses_853 rfl (tl_iconst (v := 0) dL_refuses_854 ic_0 (tl_iload dL_refuses_855 rfl (tl_iconst (v := 0) dL_refuses_857 ic_0 (tl_iconst (v := 0) dL_refuses_858 ic_0 (tz_cH5 (lL_ways h1 e31) dL_refuses_859 cs_L_refuses_196 (c := 1) ⟨rfl, rfl⟩ (k2 := 41) (Nat.le_of_ble_eq_true rfl) (CM := 56) ⟨Nat.le_of_ble_eq_true rfl, Nat.le_of_ble_eq_true rfl⟩ (Nat.le_of_ble_eq_true rfl) (Nat.le_of_ble_eq_true rfl) (tl_ldc dL_refuses_862 kc_L_15 (tl_icmp_ne (tgt := 968) dL_refuses_864 (by decide) (fun c33 => ?_) (fun c33 => ?_))))))))
          · replace h := tl_in h c33
            refine tl_iconst (v := 0) dL_refuses_968 ic_0 (?_)
            exact tz_fg (ls2 := [some (.ref a1), some (.int x2), some (.int x3), some (.int x4), some (.int x5), some (.int x6), none, none, none, none, none]) (And.intro rfl (And.intro rfl (And.intro rfl (And.intro rfl (And.intro rfl (And.intro rfl trivial)))))) (tz_wd (k2 := 47) (Nat.le_of_ble_eq_true rfl) (lL_refuses_p969 h1 h))
          · replace h := tl_ip h c33
            obtain ⟨x34, u36, e35, h⟩ := tl_b2i h
            refine tl_aload_n dL_refuses_867 rfl (tl_iconst (v := 0) dL_refuses_868 ic_0 (tl_iconst (v := 0) dL_refuses_869 ic_0 (tl_iconst (v := 0) dL_refuses_870 ic_0 (tl_iload dL_refuses_871 rfl (tz_cH5 (lL_ways h1 e35) dL_refuses_873 cs_L_refuses_196 (c := 1) ⟨rfl, rfl⟩ (k2 := 42) (Nat.le_of_ble_eq_true rfl) (CM := 56) ⟨Nat.le_of_ble_eq_true rfl, Nat.le_of_ble_eq_true rfl⟩ (Nat.le_of_ble_eq_true rfl) (Nat.le_of_ble_eq_true rfl) (tl_ldc dL_refuses_876 kc_L_15 (tl_icmp_ne (tgt := 968) dL_refuses_878 (by decide) (fun c37 => ?_) (fun c37 => ?_))))))))
            · replace h := tl_in h c37
              refine tl_iconst (v := 0) dL_refuses_968 ic_0 (?_)
              exact tz_fg (ls2 := [some (.ref a1), some (.int x2), some (.int x3), some (.int x4), some (.int x5), some (.int x6), none, none, none, none, none]) (And.intro rfl (And.intro rfl (And.intro rfl (And.intro rfl (And.intro rfl (And.intro rfl trivial)))))) (tz_wd (k2 := 47) (Nat.le_of_ble_eq_true rfl) (lL_refuses_p969 h1 h))
            · replace h := tl_ip h c37
              obtain ⟨x38, u40, e39, h⟩ := tl_b2i h
              refine tl_aload_n dL_refuses_881 rfl (tl_bipush (v := 22) dL_refuses_882 bp_22 (tl_iconst (v := 2) dL_refuses_884 ic_2 (tl_iload_n dL_refuses_885 rfl (tl_bipush (v := 50) dL_refuses_886 bp_50 (tl_irem dL_refuses_888 (by decide) (tl_iadd dL_refuses_889 (tl_iconst (v := 0) dL_refuses_890 ic_0 (tl_iconst (v := 0) dL_refuses_891 ic_0 (tz_cS5 (lL_call h1 e39) dL_refuses_892 cs_L_refuses_189 (c := 1) ⟨rfl, rfl⟩ (k2 := 43) (Nat.le_of_ble_eq_true rfl) (CM := 56) ⟨Nat.le_of_ble_eq_true rfl, Nat.le_of_ble_eq_true rfl⟩ (Nat.le_of_ble_eq_true rfl) (Nat.le_of_ble_eq_true rfl) (tl_ldc dL_refuses_895 kc_L_15 (tl_icmp_ne (tgt := 968) dL_refuses_897 (by decide) (fun c41 => ?_) (fun c41 => ?_))))))))))))
              · replace h := tl_in h c41
                refine tl_iconst (v := 0) dL_refuses_968 ic_0 (?_)
                exact tz_fg (ls2 := [some (.ref a1), some (.int x2), some (.int x3), some (.int x4), some (.int x5), some (.int x6), none, none, none, none, none]) (And.intro rfl (And.intro rfl (And.intro rfl (And.intro rfl (And.intro rfl (And.intro rfl trivial)))))) (tz_wd (k2 := 47) (Nat.le_of_ble_eq_true rfl) (lL_refuses_p969 h1 h))
              · replace h := tl_ip h c41
                obtain ⟨x42, u44, e43, h⟩ := tl_b2i h
                refine tl_aload_n dL_refuses_900 rfl (tl_bipush (v := 23) dL_refuses_901 bp_23 (tl_iconst (v := (-1)) dL_refuses_903 ic_m1 (tl_iload_n dL_refuses_904 rfl (tl_bipush (v := 9) dL_refuses_905 bp_9 (tl_irem dL_refuses_907 (by decide) (tl_isub dL_refuses_908 (tl_iconst (v := 0) dL_refuses_909 ic_0 (tl_iconst (v := 0) dL_refuses_910 ic_0 (tz_cS5 (lL_call h1 e43) dL_refuses_911 cs_L_refuses_189 (c := 1) ⟨rfl, rfl⟩ (k2 := 44) (Nat.le_of_ble_eq_true rfl) (CM := 56) ⟨Nat.le_of_ble_eq_true rfl, Nat.le_of_ble_eq_true rfl⟩ (Nat.le_of_ble_eq_true rfl) (Nat.le_of_ble_eq_true rfl) (tl_ldc dL_refuses_914 kc_L_15 (tl_icmp_ne (tgt := 968) dL_refuses_916 (by decide) (fun c45 => ?_) (fun c45 => ?_))))))))))))
                · replace h := tl_in h c45
                  refine tl_iconst (v := 0) dL_refuses_968 ic_0 (?_)
                  exact tz_fg (ls2 := [some (.ref a1), some (.int x2), some (.int x3), some (.int x4), some (.int x5), some (.int x6), none, none, none, none, none]) (And.intro rfl (And.intro rfl (And.intro rfl (And.intro rfl (And.intro rfl (And.intro rfl trivial)))))) (tz_wd (k2 := 47) (Nat.le_of_ble_eq_true rfl) (lL_refuses_p969 h1 h))
                · replace h := tl_ip h c45
                  obtain ⟨x46, u48, e47, h⟩ := tl_b2i h
                  refine tl_aload_n dL_refuses_919 rfl (tl_iconst (v := 0) dL_refuses_920 ic_0 (tl_lconst (v := 0) dL_refuses_921 lc_0 (tz_cH3 (lL_doScript h1 e47) dL_refuses_922 cs_L_refuses_199 (c := 1) ⟨rfl, rfl⟩ (k2 := 45) (Nat.le_of_ble_eq_true rfl) (CM := 56) ⟨Nat.le_of_ble_eq_true rfl, Nat.le_of_ble_eq_true rfl⟩ (Nat.le_of_ble_eq_true rfl) (Nat.le_of_ble_eq_true rfl) (tl_ldc dL_refuses_925 kc_L_18 (tl_icmp_ne (tgt := 968) dL_refuses_927 (by decide) (fun c49 => ?_) (fun c49 => ?_))))))
                  · replace h := tl_in h c49
                    refine tl_iconst (v := 0) dL_refuses_968 ic_0 (?_)
                    exact tz_fg (ls2 := [some (.ref a1), some (.int x2), some (.int x3), some (.int x4), some (.int x5), some (.int x6), none, none, none, none, none]) (And.intro rfl (And.intro rfl (And.intro rfl (And.intro rfl (And.intro rfl (And.intro rfl trivial)))))) (tz_wd (k2 := 47) (Nat.le_of_ble_eq_true rfl) (lL_refuses_p969 h1 h))
                  · replace h := tl_ip h c49
                    obtain ⟨x50, u52, e51, h⟩ := tl_b2i h
                    refine tl_aload_n dL_refuses_930 rfl (tl_iconst (v := 1) dL_refuses_931 ic_1 (tl_ldc2 dL_refuses_932 kl_L_203 (tl_iload_n dL_refuses_935 rfl (tl_i2l dL_refuses_936 (tl_ladd dL_refuses_937 (tz_cH3 (lL_doScript h1 e51) dL_refuses_938 cs_L_refuses_199 (c := 1) ⟨rfl, rfl⟩ (k2 := 46) (Nat.le_of_ble_eq_true rfl) (CM := 56) ⟨Nat.le_of_ble_eq_true rfl, Nat.le_of_ble_eq_true rfl⟩ (Nat.le_of_ble_eq_true rfl) (Nat.le_of_ble_eq_true rfl) (tl_ldc dL_refuses_941 kc_L_18 (tl_icmp_ne (tgt := 968) dL_refuses_943 (by decide) (fun c53 => ?_) (fun c53 => ?_)))))))))
                    · replace h := tl_in h c53
                      refine tl_iconst (v := 0) dL_refuses_968 ic_0 (?_)
                      exact tz_fg (ls2 := [some (.ref a1), some (.int x2), some (.int x3), some (.int x4), some (.int x5), some (.int x6), none, none, none, none, none]) (And.intro rfl (And.intro rfl (And.intro rfl (And.intro rfl (And.intro rfl (And.intro rfl trivial)))))) (tz_wd (k2 := 47) (Nat.le_of_ble_eq_true rfl) (lL_refuses_p969 h1 h))
                    · replace h := tl_ip h c53
                      exact tz_fg (ls2 := [some (.ref a1), some (.int x2), some (.int x3), some (.int x4), some (.int x5), some (.int x6), none, none, none, none, none]) (And.intro rfl (And.intro rfl (And.intro rfl (And.intro rfl (And.intro rfl (And.intro rfl trivial)))))) (tz_wd (k2 := 46) (Nat.le_of_ble_eq_true rfl) (lL_refuses_p946 h1 h))

theorem lL_refuses_p738 {E : tl_E} {a1 : Nat} {x2 : Int32} {x3 : Int32} {x4 : Int32} {x5 : Int32} {x6 : Int32} {x7 : Int32} {x8 : Int32} {x9 : Int32} {x10 : Int32} {x11 : Int32} {a12 : Nat} {u : tz_U} {r : Int32} {v : tz_U} (h1 : tz_on E a1) (h12 : tz_on E a12) (h : fL_refuses_p738 a1 x2 x3 x4 x5 x6 x7 x8 x9 x10 x11 a12 u = some (r, v)) : tz_R E mL_refuses tl_X0 (tl_Z E mL_refuses (tz_Q E r v)) 33 (tz_HU E u) 738 [some (.ref a1), some (.int x2), some (.int x3), some (.int x4), some (.int x5), some (.int x6), some (.int x7), none, some (.int x8), some (.int x9), none] [.int x10, .int x11, .ref a12] := by
  unfold fL_refuses_p738 at h
  obtain ⟨x13, u15, e14, h⟩ := tl_b2i h
  refine tl_iconst (v := 0) dL_refuses_738 ic_0 (tl_iconst (v := 0) dL_refuses_739 ic_0 (tz_cS5 (lL_call h12 e14) dL_refuses_740 cs_L_refuses_189 (c := 1) ⟨rfl, rfl⟩ (k2 := 34) (Nat.le_of_ble_eq_true rfl) (CM := 56) ⟨Nat.le_of_ble_eq_true rfl, Nat.le_of_ble_eq_true rfl⟩ (Nat.le_of_ble_eq_true rfl) (Nat.le_of_ble_eq_true rfl) (tl_ldc dL_refuses_743 kc_L_18 (tl_icmp_ne (tgt := 968) dL_refuses_745 (by decide) (fun c16 => ?_) (fun c16 => ?_)))))
  · replace h := tl_in h c16
    refine tl_iconst (v := 0) dL_refuses_968 ic_0 (?_)
    exact tz_fg (ls2 := [some (.ref a1), some (.int x2), some (.int x3), some (.int x4), some (.int x5), some (.int x6), none, none, none, none, none]) (And.intro rfl (And.intro rfl (And.intro rfl (And.intro rfl (And.intro rfl (And.intro rfl trivial)))))) (tz_wd (k2 := 47) (Nat.le_of_ble_eq_true rfl) (lL_refuses_p969 h1 h))
  · replace h := tl_ip h c16
    obtain ⟨x17, u19, e18, h⟩ := tl_b2i h
    refine tl_aload_n dL_refuses_748 rfl (tl_bipush (v := 19) dL_refuses_749 bp_19 (tl_iload dL_refuses_751 rfl (tl_iconst (v := 0) dL_refuses_753 ic_0 (tl_iconst (v := 0) dL_refuses_754 ic_0 (tz_cS5 (lL_call h1 e18) dL_refuses_755 cs_L_refuses_189 (c := 1) ⟨rfl, rfl⟩ (k2 := 35) (Nat.le_of_ble_eq_true rfl) (CM := 56) ⟨Nat.le_of_ble_eq_true rfl, Nat.le_of_ble_eq_true rfl⟩ (Nat.le_of_ble_eq_true rfl) (Nat.le_of_ble_eq_true rfl) (tl_ldc dL_refuses_758 kc_L_15 (tl_icmp_ne (tgt := 968) dL_refuses_760 (by decide) (fun c20 => ?_) (fun c20 => ?_))))))))
    · replace h := tl_in h c20
      refine tl_iconst (v := 0) dL_refuses_968 ic_0 (?_)
      exact tz_fg (ls2 := [some (.ref a1), some (.int x2), some (.int x3), some (.int x4), some (.int x5), some (.int x6), none, none, none, none, none]) (And.intro rfl (And.intro rfl (And.intro rfl (And.intro rfl (And.intro rfl (And.intro rfl trivial)))))) (tz_wd (k2 := 47) (Nat.le_of_ble_eq_true rfl) (lL_refuses_p969 h1 h))
    · replace h := tl_ip h c20
      obtain ⟨x21, u23, e22, h⟩ := tl_b2i h
      refine tl_aload_n dL_refuses_763 rfl (tl_bipush (v := 20) dL_refuses_764 bp_20 (tl_iload dL_refuses_766 rfl (tl_iconst (v := 0) dL_refuses_768 ic_0 (tl_iconst (v := 0) dL_refuses_769 ic_0 (tz_cS5 (lL_call h1 e22) dL_refuses_770 cs_L_refuses_189 (c := 1) ⟨rfl, rfl⟩ (k2 := 36) (Nat.le_of_ble_eq_true rfl) (CM := 56) ⟨Nat.le_of_ble_eq_true rfl, Nat.le_of_ble_eq_true rfl⟩ (Nat.le_of_ble_eq_true rfl) (Nat.le_of_ble_eq_true rfl) (tl_ldc dL_refuses_773 kc_L_15 (tl_icmp_ne (tgt := 968) dL_refuses_775 (by decide) (fun c24 => ?_) (fun c24 => ?_))))))))
      · replace h := tl_in h c24
        refine tl_iconst (v := 0) dL_refuses_968 ic_0 (?_)
        exact tz_fg (ls2 := [some (.ref a1), some (.int x2), some (.int x3), some (.int x4), some (.int x5), some (.int x6), none, none, none, none, none]) (And.intro rfl (And.intro rfl (And.intro rfl (And.intro rfl (And.intro rfl (And.intro rfl trivial)))))) (tz_wd (k2 := 47) (Nat.le_of_ble_eq_true rfl) (lL_refuses_p969 h1 h))
      · replace h := tl_ip h c24
        refine tl_aload_n dL_refuses_778 rfl (tl_bipush (v := 20) dL_refuses_779 bp_20 (tl_iconst (v := 0) dL_refuses_781 ic_0 (tl_iload_n dL_refuses_782 rfl (tl_iconst (v := 2) dL_refuses_783 ic_2 (tl_irem dL_refuses_784 (by decide) (tl_if_ne (tgt := 792) dL_refuses_785 (by decide) (fun c25 => ?_) (fun c25 => ?_)))))))
        · replace h := tl_in h c25
          refine tl_sipush (v := 201) dL_refuses_792 sp_201 (tl_iload_n dL_refuses_795 rfl (tl_bipush (v := 9) dL_refuses_796 bp_9 (tl_irem dL_refuses_798 (by decide) (tl_iadd dL_refuses_799 (?_)))))
          exact tz_fg (ls2 := [some (.ref a1), some (.int x2), some (.int x3), some (.int x4), some (.int x5), some (.int x6), some (.int x7), none, some (.int x8), some (.int x9), none]) (And.intro rfl (And.intro rfl (And.intro rfl (And.intro rfl (And.intro rfl (And.intro rfl (And.intro rfl (And.intro rfl (And.intro rfl trivial))))))))) (tz_wd (k2 := 36) (Nat.le_of_ble_eq_true rfl) (lL_refuses_p800 h1 h1 h))
        · replace h := tl_ip h c25
          refine tl_iconst (v := 0) dL_refuses_788 ic_0 (tl_goto (tgt := 800) dL_refuses_789 (by decide) (?_))
          exact tz_fg (ls2 := [some (.ref a1), some (.int x2), some (.int x3), some (.int x4), some (.int x5), some (.int x6), some (.int x7), none, some (.int x8), some (.int x9), none]) (And.intro rfl (And.intro rfl (And.intro rfl (And.intro rfl (And.intro rfl (And.intro rfl (And.intro rfl (And.intro rfl (And.intro rfl trivial))))))))) (tz_wd (k2 := 36) (Nat.le_of_ble_eq_true rfl) (lL_refuses_p800 h1 h1 h))

theorem lL_refuses_p690 {E : tl_E} {a1 : Nat} {x2 : Int32} {x3 : Int32} {x4 : Int32} {x5 : Int32} {x6 : Int32} {x7 : Int32} {x8 : Int32} {x9 : Int32} {x10 : Int32} {x11 : Int32} {x12 : Int32} {a13 : Nat} {u : tz_U} {r : Int32} {v : tz_U} (h1 : tz_on E a1) (h13 : tz_on E a13) (h : fL_refuses_p690 a1 x2 x3 x4 x5 x6 x7 x8 x9 x10 x11 x12 a13 u = some (r, v)) : tz_R E mL_refuses tl_X0 (tl_Z E mL_refuses (tz_Q E r v)) 31 (tz_HU E u) 690 [some (.ref a1), some (.int x2), some (.int x3), some (.int x4), some (.int x5), some (.int x6), some (.int x7), none, some (.int x8), some (.int x9), none] [.int x10, .int x11, .int x12, .ref a13] := by
  unfold fL_refuses_p690 at h
  obtain ⟨x14, u16, e15, h⟩ := tl_b2i h
  refine tl_iconst (v := 0) dL_refuses_690 ic_0 (tz_cS5 (lL_call h13 e15) dL_refuses_691 cs_L_refuses_189 (c := 1) ⟨rfl, rfl⟩ (k2 := 32) (Nat.le_of_ble_eq_true rfl) (CM := 56) ⟨Nat.le_of_ble_eq_true rfl, Nat.le_of_ble_eq_true rfl⟩ (Nat.le_of_ble_eq_true rfl) (Nat.le_of_ble_eq_true rfl) (tl_ldc dL_refuses_694 kc_L_18 (tl_icmp_ne (tgt := 968) dL_refuses_696 (by decide) (fun c17 => ?_) (fun c17 => ?_))))
  · replace h := tl_in h c17
    refine tl_iconst (v := 0) dL_refuses_968 ic_0 (?_)
    exact tz_fg (ls2 := [some (.ref a1), some (.int x2), some (.int x3), some (.int x4), some (.int x5), some (.int x6), none, none, none, none, none]) (And.intro rfl (And.intro rfl (And.intro rfl (And.intro rfl (And.intro rfl (And.intro rfl trivial)))))) (tz_wd (k2 := 47) (Nat.le_of_ble_eq_true rfl) (lL_refuses_p969 h1 h))
  · replace h := tl_ip h c17
    obtain ⟨x18, u20, e19, h⟩ := tl_b2i h
    refine tl_aload_n dL_refuses_699 rfl (tl_bipush (v := 16) dL_refuses_700 bp_16 (tl_iconst (v := 2) dL_refuses_702 ic_2 (tl_iload_n dL_refuses_703 rfl (tl_bipush (v := 9) dL_refuses_704 bp_9 (tl_irem dL_refuses_706 (by decide) (tl_iadd dL_refuses_707 (tl_iconst (v := 0) dL_refuses_708 ic_0 (tl_iconst (v := 0) dL_refuses_709 ic_0 (tz_cS5 (lL_call h1 e19) dL_refuses_710 cs_L_refuses_189 (c := 1) ⟨rfl, rfl⟩ (k2 := 33) (Nat.le_of_ble_eq_true rfl) (CM := 56) ⟨Nat.le_of_ble_eq_true rfl, Nat.le_of_ble_eq_true rfl⟩ (Nat.le_of_ble_eq_true rfl) (Nat.le_of_ble_eq_true rfl) (tl_ldc dL_refuses_713 kc_L_18 (tl_icmp_ne (tgt := 968) dL_refuses_715 (by decide) (fun c21 => ?_) (fun c21 => ?_))))))))))))
    · replace h := tl_in h c21
      refine tl_iconst (v := 0) dL_refuses_968 ic_0 (?_)
      exact tz_fg (ls2 := [some (.ref a1), some (.int x2), some (.int x3), some (.int x4), some (.int x5), some (.int x6), none, none, none, none, none]) (And.intro rfl (And.intro rfl (And.intro rfl (And.intro rfl (And.intro rfl (And.intro rfl trivial)))))) (tz_wd (k2 := 47) (Nat.le_of_ble_eq_true rfl) (lL_refuses_p969 h1 h))
    · replace h := tl_ip h c21
      refine tl_aload_n dL_refuses_718 rfl (tl_bipush (v := 17) dL_refuses_719 bp_17 (tl_iload_n dL_refuses_721 rfl (tl_iconst (v := 2) dL_refuses_722 ic_2 (tl_irem dL_refuses_723 (by decide) (tl_if_ne (tgt := 731) dL_refuses_724 (by decide) (fun c22 => ?_) (fun c22 => ?_))))))
      · replace h := tl_in h c22
        refine tl_bipush (v := 61) dL_refuses_731 bp_61 (tl_iload_n dL_refuses_733 rfl (tl_bipush (v := 9) dL_refuses_734 bp_9 (tl_irem dL_refuses_736 (by decide) (tl_iadd dL_refuses_737 (?_)))))
        exact tz_fg (ls2 := [some (.ref a1), some (.int x2), some (.int x3), some (.int x4), some (.int x5), some (.int x6), some (.int x7), none, some (.int x8), some (.int x9), none]) (And.intro rfl (And.intro rfl (And.intro rfl (And.intro rfl (And.intro rfl (And.intro rfl (And.intro rfl (And.intro rfl (And.intro rfl trivial))))))))) (tz_wd (k2 := 33) (Nat.le_of_ble_eq_true rfl) (lL_refuses_p738 h1 h1 h))
      · replace h := tl_ip h c22
        refine tl_iconst (v := 0) dL_refuses_727 ic_0 (tl_goto (tgt := 738) dL_refuses_728 (by decide) (?_))
        exact tz_fg (ls2 := [some (.ref a1), some (.int x2), some (.int x3), some (.int x4), some (.int x5), some (.int x6), some (.int x7), none, some (.int x8), some (.int x9), none]) (And.intro rfl (And.intro rfl (And.intro rfl (And.intro rfl (And.intro rfl (And.intro rfl (And.intro rfl (And.intro rfl (And.intro rfl trivial))))))))) (tz_wd (k2 := 33) (Nat.le_of_ble_eq_true rfl) (lL_refuses_p738 h1 h1 h))

theorem lL_refuses_p661 {E : tl_E} {a1 : Nat} {x2 : Int32} {x3 : Int32} {x4 : Int32} {x5 : Int32} {x6 : Int32} {x7 : Int32} {x8 : Int32} {x9 : Int32} {x10 : Int32} {x11 : Int32} {x12 : Int32} {a13 : Nat} {u : tz_U} {r : Int32} {v : tz_U} (h1 : tz_on E a1) (h13 : tz_on E a13) (h : fL_refuses_p661 a1 x2 x3 x4 x5 x6 x7 x8 x9 x10 x11 x12 a13 u = some (r, v)) : tz_R E mL_refuses tl_X0 (tl_Z E mL_refuses (tz_Q E r v)) 30 (tz_HU E u) 661 [some (.ref a1), some (.int x2), some (.int x3), some (.int x4), some (.int x5), some (.int x6), some (.int x7), none, some (.int x8), some (.int x9), none] [.int x10, .int x11, .int x12, .ref a13] := by
  unfold fL_refuses_p661 at h
  obtain ⟨x14, u16, e15, h⟩ := tl_b2i h
  refine tl_iconst (v := 0) dL_refuses_661 ic_0 (tz_cS5 (lL_call h13 e15) dL_refuses_662 cs_L_refuses_189 (c := 1) ⟨rfl, rfl⟩ (k2 := 31) (Nat.le_of_ble_eq_true rfl) (CM := 56) ⟨Nat.le_of_ble_eq_true rfl, Nat.le_of_ble_eq_true rfl⟩ (Nat.le_of_ble_eq_true rfl) (Nat.le_of_ble_eq_true rfl) (tl_ldc dL_refuses_665 kc_L_18 (tl_icmp_ne (tgt := 968) dL_refuses_667 (by decide) (fun c17 => ?_) (fun c17 => ?_))))
  · replace h := tl_in h c17
    refine tl_iconst (v := 0) dL_refuses_968 ic_0 (?_)
    exact tz_fg (ls2 := [some (.ref a1), some (.int x2), some (.int x3), some (.int x4), some (.int x5), some (.int x6), none, none, none, none, none]) (And.intro rfl (And.intro rfl (And.intro rfl (And.intro rfl (And.intro rfl (And.intro rfl trivial)))))) (tz_wd (k2 := 47) (Nat.le_of_ble_eq_true rfl) (lL_refuses_p969 h1 h))
  · replace h := tl_ip h c17
    refine tl_aload_n dL_refuses_670 rfl (tl_bipush (v := 16) dL_refuses_671 bp_16 (tl_iconst (v := 1) dL_refuses_673 ic_1 (tl_iload_n dL_refuses_674 rfl (tl_iconst (v := 2) dL_refuses_675 ic_2 (tl_irem dL_refuses_676 (by decide) (tl_if_ne (tgt := 684) dL_refuses_677 (by decide) (fun c18 => ?_) (fun c18 => ?_)))))))
    · replace h := tl_in h c18
      refine tl_iconst (v := 2) dL_refuses_684 ic_2 (tl_iload_n dL_refuses_685 rfl (tl_bipush (v := 9) dL_refuses_686 bp_9 (tl_irem dL_refuses_688 (by decide) (tl_iadd dL_refuses_689 (?_)))))
      exact tz_fg (ls2 := [some (.ref a1), some (.int x2), some (.int x3), some (.int x4), some (.int x5), some (.int x6), some (.int x7), none, some (.int x8), some (.int x9), none]) (And.intro rfl (And.intro rfl (And.intro rfl (And.intro rfl (And.intro rfl (And.intro rfl (And.intro rfl (And.intro rfl (And.intro rfl trivial))))))))) (tz_wd (k2 := 31) (Nat.le_of_ble_eq_true rfl) (lL_refuses_p690 h1 h1 h))
    · replace h := tl_ip h c18
      refine tl_iconst (v := (-1)) dL_refuses_680 ic_m1 (tl_goto (tgt := 690) dL_refuses_681 (by decide) (?_))
      exact tz_fg (ls2 := [some (.ref a1), some (.int x2), some (.int x3), some (.int x4), some (.int x5), some (.int x6), some (.int x7), none, some (.int x8), some (.int x9), none]) (And.intro rfl (And.intro rfl (And.intro rfl (And.intro rfl (And.intro rfl (And.intro rfl (And.intro rfl (And.intro rfl (And.intro rfl trivial))))))))) (tz_wd (k2 := 31) (Nat.le_of_ble_eq_true rfl) (lL_refuses_p690 h1 h1 h))

theorem lL_refuses_p550 {E : tl_E} {a1 : Nat} {x2 : Int32} {x3 : Int32} {x4 : Int32} {x5 : Int32} {x6 : Int32} {x7 : Int32} {x8 : Int32} {x9 : Int32} {x10 : Int32} {x11 : Int32} {a12 : Nat} {u : tz_U} {r : Int32} {v : tz_U} (h1 : tz_on E a1) (h12 : tz_on E a12) (h : fL_refuses_p550 a1 x2 x3 x4 x5 x6 x7 x8 x9 x10 x11 a12 u = some (r, v)) : tz_R E mL_refuses tl_X0 (tl_Z E mL_refuses (tz_Q E r v)) 24 (tz_HU E u) 550 [some (.ref a1), some (.int x2), some (.int x3), some (.int x4), some (.int x5), some (.int x6), some (.int x7), none, some (.int x8), some (.int x9), none] [.int x10, .int x11, .ref a12] := by
  unfold fL_refuses_p550 at h
  obtain ⟨x13, u15, e14, h⟩ := tl_b2i h
  refine tl_iconst (v := 0) dL_refuses_550 ic_0 (tl_iconst (v := 0) dL_refuses_551 ic_0 (tz_cS5 (lL_call h12 e14) dL_refuses_552 cs_L_refuses_189 (c := 1) ⟨rfl, rfl⟩ (k2 := 25) (Nat.le_of_ble_eq_true rfl) (CM := 56) ⟨Nat.le_of_ble_eq_true rfl, Nat.le_of_ble_eq_true rfl⟩ (Nat.le_of_ble_eq_true rfl) (Nat.le_of_ble_eq_true rfl) (tl_ldc dL_refuses_555 kc_L_18 (tl_icmp_ne (tgt := 968) dL_refuses_557 (by decide) (fun c16 => ?_) (fun c16 => ?_)))))
  · replace h := tl_in h c16
    refine tl_iconst (v := 0) dL_refuses_968 ic_0 (?_)
    exact tz_fg (ls2 := [some (.ref a1), some (.int x2), some (.int x3), some (.int x4), some (.int x5), some (.int x6), none, none, none, none, none]) (And.intro rfl (And.intro rfl (And.intro rfl (And.intro rfl (And.intro rfl (And.intro rfl trivial)))))) (tz_wd (k2 := 47) (Nat.le_of_ble_eq_true rfl) (lL_refuses_p969 h1 h))
  · replace h := tl_ip h c16
    obtain ⟨x17, u19, e18, h⟩ := tl_b2i h
    refine tl_aload_n dL_refuses_560 rfl (tl_bipush (v := 13) dL_refuses_561 bp_13 (tl_iload dL_refuses_563 rfl (tl_iconst (v := 0) dL_refuses_565 ic_0 (tl_iconst (v := 0) dL_refuses_566 ic_0 (tz_cS5 (lL_call h1 e18) dL_refuses_567 cs_L_refuses_189 (c := 1) ⟨rfl, rfl⟩ (k2 := 26) (Nat.le_of_ble_eq_true rfl) (CM := 56) ⟨Nat.le_of_ble_eq_true rfl, Nat.le_of_ble_eq_true rfl⟩ (Nat.le_of_ble_eq_true rfl) (Nat.le_of_ble_eq_true rfl) (tl_ldc dL_refuses_570 kc_L_15 (tl_icmp_ne (tgt := 968) dL_refuses_572 (by decide) (fun c20 => ?_) (fun c20 => ?_))))))))
    · replace h := tl_in h c20
      refine tl_iconst (v := 0) dL_refuses_968 ic_0 (?_)
      exact tz_fg (ls2 := [some (.ref a1), some (.int x2), some (.int x3), some (.int x4), some (.int x5), some (.int x6), none, none, none, none, none]) (And.intro rfl (And.intro rfl (And.intro rfl (And.intro rfl (And.intro rfl (And.intro rfl trivial)))))) (tz_wd (k2 := 47) (Nat.le_of_ble_eq_true rfl) (lL_refuses_p969 h1 h))
    · replace h := tl_ip h c20
      obtain ⟨x21, u23, e22, h⟩ := tl_b2i h
      refine tl_aload_n dL_refuses_575 rfl (tl_bipush (v := 13) dL_refuses_576 bp_13 (tl_iconst (v := 0) dL_refuses_578 ic_0 (tl_iload dL_refuses_579 rfl (tl_iconst (v := 0) dL_refuses_581 ic_0 (tz_cS5 (lL_call h1 e22) dL_refuses_582 cs_L_refuses_189 (c := 1) ⟨rfl, rfl⟩ (k2 := 27) (Nat.le_of_ble_eq_true rfl) (CM := 56) ⟨Nat.le_of_ble_eq_true rfl, Nat.le_of_ble_eq_true rfl⟩ (Nat.le_of_ble_eq_true rfl) (Nat.le_of_ble_eq_true rfl) (tl_ldc dL_refuses_585 kc_L_15 (tl_icmp_ne (tgt := 968) dL_refuses_587 (by decide) (fun c24 => ?_) (fun c24 => ?_))))))))
      · replace h := tl_in h c24
        refine tl_iconst (v := 0) dL_refuses_968 ic_0 (?_)
        exact tz_fg (ls2 := [some (.ref a1), some (.int x2), some (.int x3), some (.int x4), some (.int x5), some (.int x6), none, none, none, none, none]) (And.intro rfl (And.intro rfl (And.intro rfl (And.intro rfl (And.intro rfl (And.intro rfl trivial)))))) (tz_wd (k2 := 47) (Nat.le_of_ble_eq_true rfl) (lL_refuses_p969 h1 h))
      · replace h := tl_ip h c24
        obtain ⟨x25, u27, e26, h⟩ := tl_b2i h
        refine tl_aload_n dL_refuses_590 rfl (tl_bipush (v := 13) dL_refuses_591 bp_13 (tl_iconst (v := 0) dL_refuses_593 ic_0 (tl_iconst (v := 0) dL_refuses_594 ic_0 (tl_iload dL_refuses_595 rfl (tz_cS5 (lL_call h1 e26) dL_refuses_597 cs_L_refuses_189 (c := 1) ⟨rfl, rfl⟩ (k2 := 28) (Nat.le_of_ble_eq_true rfl) (CM := 56) ⟨Nat.le_of_ble_eq_true rfl, Nat.le_of_ble_eq_true rfl⟩ (Nat.le_of_ble_eq_true rfl) (Nat.le_of_ble_eq_true rfl) (tl_ldc dL_refuses_600 kc_L_15 (tl_icmp_ne (tgt := 968) dL_refuses_602 (by decide) (fun c28 => ?_) (fun c28 => ?_))))))))
        · replace h := tl_in h c28
          refine tl_iconst (v := 0) dL_refuses_968 ic_0 (?_)
          exact tz_fg (ls2 := [some (.ref a1), some (.int x2), some (.int x3), some (.int x4), some (.int x5), some (.int x6), none, none, none, none, none]) (And.intro rfl (And.intro rfl (And.intro rfl (And.intro rfl (And.intro rfl (And.intro rfl trivial)))))) (tz_wd (k2 := 47) (Nat.le_of_ble_eq_true rfl) (lL_refuses_p969 h1 h))
        · replace h := tl_ip h c28
          obtain ⟨x29, u31, e30, h⟩ := tl_b2i h
          refine tl_aload_n dL_refuses_605 rfl (tl_bipush (v := 14) dL_refuses_606 bp_14 (tl_iload dL_refuses_608 rfl (tl_iconst (v := 0) dL_refuses_610 ic_0 (tl_iconst (v := 0) dL_refuses_611 ic_0 (tz_cS5 (lL_call h1 e30) dL_refuses_612 cs_L_refuses_189 (c := 1) ⟨rfl, rfl⟩ (k2 := 29) (Nat.le_of_ble_eq_true rfl) (CM := 56) ⟨Nat.le_of_ble_eq_true rfl, Nat.le_of_ble_eq_true rfl⟩ (Nat.le_of_ble_eq_true rfl) (Nat.le_of_ble_eq_true rfl) (tl_ldc dL_refuses_615 kc_L_15 (tl_icmp_ne (tgt := 968) dL_refuses_617 (by decide) (fun c32 => ?_) (fun c32 => ?_))))))))
          · replace h := tl_in h c32
            refine tl_iconst (v := 0) dL_refuses_968 ic_0 (?_)
            exact tz_fg (ls2 := [some (.ref a1), some (.int x2), some (.int x3), some (.int x4), some (.int x5), some (.int x6), none, none, none, none, none]) (And.intro rfl (And.intro rfl (And.intro rfl (And.intro rfl (And.intro rfl (And.intro rfl trivial)))))) (tz_wd (k2 := 47) (Nat.le_of_ble_eq_true rfl) (lL_refuses_p969 h1 h))
          · replace h := tl_ip h c32
            obtain ⟨x33, u35, e34, h⟩ := tl_b2i h
            refine tl_aload_n dL_refuses_620 rfl (tl_bipush (v := 15) dL_refuses_621 bp_15 (tl_iload dL_refuses_623 rfl (tl_iload_n dL_refuses_625 rfl (tl_bipush (v := 9) dL_refuses_626 bp_9 (tl_irem dL_refuses_628 (by decide) (tl_iadd dL_refuses_629 (tl_iconst (v := 0) dL_refuses_630 ic_0 (tl_iconst (v := 0) dL_refuses_631 ic_0 (tz_cS5 (lL_call h1 e34) dL_refuses_632 cs_L_refuses_189 (c := 1) ⟨rfl, rfl⟩ (k2 := 30) (Nat.le_of_ble_eq_true rfl) (CM := 56) ⟨Nat.le_of_ble_eq_true rfl, Nat.le_of_ble_eq_true rfl⟩ (Nat.le_of_ble_eq_true rfl) (Nat.le_of_ble_eq_true rfl) (tl_ldc dL_refuses_635 kc_L_15 (tl_icmp_ne (tgt := 968) dL_refuses_637 (by decide) (fun c36 => ?_) (fun c36 => ?_))))))))))))
            · replace h := tl_in h c36
              refine tl_iconst (v := 0) dL_refuses_968 ic_0 (?_)
              exact tz_fg (ls2 := [some (.ref a1), some (.int x2), some (.int x3), some (.int x4), some (.int x5), some (.int x6), none, none, none, none, none]) (And.intro rfl (And.intro rfl (And.intro rfl (And.intro rfl (And.intro rfl (And.intro rfl trivial)))))) (tz_wd (k2 := 47) (Nat.le_of_ble_eq_true rfl) (lL_refuses_p969 h1 h))
            · replace h := tl_ip h c36
              refine tl_aload_n dL_refuses_640 rfl (tl_bipush (v := 16) dL_refuses_641 bp_16 (tl_iconst (v := 0) dL_refuses_643 ic_0 (tl_iload_n dL_refuses_644 rfl (tl_iconst (v := 2) dL_refuses_645 ic_2 (tl_irem dL_refuses_646 (by decide) (tl_if_ne (tgt := 654) dL_refuses_647 (by decide) (fun c37 => ?_) (fun c37 => ?_)))))))
              · replace h := tl_in h c37
                refine tl_bipush (v := 13) dL_refuses_654 bp_13 (tl_iload_n dL_refuses_656 rfl (tl_bipush (v := 9) dL_refuses_657 bp_9 (tl_irem dL_refuses_659 (by decide) (tl_iadd dL_refuses_660 (?_)))))
                exact tz_fg (ls2 := [some (.ref a1), some (.int x2), some (.int x3), some (.int x4), some (.int x5), some (.int x6), some (.int x7), none, some (.int x8), some (.int x9), none]) (And.intro rfl (And.intro rfl (And.intro rfl (And.intro rfl (And.intro rfl (And.intro rfl (And.intro rfl (And.intro rfl (And.intro rfl trivial))))))))) (tz_wd (k2 := 30) (Nat.le_of_ble_eq_true rfl) (lL_refuses_p661 h1 h1 h))
              · replace h := tl_ip h c37
                refine tl_iconst (v := (-1)) dL_refuses_650 ic_m1 (tl_goto (tgt := 661) dL_refuses_651 (by decide) (?_))
                exact tz_fg (ls2 := [some (.ref a1), some (.int x2), some (.int x3), some (.int x4), some (.int x5), some (.int x6), some (.int x7), none, some (.int x8), some (.int x9), none]) (And.intro rfl (And.intro rfl (And.intro rfl (And.intro rfl (And.intro rfl (And.intro rfl (And.intro rfl (And.intro rfl (And.intro rfl trivial))))))))) (tz_wd (k2 := 30) (Nat.le_of_ble_eq_true rfl) (lL_refuses_p661 h1 h1 h))

theorem lL_refuses_p516 {E : tl_E} {a1 : Nat} {x2 : Int32} {x3 : Int32} {x4 : Int32} {x5 : Int32} {x6 : Int32} {x7 : Int32} {x8 : Int32} {x9 : Int32} {x10 : Int32} {x11 : Int32} {x12 : Int32} {x13 : Int32} {a14 : Nat} {u : tz_U} {r : Int32} {v : tz_U} (h1 : tz_on E a1) (h14 : tz_on E a14) (h : fL_refuses_p516 a1 x2 x3 x4 x5 x6 x7 x8 x9 x10 x11 x12 x13 a14 u = some (r, v)) : tz_R E mL_refuses tl_X0 (tl_Z E mL_refuses (tz_Q E r v)) 23 (tz_HU E u) 516 [some (.ref a1), some (.int x2), some (.int x3), some (.int x4), some (.int x5), some (.int x6), some (.int x7), none, some (.int x8), some (.int x9), none] [.int x10, .int x11, .int x12, .int x13, .ref a14] := by
  unfold fL_refuses_p516 at h
  obtain ⟨x15, u17, e16, h⟩ := tl_b2i h
  refine tz_cH5 (lL_lamps h14 e16) dL_refuses_516 cs_L_refuses_193 (c := 1) ⟨rfl, rfl⟩ (k2 := 24) (Nat.le_of_ble_eq_true rfl) (CM := 56) ⟨Nat.le_of_ble_eq_true rfl, Nat.le_of_ble_eq_true rfl⟩ (Nat.le_of_ble_eq_true rfl) (Nat.le_of_ble_eq_true rfl) (tl_ldc dL_refuses_519 kc_L_18 (tl_icmp_ne (tgt := 968) dL_refuses_521 (by decide) (fun c18 => ?_) (fun c18 => ?_)))
  · replace h := tl_in h c18
    refine tl_iconst (v := 0) dL_refuses_968 ic_0 (?_)
    exact tz_fg (ls2 := [some (.ref a1), some (.int x2), some (.int x3), some (.int x4), some (.int x5), some (.int x6), none, none, none, none, none]) (And.intro rfl (And.intro rfl (And.intro rfl (And.intro rfl (And.intro rfl (And.intro rfl trivial)))))) (tz_wd (k2 := 47) (Nat.le_of_ble_eq_true rfl) (lL_refuses_p969 h1 h))
  · replace h := tl_ip h c18
    refine tl_aload_n dL_refuses_524 rfl (tl_bipush (v := 12) dL_refuses_525 bp_12 (tl_iload_n dL_refuses_527 rfl (tl_iconst (v := 2) dL_refuses_528 ic_2 (tl_irem dL_refuses_529 (by decide) (tl_if_ne (tgt := 542) dL_refuses_530 (by decide) (fun c19 => ?_) (fun c19 => ?_))))))
    · replace h := tl_in h c19
      refine tl_sipush (v := 1000) dL_refuses_542 sp_1000 (tl_iload_n dL_refuses_545 rfl (tl_bipush (v := 9) dL_refuses_546 bp_9 (tl_irem dL_refuses_548 (by decide) (tl_iadd dL_refuses_549 (?_)))))
      exact tz_fg (ls2 := [some (.ref a1), some (.int x2), some (.int x3), some (.int x4), some (.int x5), some (.int x6), some (.int x7), none, some (.int x8), some (.int x9), none]) (And.intro rfl (And.intro rfl (And.intro rfl (And.intro rfl (And.intro rfl (And.intro rfl (And.intro rfl (And.intro rfl (And.intro rfl trivial))))))))) (tz_wd (k2 := 24) (Nat.le_of_ble_eq_true rfl) (lL_refuses_p550 h1 h1 h))
    · replace h := tl_ip h c19
      refine tl_iconst (v := (-1)) dL_refuses_533 ic_m1 (tl_iload_n dL_refuses_534 rfl (tl_bipush (v := 9) dL_refuses_535 bp_9 (tl_irem dL_refuses_537 (by decide) (tl_isub dL_refuses_538 (tl_goto (tgt := 550) dL_refuses_539 (by decide) (?_))))))
      exact tz_fg (ls2 := [some (.ref a1), some (.int x2), some (.int x3), some (.int x4), some (.int x5), some (.int x6), some (.int x7), none, some (.int x8), some (.int x9), none]) (And.intro rfl (And.intro rfl (And.intro rfl (And.intro rfl (And.intro rfl (And.intro rfl (And.intro rfl (And.intro rfl (And.intro rfl trivial))))))))) (tz_wd (k2 := 24) (Nat.le_of_ble_eq_true rfl) (lL_refuses_p550 h1 h1 h))

theorem lL_refuses_p486 {E : tl_E} {a1 : Nat} {x2 : Int32} {x3 : Int32} {x4 : Int32} {x5 : Int32} {x6 : Int32} {x7 : Int32} {x8 : Int32} {x9 : Int32} {x10 : Int32} {x11 : Int32} {x12 : Int32} {a13 : Nat} {u : tz_U} {r : Int32} {v : tz_U} (h1 : tz_on E a1) (h13 : tz_on E a13) (h : fL_refuses_p486 a1 x2 x3 x4 x5 x6 x7 x8 x9 x10 x11 x12 a13 u = some (r, v)) : tz_R E mL_refuses tl_X0 (tl_Z E mL_refuses (tz_Q E r v)) 22 (tz_HU E u) 486 [some (.ref a1), some (.int x2), some (.int x3), some (.int x4), some (.int x5), some (.int x6), some (.int x7), none, some (.int x8), some (.int x9), none] [.int x10, .int x11, .int x12, .ref a13] := by
  unfold fL_refuses_p486 at h
  obtain ⟨x14, u16, e15, h⟩ := tl_b2i h
  refine tl_iconst (v := 5) dL_refuses_486 ic_5 (tz_cH5 (lL_lamps h13 e15) dL_refuses_487 cs_L_refuses_193 (c := 1) ⟨rfl, rfl⟩ (k2 := 23) (Nat.le_of_ble_eq_true rfl) (CM := 56) ⟨Nat.le_of_ble_eq_true rfl, Nat.le_of_ble_eq_true rfl⟩ (Nat.le_of_ble_eq_true rfl) (Nat.le_of_ble_eq_true rfl) (tl_ldc dL_refuses_490 kc_L_18 (tl_icmp_ne (tgt := 968) dL_refuses_492 (by decide) (fun c17 => ?_) (fun c17 => ?_))))
  · replace h := tl_in h c17
    refine tl_iconst (v := 0) dL_refuses_968 ic_0 (?_)
    exact tz_fg (ls2 := [some (.ref a1), some (.int x2), some (.int x3), some (.int x4), some (.int x5), some (.int x6), none, none, none, none, none]) (And.intro rfl (And.intro rfl (And.intro rfl (And.intro rfl (And.intro rfl (And.intro rfl trivial)))))) (tz_wd (k2 := 47) (Nat.le_of_ble_eq_true rfl) (lL_refuses_p969 h1 h))
  · replace h := tl_ip h c17
    refine tl_aload_n dL_refuses_495 rfl (tl_iconst (v := 0) dL_refuses_496 ic_0 (tl_iconst (v := 0) dL_refuses_497 ic_0 (tl_iconst (v := 5) dL_refuses_498 ic_5 (tl_iload_n dL_refuses_499 rfl (tl_iconst (v := 2) dL_refuses_500 ic_2 (tl_irem dL_refuses_501 (by decide) (tl_if_ne (tgt := 509) dL_refuses_502 (by decide) (fun c18 => ?_) (fun c18 => ?_))))))))
    · replace h := tl_in h c18
      refine tl_bipush (v := 100) dL_refuses_509 bp_100 (tl_iload_n dL_refuses_511 rfl (tl_bipush (v := 9) dL_refuses_512 bp_9 (tl_irem dL_refuses_514 (by decide) (tl_iadd dL_refuses_515 (?_)))))
      exact tz_fg (ls2 := [some (.ref a1), some (.int x2), some (.int x3), some (.int x4), some (.int x5), some (.int x6), some (.int x7), none, some (.int x8), some (.int x9), none]) (And.intro rfl (And.intro rfl (And.intro rfl (And.intro rfl (And.intro rfl (And.intro rfl (And.intro rfl (And.intro rfl (And.intro rfl trivial))))))))) (tz_wd (k2 := 23) (Nat.le_of_ble_eq_true rfl) (lL_refuses_p516 h1 h1 h))
    · replace h := tl_ip h c18
      refine tl_iconst (v := (-1)) dL_refuses_505 ic_m1 (tl_goto (tgt := 516) dL_refuses_506 (by decide) (?_))
      exact tz_fg (ls2 := [some (.ref a1), some (.int x2), some (.int x3), some (.int x4), some (.int x5), some (.int x6), some (.int x7), none, some (.int x8), some (.int x9), none]) (And.intro rfl (And.intro rfl (And.intro rfl (And.intro rfl (And.intro rfl (And.intro rfl (And.intro rfl (And.intro rfl (And.intro rfl trivial))))))))) (tz_wd (k2 := 23) (Nat.le_of_ble_eq_true rfl) (lL_refuses_p516 h1 h1 h))

theorem lL_refuses_p399 {E : tl_E} {a1 : Nat} {x2 : Int32} {x3 : Int32} {x4 : Int32} {x5 : Int32} {x6 : Int32} {x7 : Int32} {x8 : Int32} {x9 : Int32} {x10 : Int32} {x11 : Int32} {x12 : Int32} {x13 : Int32} {a14 : Nat} {u : tz_U} {r : Int32} {v : tz_U} (h1 : tz_on E a1) (h14 : tz_on E a14) (h : fL_refuses_p399 a1 x2 x3 x4 x5 x6 x7 x8 x9 x10 x11 x12 x13 a14 u = some (r, v)) : tz_R E mL_refuses tl_X0 (tl_Z E mL_refuses (tz_Q E r v)) 17 (tz_HU E u) 399 [some (.ref a1), some (.int x2), some (.int x3), some (.int x4), some (.int x5), some (.int x6), some (.int x7), some (.int x8), some (.int x9), some (.int x10), none] [.int x11, .int x12, .int x13, .ref a14] := by
  unfold fL_refuses_p399 at h
  obtain ⟨x15, u17, e16, h⟩ := tl_b2i h
  refine tl_iconst (v := 0) dL_refuses_399 ic_0 (tz_cS5 (lL_call h14 e16) dL_refuses_400 cs_L_refuses_189 (c := 1) ⟨rfl, rfl⟩ (k2 := 18) (Nat.le_of_ble_eq_true rfl) (CM := 56) ⟨Nat.le_of_ble_eq_true rfl, Nat.le_of_ble_eq_true rfl⟩ (Nat.le_of_ble_eq_true rfl) (Nat.le_of_ble_eq_true rfl) (tl_ldc dL_refuses_403 kc_L_18 (tl_icmp_ne (tgt := 968) dL_refuses_405 (by decide) (fun c18 => ?_) (fun c18 => ?_))))
  · replace h := tl_in h c18
    refine tl_iconst (v := 0) dL_refuses_968 ic_0 (?_)
    exact tz_fg (ls2 := [some (.ref a1), some (.int x2), some (.int x3), some (.int x4), some (.int x5), some (.int x6), none, none, none, none, none]) (And.intro rfl (And.intro rfl (And.intro rfl (And.intro rfl (And.intro rfl (And.intro rfl trivial)))))) (tz_wd (k2 := 47) (Nat.le_of_ble_eq_true rfl) (lL_refuses_p969 h1 h))
  · replace h := tl_ip h c18
    obtain ⟨x19, u21, e20, h⟩ := tl_b2i h
    refine tl_aload_n dL_refuses_408 rfl (tl_bipush (v := 11) dL_refuses_409 bp_11 (tl_iload dL_refuses_411 rfl (tl_iconst (v := 0) dL_refuses_413 ic_0 (tl_iconst (v := 0) dL_refuses_414 ic_0 (tz_cS5 (lL_call h1 e20) dL_refuses_415 cs_L_refuses_189 (c := 1) ⟨rfl, rfl⟩ (k2 := 19) (Nat.le_of_ble_eq_true rfl) (CM := 56) ⟨Nat.le_of_ble_eq_true rfl, Nat.le_of_ble_eq_true rfl⟩ (Nat.le_of_ble_eq_true rfl) (Nat.le_of_ble_eq_true rfl) (tl_ldc dL_refuses_418 kc_L_15 (tl_icmp_ne (tgt := 968) dL_refuses_420 (by decide) (fun c22 => ?_) (fun c22 => ?_))))))))
    · replace h := tl_in h c22
      refine tl_iconst (v := 0) dL_refuses_968 ic_0 (?_)
      exact tz_fg (ls2 := [some (.ref a1), some (.int x2), some (.int x3), some (.int x4), some (.int x5), some (.int x6), none, none, none, none, none]) (And.intro rfl (And.intro rfl (And.intro rfl (And.intro rfl (And.intro rfl (And.intro rfl trivial)))))) (tz_wd (k2 := 47) (Nat.le_of_ble_eq_true rfl) (lL_refuses_p969 h1 h))
    · replace h := tl_ip h c22
      obtain ⟨x23, u25, e24, h⟩ := tl_b2i h
      refine tl_aload_n dL_refuses_423 rfl (tl_bipush (v := 11) dL_refuses_424 bp_11 (tl_iconst (v := 0) dL_refuses_426 ic_0 (tl_iload dL_refuses_427 rfl (tl_iconst (v := 0) dL_refuses_429 ic_0 (tz_cS5 (lL_call h1 e24) dL_refuses_430 cs_L_refuses_189 (c := 1) ⟨rfl, rfl⟩ (k2 := 20) (Nat.le_of_ble_eq_true rfl) (CM := 56) ⟨Nat.le_of_ble_eq_true rfl, Nat.le_of_ble_eq_true rfl⟩ (Nat.le_of_ble_eq_true rfl) (Nat.le_of_ble_eq_true rfl) (tl_ldc dL_refuses_433 kc_L_15 (tl_icmp_ne (tgt := 968) dL_refuses_435 (by decide) (fun c26 => ?_) (fun c26 => ?_))))))))
      · replace h := tl_in h c26
        refine tl_iconst (v := 0) dL_refuses_968 ic_0 (?_)
        exact tz_fg (ls2 := [some (.ref a1), some (.int x2), some (.int x3), some (.int x4), some (.int x5), some (.int x6), none, none, none, none, none]) (And.intro rfl (And.intro rfl (And.intro rfl (And.intro rfl (And.intro rfl (And.intro rfl trivial)))))) (tz_wd (k2 := 47) (Nat.le_of_ble_eq_true rfl) (lL_refuses_p969 h1 h))
      · replace h := tl_ip h c26
        obtain ⟨x27, u29, e28, h⟩ := tl_b2i h
        refine tl_aload_n dL_refuses_438 rfl (tl_iload dL_refuses_439 rfl (tl_iconst (v := 0) dL_refuses_441 ic_0 (tl_iconst (v := 0) dL_refuses_442 ic_0 (tl_iconst (v := 0) dL_refuses_443 ic_0 (tz_cH5 (lL_lamps h1 e28) dL_refuses_444 cs_L_refuses_193 (c := 1) ⟨rfl, rfl⟩ (k2 := 21) (Nat.le_of_ble_eq_true rfl) (CM := 56) ⟨Nat.le_of_ble_eq_true rfl, Nat.le_of_ble_eq_true rfl⟩ (Nat.le_of_ble_eq_true rfl) (Nat.le_of_ble_eq_true rfl) (tl_ldc dL_refuses_447 kc_L_15 (tl_icmp_ne (tgt := 968) dL_refuses_449 (by decide) (fun c30 => ?_) (fun c30 => ?_))))))))
        · replace h := tl_in h c30
          refine tl_iconst (v := 0) dL_refuses_968 ic_0 (?_)
          exact tz_fg (ls2 := [some (.ref a1), some (.int x2), some (.int x3), some (.int x4), some (.int x5), some (.int x6), none, none, none, none, none]) (And.intro rfl (And.intro rfl (And.intro rfl (And.intro rfl (And.intro rfl (And.intro rfl trivial)))))) (tz_wd (k2 := 47) (Nat.le_of_ble_eq_true rfl) (lL_refuses_p969 h1 h))
        · replace h := tl_ip h c30
          obtain ⟨x31, u33, e32, h⟩ := tl_b2i h
          refine tl_aload_n dL_refuses_452 rfl (tl_iconst (v := 0) dL_refuses_453 ic_0 (tl_iload dL_refuses_454 rfl (tl_iconst (v := 0) dL_refuses_456 ic_0 (tl_iconst (v := 0) dL_refuses_457 ic_0 (tz_cH5 (lL_lamps h1 e32) dL_refuses_458 cs_L_refuses_193 (c := 1) ⟨rfl, rfl⟩ (k2 := 22) (Nat.le_of_ble_eq_true rfl) (CM := 56) ⟨Nat.le_of_ble_eq_true rfl, Nat.le_of_ble_eq_true rfl⟩ (Nat.le_of_ble_eq_true rfl) (Nat.le_of_ble_eq_true rfl) (tl_ldc dL_refuses_461 kc_L_15 (tl_icmp_ne (tgt := 968) dL_refuses_463 (by decide) (fun c34 => ?_) (fun c34 => ?_))))))))
          · replace h := tl_in h c34
            refine tl_iconst (v := 0) dL_refuses_968 ic_0 (?_)
            exact tz_fg (ls2 := [some (.ref a1), some (.int x2), some (.int x3), some (.int x4), some (.int x5), some (.int x6), none, none, none, none, none]) (And.intro rfl (And.intro rfl (And.intro rfl (And.intro rfl (And.intro rfl (And.intro rfl trivial)))))) (tz_wd (k2 := 47) (Nat.le_of_ble_eq_true rfl) (lL_refuses_p969 h1 h))
          · replace h := tl_ip h c34
            refine tl_aload_n dL_refuses_466 rfl (tl_iconst (v := 0) dL_refuses_467 ic_0 (tl_iconst (v := 0) dL_refuses_468 ic_0 (tl_iload_n dL_refuses_469 rfl (tl_iconst (v := 2) dL_refuses_470 ic_2 (tl_irem dL_refuses_471 (by decide) (tl_if_ne (tgt := 479) dL_refuses_472 (by decide) (fun c35 => ?_) (fun c35 => ?_)))))))
            · replace h := tl_in h c35
              refine tl_bipush (v := 10) dL_refuses_479 bp_10 (tl_iload_n dL_refuses_481 rfl (tl_bipush (v := 9) dL_refuses_482 bp_9 (tl_irem dL_refuses_484 (by decide) (tl_iadd dL_refuses_485 (?_)))))
              exact tz_fg (ls2 := [some (.ref a1), some (.int x2), some (.int x3), some (.int x4), some (.int x5), some (.int x6), some (.int x7), none, some (.int x9), some (.int x10), none]) (And.intro rfl (And.intro rfl (And.intro rfl (And.intro rfl (And.intro rfl (And.intro rfl (And.intro rfl (And.intro rfl (And.intro rfl trivial))))))))) (tz_wd (k2 := 22) (Nat.le_of_ble_eq_true rfl) (lL_refuses_p486 h1 h1 h))
            · replace h := tl_ip h c35
              refine tl_iconst (v := 0) dL_refuses_475 ic_0 (tl_goto (tgt := 486) dL_refuses_476 (by decide) (?_))
              exact tz_fg (ls2 := [some (.ref a1), some (.int x2), some (.int x3), some (.int x4), some (.int x5), some (.int x6), some (.int x7), none, some (.int x9), some (.int x10), none]) (And.intro rfl (And.intro rfl (And.intro rfl (And.intro rfl (And.intro rfl (And.intro rfl (And.intro rfl (And.intro rfl (And.intro rfl trivial))))))))) (tz_wd (k2 := 22) (Nat.le_of_ble_eq_true rfl) (lL_refuses_p486 h1 h1 h))

theorem lL_refuses_p352 {E : tl_E} {a1 : Nat} {x2 : Int32} {x3 : Int32} {x4 : Int32} {x5 : Int32} {x6 : Int32} {x7 : Int32} {x8 : Int32} {x9 : Int32} {x10 : Int32} {x11 : Int32} {x12 : Int32} {a13 : Nat} {u : tz_U} {r : Int32} {v : tz_U} (h1 : tz_on E a1) (h13 : tz_on E a13) (h : fL_refuses_p352 a1 x2 x3 x4 x5 x6 x7 x8 x9 x10 x11 x12 a13 u = some (r, v)) : tz_R E mL_refuses tl_X0 (tl_Z E mL_refuses (tz_Q E r v)) 15 (tz_HU E u) 352 [some (.ref a1), some (.int x2), some (.int x3), some (.int x4), some (.int x5), some (.int x6), some (.int x7), some (.int x8), some (.int x9), some (.int x10), none] [.int x11, .int x12, .ref a13] := by
  unfold fL_refuses_p352 at h
  obtain ⟨x14, u16, e15, h⟩ := tl_b2i h
  refine tl_iconst (v := 0) dL_refuses_352 ic_0 (tl_iconst (v := 0) dL_refuses_353 ic_0 (tz_cS5 (lL_call h13 e15) dL_refuses_354 cs_L_refuses_189 (c := 1) ⟨rfl, rfl⟩ (k2 := 16) (Nat.le_of_ble_eq_true rfl) (CM := 56) ⟨Nat.le_of_ble_eq_true rfl, Nat.le_of_ble_eq_true rfl⟩ (Nat.le_of_ble_eq_true rfl) (Nat.le_of_ble_eq_true rfl) (tl_ldc dL_refuses_357 kc_L_18 (tl_icmp_ne (tgt := 968) dL_refuses_359 (by decide) (fun c17 => ?_) (fun c17 => ?_)))))
  · replace h := tl_in h c17
    refine tl_iconst (v := 0) dL_refuses_968 ic_0 (?_)
    exact tz_fg (ls2 := [some (.ref a1), some (.int x2), some (.int x3), some (.int x4), some (.int x5), some (.int x6), none, none, none, none, none]) (And.intro rfl (And.intro rfl (And.intro rfl (And.intro rfl (And.intro rfl (And.intro rfl trivial)))))) (tz_wd (k2 := 47) (Nat.le_of_ble_eq_true rfl) (lL_refuses_p969 h1 h))
  · replace h := tl_ip h c17
    obtain ⟨x18, u20, e19, h⟩ := tl_b2i h
    refine tl_aload_n dL_refuses_362 rfl (tl_bipush (v := 10) dL_refuses_363 bp_10 (tl_iload dL_refuses_365 rfl (tl_bipush (v := 9) dL_refuses_367 bp_9 (tl_iconst (v := 0) dL_refuses_369 ic_0 (tz_cS5 (lL_call h1 e19) dL_refuses_370 cs_L_refuses_189 (c := 1) ⟨rfl, rfl⟩ (k2 := 17) (Nat.le_of_ble_eq_true rfl) (CM := 56) ⟨Nat.le_of_ble_eq_true rfl, Nat.le_of_ble_eq_true rfl⟩ (Nat.le_of_ble_eq_true rfl) (Nat.le_of_ble_eq_true rfl) (tl_ldc dL_refuses_373 kc_L_15 (tl_icmp_ne (tgt := 968) dL_refuses_375 (by decide) (fun c21 => ?_) (fun c21 => ?_))))))))
    · replace h := tl_in h c21
      refine tl_iconst (v := 0) dL_refuses_968 ic_0 (?_)
      exact tz_fg (ls2 := [some (.ref a1), some (.int x2), some (.int x3), some (.int x4), some (.int x5), some (.int x6), none, none, none, none, none]) (And.intro rfl (And.intro rfl (And.intro rfl (And.intro rfl (And.intro rfl (And.intro rfl trivial)))))) (tz_wd (k2 := 47) (Nat.le_of_ble_eq_true rfl) (lL_refuses_p969 h1 h))
    · replace h := tl_ip h c21
      refine tl_aload_n dL_refuses_378 rfl (tl_bipush (v := 10) dL_refuses_379 bp_10 (tl_iconst (v := 0) dL_refuses_381 ic_0 (tl_iload_n dL_refuses_382 rfl (tl_iconst (v := 2) dL_refuses_383 ic_2 (tl_irem dL_refuses_384 (by decide) (tl_if_ne (tgt := 392) dL_refuses_385 (by decide) (fun c22 => ?_) (fun c22 => ?_)))))))
      · replace h := tl_in h c22
        refine tl_bipush (v := 6) dL_refuses_392 bp_6 (tl_iload_n dL_refuses_394 rfl (tl_bipush (v := 9) dL_refuses_395 bp_9 (tl_irem dL_refuses_397 (by decide) (tl_iadd dL_refuses_398 (?_)))))
        exact tz_fg (ls2 := [some (.ref a1), some (.int x2), some (.int x3), some (.int x4), some (.int x5), some (.int x6), some (.int x7), some (.int x8), some (.int x9), some (.int x10), none]) (And.intro rfl (And.intro rfl (And.intro rfl (And.intro rfl (And.intro rfl (And.intro rfl (And.intro rfl (And.intro rfl (And.intro rfl (And.intro rfl trivial)))))))))) (tz_wd (k2 := 17) (Nat.le_of_ble_eq_true rfl) (lL_refuses_p399 h1 h1 h))
      · replace h := tl_ip h c22
        refine tl_iconst (v := 0) dL_refuses_388 ic_0 (tl_goto (tgt := 399) dL_refuses_389 (by decide) (?_))
        exact tz_fg (ls2 := [some (.ref a1), some (.int x2), some (.int x3), some (.int x4), some (.int x5), some (.int x6), some (.int x7), some (.int x8), some (.int x9), some (.int x10), none]) (And.intro rfl (And.intro rfl (And.intro rfl (And.intro rfl (And.intro rfl (And.intro rfl (And.intro rfl (And.intro rfl (And.intro rfl (And.intro rfl trivial)))))))))) (tz_wd (k2 := 17) (Nat.le_of_ble_eq_true rfl) (lL_refuses_p399 h1 h1 h))

theorem lL_refuses_p332 {E : tl_E} {a1 : Nat} {x2 : Int32} {x3 : Int32} {x4 : Int32} {x5 : Int32} {x6 : Int32} {x7 : Int32} {x8 : Int32} {x9 : Int32} {x10 : Int32} {u : tz_U} {r : Int32} {v : tz_U} (h1 : tz_on E a1) (h : fL_refuses_p332 a1 x2 x3 x4 x5 x6 x7 x8 x9 x10 u = some (r, v)) : tz_R E mL_refuses tl_X0 (tl_Z E mL_refuses (tz_Q E r v)) 15 (tz_HU E u) 332 [some (.ref a1), some (.int x2), some (.int x3), some (.int x4), some (.int x5), some (.int x6), some (.int x7), some (.int x8), some (.int x9), some (.int x10), none] [] := by
  unfold fL_refuses_p332 at h
  refine tl_aload_n dL_refuses_332 rfl (tl_bipush (v := 9) dL_refuses_333 bp_9 (tl_iload_n dL_refuses_335 rfl (tl_iconst (v := 2) dL_refuses_336 ic_2 (tl_irem dL_refuses_337 (by decide) (tl_if_ne (tgt := 345) dL_refuses_338 (by decide) (fun c11 => ?_) (fun c11 => ?_))))))
  · replace h := tl_in h c11
    refine tl_bipush (v := 61) dL_refuses_345 bp_61 (tl_iload_n dL_refuses_347 rfl (tl_bipush (v := 9) dL_refuses_348 bp_9 (tl_irem dL_refuses_350 (by decide) (tl_iadd dL_refuses_351 (?_)))))
    exact tz_fg (ls2 := [some (.ref a1), some (.int x2), some (.int x3), some (.int x4), some (.int x5), some (.int x6), some (.int x7), some (.int x8), some (.int x9), some (.int x10), none]) (And.intro rfl (And.intro rfl (And.intro rfl (And.intro rfl (And.intro rfl (And.intro rfl (And.intro rfl (And.intro rfl (And.intro rfl (And.intro rfl trivial)))))))))) (tz_wd (k2 := 15) (Nat.le_of_ble_eq_true rfl) (lL_refuses_p352 h1 h1 h))
  · replace h := tl_ip h c11
    refine tl_iconst (v := 0) dL_refuses_341 ic_0 (tl_goto (tgt := 352) dL_refuses_342 (by decide) (?_))
    exact tz_fg (ls2 := [some (.ref a1), some (.int x2), some (.int x3), some (.int x4), some (.int x5), some (.int x6), some (.int x7), some (.int x8), some (.int x9), some (.int x10), none]) (And.intro rfl (And.intro rfl (And.intro rfl (And.intro rfl (And.intro rfl (And.intro rfl (And.intro rfl (And.intro rfl (And.intro rfl (And.intro rfl trivial)))))))))) (tz_wd (k2 := 15) (Nat.le_of_ble_eq_true rfl) (lL_refuses_p352 h1 h1 h))

theorem lL_refuses_p164 {E : tl_E} {a1 : Nat} {x2 : Int32} {x3 : Int32} {x4 : Int32} {x5 : Int32} {x6 : Int32} {x7 : Int32} {x8 : Int32} {x9 : Int32} {x10 : Int32} {x11 : Int32} {x12 : Int32} {a13 : Nat} {u : tz_U} {r : Int32} {v : tz_U} (h1 : tz_on E a1) (h13 : tz_on E a13) (h : fL_refuses_p164 a1 x2 x3 x4 x5 x6 x7 x8 x9 x10 x11 x12 a13 u = some (r, v)) : tz_R E mL_refuses tl_X0 (tl_Z E mL_refuses (tz_Q E r v)) 5 (tz_HU E u) 164 [some (.ref a1), some (.int x2), some (.int x3), some (.int x4), some (.int x5), some (.int x6), some (.int x7), some (.int x8), some (.int x9), some (.int x10), none] [.int x11, .int x12, .ref a13] := by
  unfold fL_refuses_p164 at h
  obtain ⟨x14, u16, e15, h⟩ := tl_b2i h
  refine tl_iconst (v := 0) dL_refuses_164 ic_0 (tl_iconst (v := 0) dL_refuses_165 ic_0 (tz_cS5 (lL_call h13 e15) dL_refuses_166 cs_L_refuses_189 (c := 1) ⟨rfl, rfl⟩ (k2 := 6) (Nat.le_of_ble_eq_true rfl) (CM := 56) ⟨Nat.le_of_ble_eq_true rfl, Nat.le_of_ble_eq_true rfl⟩ (Nat.le_of_ble_eq_true rfl) (Nat.le_of_ble_eq_true rfl) (tl_ldc dL_refuses_169 kc_L_18 (tl_icmp_ne (tgt := 968) dL_refuses_171 (by decide) (fun c17 => ?_) (fun c17 => ?_)))))
  · replace h := tl_in h c17
    refine tl_iconst (v := 0) dL_refuses_968 ic_0 (?_)
    exact tz_fg (ls2 := [some (.ref a1), some (.int x2), some (.int x3), some (.int x4), some (.int x5), some (.int x6), none, none, none, none, none]) (And.intro rfl (And.intro rfl (And.intro rfl (And.intro rfl (And.intro rfl (And.intro rfl trivial)))))) (tz_wd (k2 := 47) (Nat.le_of_ble_eq_true rfl) (lL_refuses_p969 h1 h))
  · replace h := tl_ip h c17
    obtain ⟨x18, u20, e19, h⟩ := tl_b2i h
    refine tl_aload_n dL_refuses_174 rfl (tl_iconst (v := 2) dL_refuses_175 ic_2 (tl_bipush (v := 13) dL_refuses_176 bp_13 (tl_iload_n dL_refuses_178 rfl (tl_bipush (v := 50) dL_refuses_179 bp_50 (tl_irem dL_refuses_181 (by decide) (tl_iadd dL_refuses_182 (tl_iconst (v := 0) dL_refuses_183 ic_0 (tl_iconst (v := 0) dL_refuses_184 ic_0 (tz_cS5 (lL_call h1 e19) dL_refuses_185 cs_L_refuses_189 (c := 1) ⟨rfl, rfl⟩ (k2 := 7) (Nat.le_of_ble_eq_true rfl) (CM := 56) ⟨Nat.le_of_ble_eq_true rfl, Nat.le_of_ble_eq_true rfl⟩ (Nat.le_of_ble_eq_true rfl) (Nat.le_of_ble_eq_true rfl) (tl_ldc dL_refuses_188 kc_L_18 (tl_icmp_ne (tgt := 968) dL_refuses_190 (by decide) (fun c21 => ?_) (fun c21 => ?_))))))))))))
    · replace h := tl_in h c21
      refine tl_iconst (v := 0) dL_refuses_968 ic_0 (?_)
      exact tz_fg (ls2 := [some (.ref a1), some (.int x2), some (.int x3), some (.int x4), some (.int x5), some (.int x6), none, none, none, none, none]) (And.intro rfl (And.intro rfl (And.intro rfl (And.intro rfl (And.intro rfl (And.intro rfl trivial)))))) (tz_wd (k2 := 47) (Nat.le_of_ble_eq_true rfl) (lL_refuses_p969 h1 h))
    · replace h := tl_ip h c21
      obtain ⟨x22, u24, e23, h⟩ := tl_b2i h
      refine tl_aload_n dL_refuses_193 rfl (tl_iconst (v := 3) dL_refuses_194 ic_3 (tl_iload dL_refuses_195 rfl (tl_bipush (v := 99) dL_refuses_197 bp_99 (tl_iconst (v := 0) dL_refuses_199 ic_0 (tz_cS5 (lL_call h1 e23) dL_refuses_200 cs_L_refuses_189 (c := 1) ⟨rfl, rfl⟩ (k2 := 8) (Nat.le_of_ble_eq_true rfl) (CM := 56) ⟨Nat.le_of_ble_eq_true rfl, Nat.le_of_ble_eq_true rfl⟩ (Nat.le_of_ble_eq_true rfl) (Nat.le_of_ble_eq_true rfl) (tl_ldc dL_refuses_203 kc_L_15 (tl_icmp_ne (tgt := 968) dL_refuses_205 (by decide) (fun c25 => ?_) (fun c25 => ?_))))))))
      · replace h := tl_in h c25
        refine tl_iconst (v := 0) dL_refuses_968 ic_0 (?_)
        exact tz_fg (ls2 := [some (.ref a1), some (.int x2), some (.int x3), some (.int x4), some (.int x5), some (.int x6), none, none, none, none, none]) (And.intro rfl (And.intro rfl (And.intro rfl (And.intro rfl (And.intro rfl (And.intro rfl trivial)))))) (tz_wd (k2 := 47) (Nat.le_of_ble_eq_true rfl) (lL_refuses_p969 h1 h))
      · replace h := tl_ip h c25
        obtain ⟨x26, u28, e27, h⟩ := tl_b2i h
        refine tl_aload_n dL_refuses_208 rfl (tl_iconst (v := 3) dL_refuses_209 ic_3 (tl_iconst (v := 0) dL_refuses_210 ic_0 (tl_bipush (v := 6) dL_refuses_211 bp_6 (tl_iload_n dL_refuses_213 rfl (tl_bipush (v := 9) dL_refuses_214 bp_9 (tl_irem dL_refuses_216 (by decide) (tl_iadd dL_refuses_217 (tl_iconst (v := 0) dL_refuses_218 ic_0 (tz_cS5 (lL_call h1 e27) dL_refuses_219 cs_L_refuses_189 (c := 1) ⟨rfl, rfl⟩ (k2 := 9) (Nat.le_of_ble_eq_true rfl) (CM := 56) ⟨Nat.le_of_ble_eq_true rfl, Nat.le_of_ble_eq_true rfl⟩ (Nat.le_of_ble_eq_true rfl) (Nat.le_of_ble_eq_true rfl) (tl_ldc dL_refuses_222 kc_L_18 (tl_icmp_ne (tgt := 968) dL_refuses_224 (by decide) (fun c29 => ?_) (fun c29 => ?_))))))))))))
        · replace h := tl_in h c29
          refine tl_iconst (v := 0) dL_refuses_968 ic_0 (?_)
          exact tz_fg (ls2 := [some (.ref a1), some (.int x2), some (.int x3), some (.int x4), some (.int x5), some (.int x6), none, none, none, none, none]) (And.intro rfl (And.intro rfl (And.intro rfl (And.intro rfl (And.intro rfl (And.intro rfl trivial)))))) (tz_wd (k2 := 47) (Nat.le_of_ble_eq_true rfl) (lL_refuses_p969 h1 h))
        · replace h := tl_ip h c29
          obtain ⟨x30, u32, e31, h⟩ := tl_b2i h
          refine tl_aload_n dL_refuses_227 rfl (tl_iconst (v := 4) dL_refuses_228 ic_4 (tl_iload dL_refuses_229 rfl (tl_bipush (v := 99) dL_refuses_231 bp_99 (tl_iconst (v := 0) dL_refuses_233 ic_0 (tz_cS5 (lL_call h1 e31) dL_refuses_234 cs_L_refuses_189 (c := 1) ⟨rfl, rfl⟩ (k2 := 10) (Nat.le_of_ble_eq_true rfl) (CM := 56) ⟨Nat.le_of_ble_eq_true rfl, Nat.le_of_ble_eq_true rfl⟩ (Nat.le_of_ble_eq_true rfl) (Nat.le_of_ble_eq_true rfl) (tl_ldc dL_refuses_237 kc_L_15 (tl_icmp_ne (tgt := 968) dL_refuses_239 (by decide) (fun c33 => ?_) (fun c33 => ?_))))))))
          · replace h := tl_in h c33
            refine tl_iconst (v := 0) dL_refuses_968 ic_0 (?_)
            exact tz_fg (ls2 := [some (.ref a1), some (.int x2), some (.int x3), some (.int x4), some (.int x5), some (.int x6), none, none, none, none, none]) (And.intro rfl (And.intro rfl (And.intro rfl (And.intro rfl (And.intro rfl (And.intro rfl trivial)))))) (tz_wd (k2 := 47) (Nat.le_of_ble_eq_true rfl) (lL_refuses_p969 h1 h))
          · replace h := tl_ip h c33
            obtain ⟨x34, u36, e35, h⟩ := tl_b2i h
            refine tl_aload_n dL_refuses_242 rfl (tl_iconst (v := 5) dL_refuses_243 ic_5 (tl_iload dL_refuses_244 rfl (tl_bipush (v := 99) dL_refuses_246 bp_99 (tl_iconst (v := 0) dL_refuses_248 ic_0 (tz_cS5 (lL_call h1 e35) dL_refuses_249 cs_L_refuses_189 (c := 1) ⟨rfl, rfl⟩ (k2 := 11) (Nat.le_of_ble_eq_true rfl) (CM := 56) ⟨Nat.le_of_ble_eq_true rfl, Nat.le_of_ble_eq_true rfl⟩ (Nat.le_of_ble_eq_true rfl) (Nat.le_of_ble_eq_true rfl) (tl_ldc dL_refuses_252 kc_L_15 (tl_icmp_ne (tgt := 968) dL_refuses_254 (by decide) (fun c37 => ?_) (fun c37 => ?_))))))))
            · replace h := tl_in h c37
              refine tl_iconst (v := 0) dL_refuses_968 ic_0 (?_)
              exact tz_fg (ls2 := [some (.ref a1), some (.int x2), some (.int x3), some (.int x4), some (.int x5), some (.int x6), none, none, none, none, none]) (And.intro rfl (And.intro rfl (And.intro rfl (And.intro rfl (And.intro rfl (And.intro rfl trivial)))))) (tz_wd (k2 := 47) (Nat.le_of_ble_eq_true rfl) (lL_refuses_p969 h1 h))
            · replace h := tl_ip h c37
              obtain ⟨x38, u40, e39, h⟩ := tl_b2i h
              refine tl_aload_n dL_refuses_257 rfl (tl_bipush (v := 6) dL_refuses_258 bp_6 (tl_iconst (v := 4) dL_refuses_260 ic_4 (tl_iload_n dL_refuses_261 rfl (tl_bipush (v := 9) dL_refuses_262 bp_9 (tl_irem dL_refuses_264 (by decide) (tl_iadd dL_refuses_265 (tl_iconst (v := 0) dL_refuses_266 ic_0 (tl_iconst (v := 0) dL_refuses_267 ic_0 (tz_cS5 (lL_call h1 e39) dL_refuses_268 cs_L_refuses_189 (c := 1) ⟨rfl, rfl⟩ (k2 := 12) (Nat.le_of_ble_eq_true rfl) (CM := 56) ⟨Nat.le_of_ble_eq_true rfl, Nat.le_of_ble_eq_true rfl⟩ (Nat.le_of_ble_eq_true rfl) (Nat.le_of_ble_eq_true rfl) (tl_ldc dL_refuses_271 kc_L_18 (tl_icmp_ne (tgt := 968) dL_refuses_273 (by decide) (fun c41 => ?_) (fun c41 => ?_))))))))))))
              · replace h := tl_in h c41
                refine tl_iconst (v := 0) dL_refuses_968 ic_0 (?_)
                exact tz_fg (ls2 := [some (.ref a1), some (.int x2), some (.int x3), some (.int x4), some (.int x5), some (.int x6), none, none, none, none, none]) (And.intro rfl (And.intro rfl (And.intro rfl (And.intro rfl (And.intro rfl (And.intro rfl trivial)))))) (tz_wd (k2 := 47) (Nat.le_of_ble_eq_true rfl) (lL_refuses_p969 h1 h))
              · replace h := tl_ip h c41
                obtain ⟨x42, u44, e43, h⟩ := tl_b2i h
                refine tl_aload_n dL_refuses_276 rfl (tl_bipush (v := 7) dL_refuses_277 bp_7 (tl_iload dL_refuses_279 rfl (tl_iload_n dL_refuses_281 rfl (tl_bipush (v := 9) dL_refuses_282 bp_9 (tl_irem dL_refuses_284 (by decide) (tl_iadd dL_refuses_285 (tl_bipush (v := 99) dL_refuses_286 bp_99 (tl_iconst (v := 0) dL_refuses_288 ic_0 (tz_cS5 (lL_call h1 e43) dL_refuses_289 cs_L_refuses_189 (c := 1) ⟨rfl, rfl⟩ (k2 := 13) (Nat.le_of_ble_eq_true rfl) (CM := 56) ⟨Nat.le_of_ble_eq_true rfl, Nat.le_of_ble_eq_true rfl⟩ (Nat.le_of_ble_eq_true rfl) (Nat.le_of_ble_eq_true rfl) (tl_ldc dL_refuses_292 kc_L_15 (tl_icmp_ne (tgt := 968) dL_refuses_294 (by decide) (fun c45 => ?_) (fun c45 => ?_))))))))))))
                · replace h := tl_in h c45
                  refine tl_iconst (v := 0) dL_refuses_968 ic_0 (?_)
                  exact tz_fg (ls2 := [some (.ref a1), some (.int x2), some (.int x3), some (.int x4), some (.int x5), some (.int x6), none, none, none, none, none]) (And.intro rfl (And.intro rfl (And.intro rfl (And.intro rfl (And.intro rfl (And.intro rfl trivial)))))) (tz_wd (k2 := 47) (Nat.le_of_ble_eq_true rfl) (lL_refuses_p969 h1 h))
                · replace h := tl_ip h c45
                  obtain ⟨x46, u48, e47, h⟩ := tl_b2i h
                  refine tl_aload_n dL_refuses_297 rfl (tl_bipush (v := 8) dL_refuses_298 bp_8 (tl_iload dL_refuses_300 rfl (tl_bipush (v := 9) dL_refuses_302 bp_9 (tl_iconst (v := 0) dL_refuses_304 ic_0 (tz_cS5 (lL_call h1 e47) dL_refuses_305 cs_L_refuses_189 (c := 1) ⟨rfl, rfl⟩ (k2 := 14) (Nat.le_of_ble_eq_true rfl) (CM := 56) ⟨Nat.le_of_ble_eq_true rfl, Nat.le_of_ble_eq_true rfl⟩ (Nat.le_of_ble_eq_true rfl) (Nat.le_of_ble_eq_true rfl) (tl_ldc dL_refuses_308 kc_L_15 (tl_icmp_ne (tgt := 968) dL_refuses_310 (by decide) (fun c49 => ?_) (fun c49 => ?_))))))))
                  · replace h := tl_in h c49
                    refine tl_iconst (v := 0) dL_refuses_968 ic_0 (?_)
                    exact tz_fg (ls2 := [some (.ref a1), some (.int x2), some (.int x3), some (.int x4), some (.int x5), some (.int x6), none, none, none, none, none]) (And.intro rfl (And.intro rfl (And.intro rfl (And.intro rfl (And.intro rfl (And.intro rfl trivial)))))) (tz_wd (k2 := 47) (Nat.le_of_ble_eq_true rfl) (lL_refuses_p969 h1 h))
                  · replace h := tl_ip h c49
                    obtain ⟨x50, u52, e51, h⟩ := tl_b2i h
                    refine tl_aload_n dL_refuses_313 rfl (tl_bipush (v := 8) dL_refuses_314 bp_8 (tl_iconst (v := 0) dL_refuses_316 ic_0 (tl_iconst (v := 2) dL_refuses_317 ic_2 (tl_iload_n dL_refuses_318 rfl (tl_bipush (v := 9) dL_refuses_319 bp_9 (tl_irem dL_refuses_321 (by decide) (tl_iadd dL_refuses_322 (tl_iconst (v := 0) dL_refuses_323 ic_0 (tz_cS5 (lL_call h1 e51) dL_refuses_324 cs_L_refuses_189 (c := 1) ⟨rfl, rfl⟩ (k2 := 15) (Nat.le_of_ble_eq_true rfl) (CM := 56) ⟨Nat.le_of_ble_eq_true rfl, Nat.le_of_ble_eq_true rfl⟩ (Nat.le_of_ble_eq_true rfl) (Nat.le_of_ble_eq_true rfl) (tl_ldc dL_refuses_327 kc_L_18 (tl_icmp_ne (tgt := 968) dL_refuses_329 (by decide) (fun c53 => ?_) (fun c53 => ?_))))))))))))
                    · replace h := tl_in h c53
                      refine tl_iconst (v := 0) dL_refuses_968 ic_0 (?_)
                      exact tz_fg (ls2 := [some (.ref a1), some (.int x2), some (.int x3), some (.int x4), some (.int x5), some (.int x6), none, none, none, none, none]) (And.intro rfl (And.intro rfl (And.intro rfl (And.intro rfl (And.intro rfl (And.intro rfl trivial)))))) (tz_wd (k2 := 47) (Nat.le_of_ble_eq_true rfl) (lL_refuses_p969 h1 h))
                    · replace h := tl_ip h c53
                      exact tz_fg (ls2 := [some (.ref a1), some (.int x2), some (.int x3), some (.int x4), some (.int x5), some (.int x6), some (.int x7), some (.int x8), some (.int x9), some (.int x10), none]) (And.intro rfl (And.intro rfl (And.intro rfl (And.intro rfl (And.intro rfl (And.intro rfl (And.intro rfl (And.intro rfl (And.intro rfl (And.intro rfl trivial)))))))))) (tz_wd (k2 := 15) (Nat.le_of_ble_eq_true rfl) (lL_refuses_p332 h1 h))

theorem lL_refuses_p137 {E : tl_E} {a1 : Nat} {x2 : Int32} {x3 : Int32} {x4 : Int32} {x5 : Int32} {x6 : Int32} {x7 : Int32} {x8 : Int32} {x9 : Int32} {x10 : Int32} {u : tz_U} {r : Int32} {v : tz_U} (h1 : tz_on E a1) (h : fL_refuses_p137 a1 x2 x3 x4 x5 x6 x7 x8 x9 x10 u = some (r, v)) : tz_R E mL_refuses tl_X0 (tl_Z E mL_refuses (tz_Q E r v)) 5 (tz_HU E u) 137 [some (.ref a1), some (.int x2), some (.int x3), some (.int x4), some (.int x5), some (.int x6), some (.int x7), some (.int x8), some (.int x9), none, none] [.int x10] := by
  unfold fL_refuses_p137 at h
  refine tl_istore dL_refuses_137 (Nat.le_of_ble_eq_true rfl) (tl_aload_n dL_refuses_139 rfl (tl_iconst (v := 0) dL_refuses_140 ic_0 (tl_iload_n dL_refuses_141 rfl (tl_iconst (v := 2) dL_refuses_142 ic_2 (tl_irem dL_refuses_143 (by decide) (tl_if_ne (tgt := 156) dL_refuses_144 (by decide) (fun c11 => ?_) (fun c11 => ?_)))))))
  · replace h := tl_in h c11
    refine tl_sipush (v := 256) dL_refuses_156 sp_256 (tl_iload_n dL_refuses_159 rfl (tl_bipush (v := 9) dL_refuses_160 bp_9 (tl_irem dL_refuses_162 (by decide) (tl_iadd dL_refuses_163 (?_)))))
    exact tz_fg (ls2 := [some (.ref a1), some (.int x2), some (.int x3), some (.int x4), some (.int x5), some (.int x6), some (.int x7), some (.int x8), some (.int x9), some (.int x10), none]) (And.intro rfl (And.intro rfl (And.intro rfl (And.intro rfl (And.intro rfl (And.intro rfl (And.intro rfl (And.intro rfl (And.intro rfl (And.intro rfl trivial)))))))))) (tz_wd (k2 := 5) (Nat.le_of_ble_eq_true rfl) (lL_refuses_p164 h1 h1 h))
  · replace h := tl_ip h c11
    refine tl_iconst (v := (-1)) dL_refuses_147 ic_m1 (tl_iload_n dL_refuses_148 rfl (tl_bipush (v := 9) dL_refuses_149 bp_9 (tl_irem dL_refuses_151 (by decide) (tl_isub dL_refuses_152 (tl_goto (tgt := 164) dL_refuses_153 (by decide) (?_))))))
    exact tz_fg (ls2 := [some (.ref a1), some (.int x2), some (.int x3), some (.int x4), some (.int x5), some (.int x6), some (.int x7), some (.int x8), some (.int x9), some (.int x10), none]) (And.intro rfl (And.intro rfl (And.intro rfl (And.intro rfl (And.intro rfl (And.intro rfl (And.intro rfl (And.intro rfl (And.intro rfl (And.intro rfl trivial)))))))))) (tz_wd (k2 := 5) (Nat.le_of_ble_eq_true rfl) (lL_refuses_p164 h1 h1 h))

theorem lL_refuses_p107 {E : tl_E} {a1 : Nat} {x2 : Int32} {x3 : Int32} {x4 : Int32} {x5 : Int32} {x6 : Int32} {x7 : Int32} {x8 : Int32} {x9 : Int32} {u : tz_U} {r : Int32} {v : tz_U} (h1 : tz_on E a1) (h : fL_refuses_p107 a1 x2 x3 x4 x5 x6 x7 x8 x9 u = some (r, v)) : tz_R E mL_refuses tl_X0 (tl_Z E mL_refuses (tz_Q E r v)) 4 (tz_HU E u) 107 [some (.ref a1), some (.int x2), some (.int x3), some (.int x4), some (.int x5), some (.int x6), some (.int x7), some (.int x8), none, none, none] [.int x9] := by
  unfold fL_refuses_p107 at h
  refine tl_istore dL_refuses_107 (Nat.le_of_ble_eq_true rfl) (tl_iload_n dL_refuses_109 rfl (tl_iconst (v := 2) dL_refuses_110 ic_2 (tl_irem dL_refuses_111 (by decide) (tl_if_ne (tgt := 124) dL_refuses_112 (by decide) (fun c10 => ?_) (fun c10 => ?_)))))
  · replace h := tl_in h c10
    obtain ⟨x11, u13, e12, h⟩ := tl_b2i h
    refine tl_aload_n dL_refuses_124 rfl (tl_iconst (v := 3) dL_refuses_125 ic_3 (tl_iconst (v := 0) dL_refuses_126 ic_0 (tl_iconst (v := 0) dL_refuses_127 ic_0 (tl_iconst (v := 0) dL_refuses_128 ic_0 (tz_cS5 (lL_call h1 e12) dL_refuses_129 cs_L_refuses_189 (c := 1) ⟨rfl, rfl⟩ (k2 := 5) (Nat.le_of_ble_eq_true rfl) (CM := 56) ⟨Nat.le_of_ble_eq_true rfl, Nat.le_of_ble_eq_true rfl⟩ (Nat.le_of_ble_eq_true rfl) (Nat.le_of_ble_eq_true rfl) (tl_iload_n dL_refuses_132 rfl (tl_bipush (v := 99) dL_refuses_133 bp_99 (tl_irem dL_refuses_135 (by decide) (tl_iadd dL_refuses_136 (?_))))))))))
    exact tz_fg (ls2 := [some (.ref a1), some (.int x2), some (.int x3), some (.int x4), some (.int x5), some (.int x6), some (.int x7), some (.int x8), some (.int x9), none, none]) (And.intro rfl (And.intro rfl (And.intro rfl (And.intro rfl (And.intro rfl (And.intro rfl (And.intro rfl (And.intro rfl (And.intro rfl trivial))))))))) (tz_wd (k2 := 5) (Nat.le_of_ble_eq_true rfl) (lL_refuses_p137 h1 h))
  · replace h := tl_ip h c10
    refine tl_iconst (v := (-1)) dL_refuses_115 ic_m1 (tl_iload_n dL_refuses_116 rfl (tl_bipush (v := 99) dL_refuses_117 bp_99 (tl_irem dL_refuses_119 (by decide) (tl_isub dL_refuses_120 (tl_goto (tgt := 137) dL_refuses_121 (by decide) (?_))))))
    exact tz_fg (ls2 := [some (.ref a1), some (.int x2), some (.int x3), some (.int x4), some (.int x5), some (.int x6), some (.int x7), some (.int x8), some (.int x9), none, none]) (And.intro rfl (And.intro rfl (And.intro rfl (And.intro rfl (And.intro rfl (And.intro rfl (And.intro rfl (And.intro rfl (And.intro rfl trivial))))))))) (tz_wd (k2 := 5) (Nat.le_of_ble_eq_true rfl) (lL_refuses_p137 h1 h))

theorem lL_refuses_p83 {E : tl_E} {a1 : Nat} {x2 : Int32} {x3 : Int32} {x4 : Int32} {x5 : Int32} {x6 : Int32} {x7 : Int32} {x8 : Int32} {u : tz_U} {r : Int32} {v : tz_U} (h1 : tz_on E a1) (h : fL_refuses_p83 a1 x2 x3 x4 x5 x6 x7 x8 u = some (r, v)) : tz_R E mL_refuses tl_X0 (tl_Z E mL_refuses (tz_Q E r v)) 4 (tz_HU E u) 83 [some (.ref a1), some (.int x2), some (.int x3), some (.int x4), some (.int x5), some (.int x6), some (.int x7), none, none, none, none] [.int x8] := by
  unfold fL_refuses_p83 at h
  refine tl_istore dL_refuses_83 (Nat.le_of_ble_eq_true rfl) (tl_iload_n dL_refuses_85 rfl (tl_iconst (v := 2) dL_refuses_86 ic_2 (tl_irem dL_refuses_87 (by decide) (tl_if_ne (tgt := 100) dL_refuses_88 (by decide) (fun c9 => ?_) (fun c9 => ?_)))))
  · replace h := tl_in h c9
    refine tl_iload dL_refuses_100 rfl (tl_iload_n dL_refuses_102 rfl (tl_bipush (v := 99) dL_refuses_103 bp_99 (tl_irem dL_refuses_105 (by decide) (tl_iadd dL_refuses_106 (?_)))))
    exact tz_fg (ls2 := [some (.ref a1), some (.int x2), some (.int x3), some (.int x4), some (.int x5), some (.int x6), some (.int x7), some (.int x8), none, none, none]) (And.intro rfl (And.intro rfl (And.intro rfl (And.intro rfl (And.intro rfl (And.intro rfl (And.intro rfl (And.intro rfl trivial)))))))) (tz_wd (k2 := 4) (Nat.le_of_ble_eq_true rfl) (lL_refuses_p107 h1 h))
  · replace h := tl_ip h c9
    refine tl_iconst (v := (-1)) dL_refuses_91 ic_m1 (tl_iload_n dL_refuses_92 rfl (tl_bipush (v := 99) dL_refuses_93 bp_99 (tl_irem dL_refuses_95 (by decide) (tl_isub dL_refuses_96 (tl_goto (tgt := 107) dL_refuses_97 (by decide) (?_))))))
    exact tz_fg (ls2 := [some (.ref a1), some (.int x2), some (.int x3), some (.int x4), some (.int x5), some (.int x6), some (.int x7), some (.int x8), none, none, none]) (And.intro rfl (And.intro rfl (And.intro rfl (And.intro rfl (And.intro rfl (And.intro rfl (And.intro rfl (And.intro rfl trivial)))))))) (tz_wd (k2 := 4) (Nat.le_of_ble_eq_true rfl) (lL_refuses_p107 h1 h))

theorem lL_refuses_p60 {E : tl_E} {a1 : Nat} {x2 : Int32} {x3 : Int32} {x4 : Int32} {x5 : Int32} {x6 : Int32} {x7 : Int32} {u : tz_U} {r : Int32} {v : tz_U} (h1 : tz_on E a1) (h : fL_refuses_p60 a1 x2 x3 x4 x5 x6 x7 u = some (r, v)) : tz_R E mL_refuses tl_X0 (tl_Z E mL_refuses (tz_Q E r v)) 4 (tz_HU E u) 60 [some (.ref a1), some (.int x2), some (.int x3), some (.int x4), some (.int x5), some (.int x6), none, none, none, none, none] [.int x7] := by
  unfold fL_refuses_p60 at h
  refine tl_istore dL_refuses_60 (Nat.le_of_ble_eq_true rfl) (tl_iload_n dL_refuses_62 rfl (tl_iconst (v := 2) dL_refuses_63 ic_2 (tl_irem dL_refuses_64 (by decide) (tl_if_ne (tgt := 77) dL_refuses_65 (by decide) (fun c8 => ?_) (fun c8 => ?_)))))
  · replace h := tl_in h c8
    refine tl_iload_n dL_refuses_77 rfl (tl_iload_n dL_refuses_78 rfl (tl_bipush (v := 99) dL_refuses_79 bp_99 (tl_irem dL_refuses_81 (by decide) (tl_iadd dL_refuses_82 (?_)))))
    exact tz_fg (ls2 := [some (.ref a1), some (.int x2), some (.int x3), some (.int x4), some (.int x5), some (.int x6), some (.int x7), none, none, none, none]) (And.intro rfl (And.intro rfl (And.intro rfl (And.intro rfl (And.intro rfl (And.intro rfl (And.intro rfl trivial))))))) (tz_wd (k2 := 4) (Nat.le_of_ble_eq_true rfl) (lL_refuses_p83 h1 h))
  · replace h := tl_ip h c8
    refine tl_iconst (v := (-1)) dL_refuses_68 ic_m1 (tl_iload_n dL_refuses_69 rfl (tl_bipush (v := 99) dL_refuses_70 bp_99 (tl_irem dL_refuses_72 (by decide) (tl_isub dL_refuses_73 (tl_goto (tgt := 83) dL_refuses_74 (by decide) (?_))))))
    exact tz_fg (ls2 := [some (.ref a1), some (.int x2), some (.int x3), some (.int x4), some (.int x5), some (.int x6), some (.int x7), none, none, none, none]) (And.intro rfl (And.intro rfl (And.intro rfl (And.intro rfl (And.intro rfl (And.intro rfl (And.intro rfl trivial))))))) (tz_wd (k2 := 4) (Nat.le_of_ble_eq_true rfl) (lL_refuses_p83 h1 h))

theorem lL_refuses {E : tl_E} {a1 : Nat} {x2 : Int32} {u : tz_U} {r : Int32} {v : tz_U} (h1 : tz_on E a1) (h : fL_refuses a1 x2 u = some (r, v)) : tz_ML E mL_refuses [.ref a1, .int x2] u r v := by
  unfold fL_refuses at h
  refine tl_start [some (.ref a1), some (.int x2), none, none, none, none, none, none, none, none, none] rfl rfl rfl (Nat.le_of_ble_eq_true rfl) (tz_st (tz_fg (ls2 := [some (.ref a1), some (.int x2), none, none, none, none, none, none, none, none, none]) (And.intro rfl (And.intro rfl trivial)) ?_))
  obtain ⟨x3, u5, e4, h⟩ := tl_b2i h
  obtain ⟨x6, u8, e7, h⟩ := tl_b2i h
  obtain ⟨x9, u11, e10, h⟩ := tl_b2i h
  obtain ⟨x12, u14, e13, h⟩ := tl_b2i h
  refine tl_aload_n dL_refuses_0 rfl (tl_iconst (v := 2) dL_refuses_1 ic_2 (tl_iconst (v := 0) dL_refuses_2 ic_0 (tl_iconst (v := 0) dL_refuses_3 ic_0 (tl_iconst (v := 0) dL_refuses_4 ic_0 (tz_cS5 (lL_call h1 e4) dL_refuses_5 cs_L_refuses_189 (c := 1) ⟨rfl, rfl⟩ (k2 := 1) (Nat.le_of_ble_eq_true rfl) (CM := 56) ⟨Nat.le_of_ble_eq_true rfl, Nat.le_of_ble_eq_true rfl⟩ (Nat.le_of_ble_eq_true rfl) (Nat.le_of_ble_eq_true rfl) (tl_istore_n dL_refuses_8 (Nat.le_of_ble_eq_true rfl) (tl_aload_n dL_refuses_9 rfl (tl_iconst (v := 2) dL_refuses_10 ic_2 (tl_iconst (v := 1) dL_refuses_11 ic_1 (tl_iconst (v := 0) dL_refuses_12 ic_0 (tl_iconst (v := 0) dL_refuses_13 ic_0 (tz_cS5 (lL_call h1 e7) dL_refuses_14 cs_L_refuses_189 (c := 1) ⟨rfl, rfl⟩ (k2 := 2) (Nat.le_of_ble_eq_true rfl) (CM := 56) ⟨Nat.le_of_ble_eq_true rfl, Nat.le_of_ble_eq_true rfl⟩ (Nat.le_of_ble_eq_true rfl) (Nat.le_of_ble_eq_true rfl) (tl_istore_n dL_refuses_17 (Nat.le_of_ble_eq_true rfl) (tl_aload_n dL_refuses_18 rfl (tl_iconst (v := 2) dL_refuses_19 ic_2 (tl_iconst (v := 2) dL_refuses_20 ic_2 (tl_iconst (v := 0) dL_refuses_21 ic_0 (tl_iconst (v := 0) dL_refuses_22 ic_0 (tz_cS5 (lL_call h1 e10) dL_refuses_23 cs_L_refuses_189 (c := 1) ⟨rfl, rfl⟩ (k2 := 3) (Nat.le_of_ble_eq_true rfl) (CM := 56) ⟨Nat.le_of_ble_eq_true rfl, Nat.le_of_ble_eq_true rfl⟩ (Nat.le_of_ble_eq_true rfl) (Nat.le_of_ble_eq_true rfl) (tl_istore dL_refuses_26 (Nat.le_of_ble_eq_true rfl) (tl_aload_n dL_refuses_28 rfl (tl_iconst (v := 2) dL_refuses_29 ic_2 (tl_bipush (v := 10) dL_refuses_30 bp_10 (tl_iconst (v := 0) dL_refuses_32 ic_0 (tl_iconst (v := 0) dL_refuses_33 ic_0 (tz_cS5 (lL_call h1 e13) dL_refuses_34 cs_L_refuses_189 (c := 1) ⟨rfl, rfl⟩ (k2 := 4) (Nat.le_of_ble_eq_true rfl) (CM := 56) ⟨Nat.le_of_ble_eq_true rfl, Nat.le_of_ble_eq_true rfl⟩ (Nat.le_of_ble_eq_true rfl) (Nat.le_of_ble_eq_true rfl) (tl_istore dL_refuses_37 (Nat.le_of_ble_eq_true rfl) (tl_iload_n dL_refuses_39 rfl (tl_iconst (v := 2) dL_refuses_40 ic_2 (tl_irem dL_refuses_41 (by decide) (tl_if_ne (tgt := 54) dL_refuses_42 (by decide) (fun c15 => ?_) (fun c15 => ?_))))))))))))))))))))))))))))))))
  · replace h := tl_in h c15
    refine tl_iload_n dL_refuses_54 rfl (tl_iload_n dL_refuses_55 rfl (tl_bipush (v := 99) dL_refuses_56 bp_99 (tl_irem dL_refuses_58 (by decide) (tl_iadd dL_refuses_59 (?_)))))
    exact tz_fg (ls2 := [some (.ref a1), some (.int x2), some (.int x3), some (.int x6), some (.int x9), some (.int x12), none, none, none, none, none]) (And.intro rfl (And.intro rfl (And.intro rfl (And.intro rfl (And.intro rfl (And.intro rfl trivial)))))) (tz_wd (k2 := 4) (Nat.le_of_ble_eq_true rfl) (lL_refuses_p60 h1 h))
  · replace h := tl_ip h c15
    refine tl_iconst (v := (-1)) dL_refuses_45 ic_m1 (tl_iload_n dL_refuses_46 rfl (tl_bipush (v := 99) dL_refuses_47 bp_99 (tl_irem dL_refuses_49 (by decide) (tl_isub dL_refuses_50 (tl_goto (tgt := 60) dL_refuses_51 (by decide) (?_))))))
    exact tz_fg (ls2 := [some (.ref a1), some (.int x2), some (.int x3), some (.int x6), some (.int x9), some (.int x12), none, none, none, none, none]) (And.intro rfl (And.intro rfl (And.intro rfl (And.intro rfl (And.intro rfl (And.intro rfl trivial)))))) (tz_wd (k2 := 4) (Nat.le_of_ble_eq_true rfl) (lL_refuses_p60 h1 h))

