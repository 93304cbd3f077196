/-! Printed by wip/p34/gen: what the law's methods compute, and their walks. -/
theorem cs_L_holds_189 : tl_cS mL_holds mL_call 189 5 := ⟨cd_L_call, ml_L_189, sm_L_call, in_L, ⟨by decide, by decide, by decide +kernel⟩, Nat.le_of_ble_eq_true rfl, Nat.le_of_ble_eq_true rfl⟩
theorem cs_L_holds_209 : tl_cV mL_holds mX9_doneIn 209 0 := ⟨cd_X9_doneIn, ml_L_209, im_X9_doneIn, se_X9_doneIn, in_X9, ⟨by decide, by decide, by decide +kernel⟩, Nat.le_of_ble_eq_true rfl, Nat.le_of_ble_eq_true rfl⟩
def fL_holds_p101 : Nat → Nat → Int32 → Int32 → Int32 → Int32 → Int32 → Int32 → Int32 → Int32 → Int32 → Int32 → Int32 → tz_U → Option (Int32 × Int32 × tz_U)
  | 0, _, _, _, _, _, _, _, _, _, _, _, _, _ => none
  | fu + 1, a1, x2, x3, x4, x5, x6, x7, x8, x9, x10, x11, x12, u =>
  (if x4 ≤ x12 then some (x7, x11, u) else (if x11 = 0 then some (x7, x11, u) else tl_b2 (fL_call a1 5 x12 1 0 u) (fun x15 u17 => tl_b2 (fL_call a1 5 x12 2 0 u17) (fun x18 u20 => tl_b2 (fL_call a1 5 x12 3 0 u20) (fun x21 u23 => tl_let ((x7 + x15)) (fun x24 => (if x15 < 0 then tl_let (x12 + 1) (fun x26 => fL_holds_p101 fu a1 x2 x3 x4 x5 x6 x24 x8 x9 x10 0 x26 u23) else (if 99 < x15 then tl_let (x12 + 1) (fun x27 => fL_holds_p101 fu a1 x2 x3 x4 x5 x6 x24 x8 x9 x10 0 x27 u23) else tl_b2 (fL_call a1 5 x12 4 0 u23) (fun x27 u29 => tl_k (fun (y33 : Int32) (u34 : tz_U) => tl_k (fun (y38 : Int32) (u39 : tz_U) => (if y33 = y38 then tl_k (fun (y44 : Int32) (u45 : tz_U) => tl_k (fun (y49 : Int32) (u50 : tz_U) => (if y44 = y49 then tl_k (fun (y55 : Int32) (u56 : tz_U) => tl_k (fun (y60 : Int32) (u61 : tz_U) => (if y55 = y60 then (if x12 = x6 then tl_let (x12 + 1) (fun x64 => fL_holds_p101 fu a1 x2 x3 x4 x5 x6 x24 x8 x9 x10 1 x64 u61) else tl_b2 (fL_call a1 3 x18 0 0 u61) (fun x64 u66 => (if x64 ≤ x21 then tl_let (x12 + 1) (fun x68 => fL_holds_p101 fu a1 x2 x3 x4 x5 x6 x24 x8 x9 x10 0 x68 u66) else tl_let (x12 + 1) (fun x68 => fL_holds_p101 fu a1 x2 x3 x4 x5 x6 x24 x8 x9 x10 1 x68 u66)))) else tl_let (x12 + 1) (fun x63 => fL_holds_p101 fu a1 x2 x3 x4 x5 x6 x24 x8 x9 x10 0 x63 u61))) (fun K57 => (if x12 = x6 then K57 1 u56 else K57 0 u56))) (fun K52 => (if x21 = (-1) then K52 1 u50 else K52 0 u50)) else tl_let (x12 + 1) (fun x52 => fL_holds_p101 fu a1 x2 x3 x4 x5 x6 x24 x8 x9 x10 0 x52 u50))) (fun K46 => (if x12 = x6 then K46 1 u45 else K46 0 u45))) (fun K41 => (if x18 = (-1) then K41 1 u39 else K41 0 u39)) else tl_let (x12 + 1) (fun x41 => fL_holds_p101 fu a1 x2 x3 x4 x5 x6 x24 x8 x9 x10 0 x41 u39))) (fun K35 => (if x15 ≤ 0 then K35 0 u34 else K35 1 u34))) (fun K30 => (if x27 = 1 then K30 1 u29 else K30 0 u29)))))))))))

def fL_holds_p375 : Nat → Nat → Int32 → Int32 → Int32 → Int32 → Int32 → Int32 → Int32 → Int32 → Int32 → Int32 → Int32 → Int32 → Int32 → Int32 → Int32 → Int32 → Int32 → tz_U → Option (Int32 × tz_U)
  | 0, _, _, _, _, _, _, _, _, _, _, _, _, _, _, _, _, _, _, _ => none
  | fu + 1, a1, x2, x3, x4, x5, x6, x7, x8, x9, x10, x11, x12, x13, x14, x15, x16, x17, x18, u =>
  (if x4 ≤ x18 then some (x17, u) else tl_b2 (fL_call a1 5 x18 3 0 u) (fun x20 u22 => tl_let ((x20 - x16)) (fun x23 => tl_b2 (fL_call a1 5 x18 0 0 u22) (fun x24 u26 => (if x17 = 0 then tl_b2 (fL_call a1 5 x18 2 0 u26) (fun x28 u30 => (if x28 = x12 then tl_b2 (fL_call a1 5 x18 1 0 u30) (fun x32 u34 => (if x32 ≤ 0 then tl_let (x18 + 1) (fun x36 => fL_holds_p375 fu a1 x2 x3 x4 x5 x6 x7 x8 x9 x10 x11 x12 x13 x14 x15 x16 0 x36 u34) else (if x24 < x23 then tl_let (x18 + 1) (fun x37 => fL_holds_p375 fu a1 x2 x3 x4 x5 x6 x7 x8 x9 x10 x11 x12 x13 x14 x15 x16 0 x37 u34) else (if x24 < (-x23) then tl_let (x18 + 1) (fun x38 => fL_holds_p375 fu a1 x2 x3 x4 x5 x6 x7 x8 x9 x10 x11 x12 x13 x14 x15 x16 0 x38 u34) else tl_let (x18 + 1) (fun x38 => fL_holds_p375 fu a1 x2 x3 x4 x5 x6 x7 x8 x9 x10 x11 x12 x13 x14 x15 x16 1 x38 u34))))) else tl_let (x18 + 1) (fun x32 => fL_holds_p375 fu a1 x2 x3 x4 x5 x6 x7 x8 x9 x10 x11 x12 x13 x14 x15 x16 0 x32 u30))) else tl_let (x18 + 1) (fun x28 => fL_holds_p375 fu a1 x2 x3 x4 x5 x6 x7 x8 x9 x10 x11 x12 x13 x14 x15 x16 1 x28 u26))))))

def fL_holds_p357 : Nat → Nat → Int32 → Int32 → Int32 → Int32 → Int32 → Int32 → Int32 → Int32 → Int32 → Int32 → Int32 → Int32 → Int32 → Int32 → Int32 → Int32 → tz_U → Option (Int32 × Int32 × tz_U)
  | 0, _, _, _, _, _, _, _, _, _, _, _, _, _, _, _, _, _, _ => none
  | fu + 1, a1, x2, x3, x4, x5, x6, x7, x8, x9, x10, x11, x12, x13, x14, x15, x16, x17, u =>
  (if x13 < x17 then some (x15, x16, u) else (if x11 = 0 then some (x15, x16, u) else tl_b (fL_holds_p375 9 a1 x2 x3 x4 x5 x6 x7 x8 x9 x10 x11 x12 x13 x14 x16 x17 0 0 u) (fun w20 => tl_k (fun (y25 : Int32) (u26 : tz_U) => tl_let ((x16 + y25)) (fun x27 => tl_let (x17 + 1) (fun x28 => fL_holds_p357 fu a1 x2 x3 x4 x5 x6 x7 x8 x9 x10 x11 x12 x13 x14 w20.1 x27 x28 u26))) (fun K22 => (if w20.1 = 0 then K22 0 w20.2 else (if x13 ≤ x17 then K22 0 w20.2 else K22 1 w20.2))))))

def fL_holds_p284 : Nat → Nat → Int32 → Int32 → Int32 → Int32 → Int32 → Int32 → Int32 → Int32 → Int32 → Int32 → Int32 → tz_U → Option (Int32 × Int32 × Int32 × tz_U)
  | 0, _, _, _, _, _, _, _, _, _, _, _, _, _ => none
  | fu + 1, a1, x2, x3, x4, x5, x6, x7, x8, x9, x10, x11, x12, u =>
  (if x2 ≤ x12 then some (x9, x10, x11, u) else (if x11 = 0 then some (x9, x10, x11, u) else tl_b2 (fL_call a1 3 x12 0 0 u) (fun x15 u17 => tl_b2 (fL_call a1 3 x12 1 0 u17) (fun x18 u20 => tl_b2 (fL_call a1 3 x12 4 0 u20) (fun x21 u23 => tl_let ((x9 + x21)) (fun x24 => tl_b2 (fL_call a1 3 x12 5 0 u23) (fun x25 u27 => tl_let ((x10 + x25)) (fun x28 => tl_b (fL_holds_p357 62 a1 x2 x3 x4 x5 x6 x7 x8 x24 x28 x11 x12 x15 x18 0 0 0 u27) (fun w29 => tl_b2 (fL_call a1 3 x12 2 0 w29.2.2) (fun x31 u33 => (if x11 = 0 then tl_let (x12 + 1) (fun x35 => fL_holds_p284 fu a1 x2 x3 x4 x5 x6 x7 x8 x24 x28 0 x35 u33) else (if x15 ≤ 0 then tl_let (x12 + 1) (fun x36 => fL_holds_p284 fu a1 x2 x3 x4 x5 x6 x7 x8 x24 x28 0 x36 u33) else (if 60 < x15 then tl_let (x12 + 1) (fun x37 => fL_holds_p284 fu a1 x2 x3 x4 x5 x6 x7 x8 x24 x28 0 x37 u33) else (if x18 < 0 then tl_let (x12 + 1) (fun x38 => fL_holds_p284 fu a1 x2 x3 x4 x5 x6 x7 x8 x24 x28 0 x38 u33) else tl_k (fun  (u41 : tz_U) => (if x31 < 3 then tl_let (x12 + 1) (fun x43 => fL_holds_p284 fu a1 x2 x3 x4 x5 x6 x7 x8 x24 x28 0 x43 u41) else (if 8 < x31 then tl_let (x12 + 1) (fun x44 => fL_holds_p284 fu a1 x2 x3 x4 x5 x6 x7 x8 x24 x28 0 x44 u41) else tl_b2 (fL_call a1 3 x12 3 0 u41) (fun x44 u46 => tl_k (fun (y50 : Int32) (u51 : tz_U) => (if y50 = w29.1 then tl_b2 (fL_call a1 8 x12 0 0 u51) (fun x53 u55 => (if x53 = w29.2.1 then tl_b2 (fL_call a1 8 x12 1 0 u55) (fun x57 u59 => (if x57 = w29.2.1 then tl_let (x12 + 1) (fun x61 => fL_holds_p284 fu a1 x2 x3 x4 x5 x6 x7 x8 x24 x28 1 x61 u59) else tl_let (x12 + 1) (fun x61 => fL_holds_p284 fu a1 x2 x3 x4 x5 x6 x7 x8 x24 x28 0 x61 u59))) else tl_let (x12 + 1) (fun x57 => fL_holds_p284 fu a1 x2 x3 x4 x5 x6 x7 x8 x24 x28 0 x57 u55))) else tl_let (x12 + 1) (fun x53 => fL_holds_p284 fu a1 x2 x3 x4 x5 x6 x7 x8 x24 x28 0 x53 u51))) (fun K47 => (if x44 = 1 then K47 1 u46 else K47 0 u46)))))) (fun K38 => (if x15 = 60 then K38  u33 else (if x31 ≤ x18 then tl_let (x12 + 1) (fun x65 => fL_holds_p284 fu a1 x2 x3 x4 x5 x6 x7 x8 x24 x28 0 x65 u33) else K38  u33)))))))))))))))))

def fL_holds_p626 : Nat → Nat → Int32 → Int32 → Int32 → Int32 → Int32 → Int32 → Int32 → Int32 → Int32 → Int32 → Int32 → tz_U → Option (Int32 × Int32 × tz_U)
  | 0, _, _, _, _, _, _, _, _, _, _, _, _, _ => none
  | fu + 1, a1, x2, x3, x4, x5, x6, x7, x8, x9, x10, x11, x12, u =>
  (if x3 ≤ x12 then some (x8, x11, u) else (if x11 = 0 then some (x8, x11, u) else tl_b2 (fL_call a1 4 x12 3 0 u) (fun x15 u17 => tl_let ((x8 + x15)) (fun x18 => tl_b2 (fL_call a1 4 x12 0 0 u17) (fun x19 u21 => (if x2 ≤ x19 then tl_let (x12 + 1) (fun x23 => fL_holds_p626 fu a1 x2 x3 x4 x5 x6 x7 x18 x9 x10 0 x23 u21) else tl_b2 (fL_call a1 4 x12 2 0 u21) (fun x23 u25 => tl_b2 (fL_call a1 4 x12 1 0 u25) (fun x26 u28 => tl_g (¬ x26 = 0) ((if (x23 - x23 / x26 * x26) = 0 then tl_b2 (fL_call a1 4 x12 3 0 u28) (fun x31 u33 => tl_b2 (fL_call a1 2 3 0 0 u33) (fun x34 u36 => (if x34 < x31 then tl_let (x12 + 1) (fun x38 => fL_holds_p626 fu a1 x2 x3 x4 x5 x6 x7 x18 x9 x10 0 x38 u36) else tl_let (x12 + 1) (fun x38 => fL_holds_p626 fu a1 x2 x3 x4 x5 x6 x7 x18 x9 x10 1 x38 u36)))) else tl_let (x12 + 1) (fun x31 => fL_holds_p626 fu a1 x2 x3 x4 x5 x6 x7 x18 x9 x10 0 x31 u28)))))))))))

def fL_holds_p722 : Nat → Nat → Int32 → Int32 → Int32 → Int32 → Int32 → Int32 → Int32 → Int32 → Int32 → Int32 → Int32 → tz_U → Option (Int32 × tz_U)
  | 0, _, _, _, _, _, _, _, _, _, _, _, _, _ => none
  | fu + 1, a1, x2, x3, x4, x5, x6, x7, x8, x9, x10, x11, x12, u =>
  (if x5 ≤ x12 then some (x11, u) else (if x11 = 0 then some (x11, u) else tl_b2 (fL_call a1 7 x12 0 0 u) (fun x15 u17 => (if x15 < 0 then tl_let (x12 + 1) (fun x19 => fL_holds_p722 fu a1 x2 x3 x4 x5 x6 x7 x8 x9 x10 0 x19 u17) else (if 2 ≤ x15 then tl_let (x12 + 1) (fun x20 => fL_holds_p722 fu a1 x2 x3 x4 x5 x6 x7 x8 x9 x10 0 x20 u17) else tl_b2 (fL_call a1 7 x12 1 0 u17) (fun x20 u22 => (if x4 ≤ x20 then tl_let (x12 + 1) (fun x24 => fL_holds_p722 fu a1 x2 x3 x4 x5 x6 x7 x8 x9 x10 0 x24 u22) else (if x15 = 0 then tl_b2 (fL_call a1 7 x12 3 0 u22) (fun x25 u27 => tl_b2 (fL_call a1 7 x12 2 0 u27) (fun x28 u30 => tl_b2 (fL_call a1 3 x28 0 0 u30) (fun x31 u33 => (if x31 ≤ x25 then tl_let (x12 + 1) (fun x35 => fL_holds_p722 fu a1 x2 x3 x4 x5 x6 x7 x8 x9 x10 0 x35 u33) else tl_let (x12 + 1) (fun x35 => fL_holds_p722 fu a1 x2 x3 x4 x5 x6 x7 x8 x9 x10 1 x35 u33))))) else tl_b2 (fL_call a1 7 x12 2 0 u22) (fun x25 u27 => (if x25 ≤ 0 then tl_let (x12 + 1) (fun x29 => fL_holds_p722 fu a1 x2 x3 x4 x5 x6 x7 x8 x9 x10 0 x29 u27) else tl_b2 (fL_call a1 7 x12 3 0 u27) (fun x29 u31 => (if x29 = (-1) then tl_let (x12 + 1) (fun x33 => fL_holds_p722 fu a1 x2 x3 x4 x5 x6 x7 x8 x9 x10 1 x33 u31) else tl_let (x12 + 1) (fun x33 => fL_holds_p722 fu a1 x2 x3 x4 x5 x6 x7 x8 x9 x10 0 x33 u31)))))))))))))

def fL_holds_p1133 (x1 : Int32) (x2 : Int32) (u : tz_U) : Option (Int32 × tz_U) :=
  (if x2 = x1 then some (1, u) else some (0, u))

def fL_holds_p1123 (x1 : Int32) (x2 : Int32) (u : tz_U) : Option (Int32 × tz_U) :=
  (if x1 = 0 then fL_holds_p1133 1 x2 u else fL_holds_p1133 0 x2 u)

def fL_holds_p1111 (a1 : Nat) (x2 : Int32) (u : tz_U) : Option (Int32 × tz_U) :=
  tl_b2 (fL_doneIn a1 u) (fun x3 u5 => (if x3 = 0 then fL_holds_p1123 x2 1 u5 else fL_holds_p1123 x2 0 u5))

def fL_holds_p1041 (a1 : Nat) (x2 : Int32) (x3 : Int32) (u : tz_U) : Option (Int32 × tz_U) :=
  tl_b2 (fL_call a1 6 0 0 0 u) (fun x4 u6 => (if x2 ≤ x4 then some (0, u6) else tl_b2 (fL_call a1 6 1 0 0 u6) (fun x8 u10 => (if x8 < 0 then some (0, u10) else tl_b2 (fL_call a1 6 1 0 0 u10) (fun x12 u14 => tl_b2 (fL_call a1 6 0 0 0 u14) (fun x15 u17 => tl_b2 (fL_call a1 3 x15 0 0 u17) (fun x18 u20 => (if x18 ≤ x12 then some (0, u20) else (if 0 < x3 then fL_holds_p1111 a1 x3 u20 else tl_b2 (fL_call a1 6 3 0 0 u20) (fun x23 u25 => (if x23 = 0 then fL_holds_p1111 a1 x3 u25 else some (0, u25))))))))))))

def fL_holds_p1004 (a1 : Nat) (x2 : Int32) (x3 : Int32) (x4 : Int32) (u : tz_U) : Option (Int32 × tz_U) :=
  (if x4 = 0 then fL_holds_p1041 a1 x2 x3 u else (if x3 ≤ 0 then some (0, u) else tl_b2 (fL_call a1 7 0 0 0 u) (fun x7 u9 => (if x7 = 1 then tl_b2 (fL_call a1 7 0 2 0 u9) (fun x11 u13 => (if x11 < x4 then some (0, u13) else fL_holds_p1041 a1 x2 x3 u13)) else some (0, u9)))))

def fL_holds_p885 (a1 : Nat) (x2 : Int32) (x3 : Int32) (x4 : Int32) (x5 : Int32) (x6 : Int32) (x7 : Int32) (x8 : Int32) (x9 : Int32) (x10 : Int32) (u : tz_U) : Option (Int32 × tz_U) :=
  (if x10 = (x9 - x8) then tl_b2 (fL_call a1 2 11 0 0 u) (fun x12 u14 => (if x6 = x12 then tl_b2 (fL_call a1 2 5 0 0 u14) (fun x16 u18 => (if x5 = x16 then tl_b2 (fL_call a1 2 4 0 0 u18) (fun x20 u22 => tl_b2 (fL_call a1 2 7 0 0 u22) (fun x23 u25 => tl_b2 (fL_call a1 2 8 0 0 u25) (fun x26 u28 => tl_b2 (fL_call a1 2 9 0 0 u28) (fun x29 u31 => (if ((((x20 + x5) + x7) + x23) + x26) = x29 then (if x4 = (-1) then fL_holds_p1004 a1 x2 x3 x7 u31 else (if x3 ≤ 0 then some (0, u31) else tl_b2 (fL_call a1 7 0 0 0 u31) (fun x35 u37 => (if x35 = 0 then tl_b2 (fL_call a1 7 0 1 0 u37) (fun x39 u41 => (if x39 = x4 then (if x7 = 0 then fL_holds_p1004 a1 x2 x3 x7 u41 else some (0, u41)) else some (0, u41))) else some (0, u37))))) else some (0, u31)))))) else some (0, u18))) else some (0, u14))) else some (0, u))

def fL_holds_p96 (a1 : Nat) (x2 : Int32) (x3 : Int32) (x4 : Int32) (x5 : Int32) (x6 : Int32) (x7 : Int32) (x8 : Int32) (x9 : Int32) (x10 : Int32) (x11 : Int32) (u : tz_U) : Option (Int32 × tz_U) :=
  tl_b (fL_holds_p101 9 a1 x2 x3 x4 x5 x6 x7 x8 x9 x10 x11 0 u) (fun w12 => tl_b (fL_holds_p284 4 a1 x2 x3 x4 x5 x6 w12.1 x8 x9 x10 w12.2.1 0 w12.2.2) (fun w14 => tl_b (fL_holds_p626 7 a1 x2 x3 x4 x5 x6 w12.1 x8 w14.1 w14.2.1 w14.2.2.1 0 w14.2.2.2) (fun w16 => tl_b (fL_holds_p722 7 a1 x2 x3 x4 x5 x6 w12.1 w16.1 w14.1 w14.2.1 w16.2.1 0 w16.2.2) (fun w18 => tl_b2 (fL_call a1 2 6 0 0 w18.2) (fun x20 u22 => (if w18.1 = 0 then some (0, u22) else (if w14.1 = x3 then (if x6 = (-1) then fL_holds_p885 a1 x2 x5 x6 w12.1 w16.1 x20 0 x4 w14.2.1 u22 else fL_holds_p885 a1 x2 x5 x6 w12.1 w16.1 x20 1 x4 w14.2.1 u22) else some (0, u22))))))))

def fL_holds (a1 : Nat) (u : tz_U) : Option (Int32 × tz_U) :=
  tl_b2 (fL_call a1 2 0 0 0 u) (fun x2 u4 => tl_b2 (fL_call a1 2 1 0 0 u4) (fun x5 u7 => tl_b2 (fL_call a1 2 2 0 0 u7) (fun x8 u10 => tl_b2 (fL_call a1 2 10 0 0 u10) (fun x11 u13 => tl_b2 (fL_call a1 6 2 0 0 u13) (fun x14 u16 => (if 3 < x2 then fL_holds_p96 a1 x2 x5 x8 x11 x14 0 0 0 0 0 u16 else (if 6 < x5 then fL_holds_p96 a1 x2 x5 x8 x11 x14 0 0 0 0 0 u16 else (if 8 < x8 then fL_holds_p96 a1 x2 x5 x8 x11 x14 0 0 0 0 0 u16 else (if 6 < x11 then fL_holds_p96 a1 x2 x5 x8 x11 x14 0 0 0 0 0 u16 else (if x8 ≤ x14 then fL_holds_p96 a1 x2 x5 x8 x11 x14 0 0 0 0 0 u16 else fL_holds_p96 a1 x2 x5 x8 x11 x14 0 0 0 0 1 u16))))))))))

set_option maxHeartbeats 4000000 in
set_option maxRecDepth 40000 in
theorem lL_holds_p101 {E : tl_E} {X : State → Array Value → Code → Prop} {Z : List Frame → Array Value → State → State → Prop} {kE : Nat} : ∀ (n : Nat) (a1 : Nat) (x2 : Int32) (x3 : Int32) (x4 : Int32) (x5 : Int32) (x6 : Int32) (x7 : Int32) (x8 : Int32) (x9 : Int32) (x10 : Int32) (x11 : Int32) (x12 : Int32) (u : tz_U) (w : Int32 × Int32 × tz_U) (k : Nat), tz_on E a1 → fL_holds_p101 n a1 x2 x3 x4 x5 x6 x7 x8 x9 x10 x11 x12 u = some w → k + n * 5 ≤ kE → kE ≤ 9104 → tz_R E mL_holds X Z kE (tz_HU E w.2.2) 281 [some (.ref a1), some (.int x2), some (.int x3), some (.int x4), some (.int x5), some (.int x6), some (.int w.1), some (.int x8), some (.int x9), some (.int x10), some (.int w.2.1), none, none, none, none, none, none, none, none, none, none, none] [] → tz_R E mL_holds X Z k (tz_HU E u) 101 [some (.ref a1), some (.int x2), some (.int x3), some (.int x4), some (.int x5), some (.int x6), some (.int x7), some (.int x8), some (.int x9), some (.int x10), some (.int x11), some (.int x12), none, none, none, none, none, none, none, none, none, none] [] := by
  intro n
  induction n with
  | zero => intro a1 x2 x3 x4 x5 x6 x7 x8 x9 x10 x11 x12 u w k h1 h; exact absurd h (by simp [fL_holds_p101])
  | succ n ih =>
    intro a1 x2 x3 x4 x5 x6 x7 x8 x9 x10 x11 x12 u w k h1 h hk hE kk
    rw [fL_holds_p101] at h
    refine tl_iload dL_holds_101 rfl (tl_iload_n dL_holds_103 rfl (tl_icmp_ge (tgt := 281) dL_holds_104 (by decide) (fun c13 => ?_) (fun c13 => ?_)))
    · replace h := tl_ip h c13
      cases h
      exact tz_fg (ls2 := [some (.ref a1), some (.int x2), some (.int x3), some (.int x4), some (.int x5), some (.int x6), some (.int x7), some (.int x8), some (.int x9), some (.int x10), some (.int x11), none, none, none, none, none, none, none, none, none, none, none]) (And.intro rfl (And.intro rfl (And.intro rfl (And.intro rfl (And.intro rfl (And.intro rfl (And.intro rfl (And.intro rfl (And.intro rfl (And.intro rfl (And.intro rfl trivial))))))))))) (tz_wd (k2 := kE) (by omega) kk)
    · replace h := tl_in h c13
      refine tl_iload dL_holds_107 rfl (tl_if_eq (tgt := 281) dL_holds_109 (by decide) (fun c14 => ?_) (fun c14 => ?_))
      · replace h := tl_ip h c14
        cases h
        exact tz_fg (ls2 := [some (.ref a1), some (.int x2), some (.int x3), some (.int x4), some (.int x5), some (.int x6), some (.int x7), some (.int x8), some (.int x9), some (.int x10), some (.int x11), none, none, none, none, none, none, none, none, none, none, none]) (And.intro rfl (And.intro rfl (And.intro rfl (And.intro rfl (And.intro rfl (And.intro rfl (And.intro rfl (And.intro rfl (And.intro rfl (And.intro rfl (And.intro rfl trivial))))))))))) (tz_wd (k2 := kE) (by omega) kk)
      · replace h := tl_in h c14
        obtain ⟨x15, u17, e16, h⟩ := tl_b2i h
        obtain ⟨x18, u20, e19, h⟩ := tl_b2i h
        obtain ⟨x21, u23, e22, h⟩ := tl_b2i h
        refine tl_aload_n dL_holds_112 rfl (tl_iconst (v := 5) dL_holds_113 ic_5 (tl_iload dL_holds_114 rfl (tl_iconst (v := 1) dL_holds_116 ic_1 (tl_iconst (v := 0) dL_holds_117 ic_0 (tz_cS5 (lL_call h1 e16) dL_holds_118 cs_L_holds_189 (c := 1) ⟨rfl, rfl⟩ (k2 := (k + 1)) (by omega) (CM := 9104) ⟨Nat.le_of_ble_eq_true rfl, Nat.le_of_ble_eq_true rfl⟩ (by omega : (k + 1) ≤ 9104) (Nat.le_of_ble_eq_true rfl) (tl_istore dL_holds_121 (Nat.le_of_ble_eq_true rfl) (tl_aload_n dL_holds_123 rfl (tl_iconst (v := 5) dL_holds_124 ic_5 (tl_iload dL_holds_125 rfl (tl_iconst (v := 2) dL_holds_127 ic_2 (tl_iconst (v := 0) dL_holds_128 ic_0 (tz_cS5 (lL_call h1 e19) dL_holds_129 cs_L_holds_189 (c := 1) ⟨rfl, rfl⟩ (k2 := (k + 2)) (by omega) (CM := 9104) ⟨Nat.le_of_ble_eq_true rfl, Nat.le_of_ble_eq_true rfl⟩ (by omega : (k + 2) ≤ 9104) (Nat.le_of_ble_eq_true rfl) (tl_istore dL_holds_132 (Nat.le_of_ble_eq_true rfl) (tl_aload_n dL_holds_134 rfl (tl_iconst (v := 5) dL_holds_135 ic_5 (tl_iload dL_holds_136 rfl (tl_iconst (v := 3) dL_holds_138 ic_3 (tl_iconst (v := 0) dL_holds_139 ic_0 (tz_cS5 (lL_call h1 e22) dL_holds_140 cs_L_holds_189 (c := 1) ⟨rfl, rfl⟩ (k2 := (k + 3)) (by omega) (CM := 9104) ⟨Nat.le_of_ble_eq_true rfl, Nat.le_of_ble_eq_true rfl⟩ (by omega : (k + 3) ≤ 9104) (Nat.le_of_ble_eq_true rfl) (tl_istore dL_holds_143 (Nat.le_of_ble_eq_true rfl) (tl_iload dL_holds_145 rfl (tl_iload dL_holds_147 rfl (tl_iadd dL_holds_149 (tz_isto dL_holds_150 (Nat.le_of_ble_eq_true rfl) (fun x24 e => ?_)))))))))))))))))))))))))
        have h := tl_leteq e h
        clear e
        refine tl_iload dL_holds_152 rfl (tl_if_lt (tgt := 272) dL_holds_154 (by decide) (fun c25 => ?_) (fun c25 => ?_))
        · replace h := tl_ip h c25
          refine tl_iconst (v := 0) dL_holds_272 ic_0 (tl_istore dL_holds_273 (Nat.le_of_ble_eq_true rfl) (tz_iincK dL_holds_275 rfl (ii_1 _) (Nat.le_of_ble_eq_true rfl) (fun x26 e => ?_)))
          have h := tl_leteq e h
          clear e
          refine tl_goto (tgt := 101) dL_holds_278 (by decide) (?_)
          exact tz_fg (ls2 := [some (.ref a1), some (.int x2), some (.int x3), some (.int x4), some (.int x5), some (.int x6), some (.int x24), some (.int x8), some (.int x9), some (.int x10), some (.int 0), some (.int x26), none, none, none, none, none, none, none, none, none, none]) (And.intro rfl (And.intro rfl (And.intro rfl (And.intro rfl (And.intro rfl (And.intro rfl (And.intro rfl (And.intro rfl (And.intro rfl (And.intro rfl (And.intro rfl (And.intro rfl trivial)))))))))))) (tz_wd (k2 := k + 5) (by omega) (ih _ _ _ _ _ _ _ _ _ _ _ _ _ _ (k + 5) h1 h (by omega) hE kk))
        · replace h := tl_in h c25
          refine tl_iload dL_holds_157 rfl (tl_bipush (v := 99) dL_holds_159 bp_99 (tl_icmp_gt (tgt := 272) dL_holds_161 (by decide) (fun c26 => ?_) (fun c26 => ?_)))
          · replace h := tl_ip h c26
            refine tl_iconst (v := 0) dL_holds_272 ic_0 (tl_istore dL_holds_273 (Nat.le_of_ble_eq_true rfl) (tz_iincK dL_holds_275 rfl (ii_1 _) (Nat.le_of_ble_eq_true rfl) (fun x27 e => ?_)))
            have h := tl_leteq e h
            clear e
            refine tl_goto (tgt := 101) dL_holds_278 (by decide) (?_)
            exact tz_fg (ls2 := [some (.ref a1), some (.int x2), some (.int x3), some (.int x4), some (.int x5), some (.int x6), some (.int x24), some (.int x8), some (.int x9), some (.int x10), some (.int 0), some (.int x27), none, none, none, none, none, none, none, none, none, none]) (And.intro rfl (And.intro rfl (And.intro rfl (And.intro rfl (And.intro rfl (And.intro rfl (And.intro rfl (And.intro rfl (And.intro rfl (And.intro rfl (And.intro rfl (And.intro rfl trivial)))))))))))) (tz_wd (k2 := k + 5) (by omega) (ih _ _ _ _ _ _ _ _ _ _ _ _ _ _ (k + 5) h1 h (by omega) hE kk))
          · replace h := tl_in h c26
            obtain ⟨x27, u29, e28, h⟩ := tl_b2i h
            refine tl_aload_n dL_holds_164 rfl (tl_iconst (v := 5) dL_holds_165 ic_5 (tl_iload dL_holds_166 rfl (tl_iconst (v := 4) dL_holds_168 ic_4 (tl_iconst (v := 0) dL_holds_169 ic_0 (tz_cS5 (lL_call h1 e28) dL_holds_170 cs_L_holds_189 (c := 1) ⟨rfl, rfl⟩ (k2 := (k + 4)) (by omega) (CM := 9104) ⟨Nat.le_of_ble_eq_true rfl, Nat.le_of_ble_eq_true rfl⟩ (by omega : (k + 4) ≤ 9104) (Nat.le_of_ble_eq_true rfl) (tl_iconst (v := 1) dL_holds_173 ic_1 (?_)))))))
            obtain ⟨K30, e32, h⟩ := tl_ki h
            have q31 : ∀ (y33 : Int32) (u34 : tz_U), K30 y33 u34 = some w → tz_R E mL_holds X Z (k + 4) (tz_HU E u34) 182 [some (.ref a1), some (.int x2), some (.int x3), some (.int x4), some (.int x5), some (.int x6), some (.int x24), some (.int x8), some (.int x9), some (.int x10), none, some (.int x12), some (.int x15), some (.int x18), some (.int x21), none, none, none, none, none, none, none] [.int y33] := by
              intro y33 u34 h
              have h := tl_kb1 e32 h
              clear e32
              refine tl_iload dL_holds_182 rfl (?_)
              obtain ⟨K35, e37, h⟩ := tl_ki h
              have q36 : ∀ (y38 : Int32) (u39 : tz_U), K35 y38 u39 = some w → tz_R E mL_holds X Z (k + 4) (tz_HU E u39) 192 [some (.ref a1), some (.int x2), some (.int x3), some (.int x4), some (.int x5), some (.int x6), some (.int x24), some (.int x8), some (.int x9), some (.int x10), none, some (.int x12), none, some (.int x18), some (.int x21), none, none, none, none, none, none, none] [.int y38, .int y33] := by
                intro y38 u39 h
                have h := tl_kb1 e37 h
                clear e37
                refine tl_icmp_ne (tgt := 272) dL_holds_192 (by decide) (fun c40 => ?_) (fun c40 => ?_)
                · replace h := tl_in h c40
                  refine tl_iconst (v := 0) dL_holds_272 ic_0 (tl_istore dL_holds_273 (Nat.le_of_ble_eq_true rfl) (tz_iincK dL_holds_275 rfl (ii_1 _) (Nat.le_of_ble_eq_true rfl) (fun x41 e => ?_)))
                  have h := tl_leteq e h
                  clear e
                  refine tl_goto (tgt := 101) dL_holds_278 (by decide) (?_)
                  exact tz_fg (ls2 := [some (.ref a1), some (.int x2), some (.int x3), some (.int x4), some (.int x5), some (.int x6), some (.int x24), some (.int x8), some (.int x9), some (.int x10), some (.int 0), some (.int x41), none, none, none, none, none, none, none, none, none, none]) (And.intro rfl (And.intro rfl (And.intro rfl (And.intro rfl (And.intro rfl (And.intro rfl (And.intro rfl (And.intro rfl (And.intro rfl (And.intro rfl (And.intro rfl (And.intro rfl trivial)))))))))))) (tz_wd (k2 := k + 5) (by omega) (ih _ _ _ _ _ _ _ _ _ _ _ _ _ _ (k + 5) h1 h (by omega) hE kk))
                · replace h := tl_ip h c40
                  refine tl_iload dL_holds_195 rfl (tl_iconst (v := (-1)) dL_holds_197 ic_m1 (?_))
                  obtain ⟨K41, e43, h⟩ := tl_ki h
                  have q42 : ∀ (y44 : Int32) (u45 : tz_U), K41 y44 u45 = some w → tz_R E mL_holds X Z (k + 4) (tz_HU E u45) 206 [some (.ref a1), some (.int x2), some (.int x3), some (.int x4), some (.int x5), some (.int x6), some (.int x24), some (.int x8), some (.int x9), some (.int x10), none, some (.int x12), none, some (.int x18), some (.int x21), none, none, none, none, none, none, none] [.int y44] := by
                    intro y44 u45 h
                    have h := tl_kb1 e43 h
                    clear e43
                    refine tl_iload dL_holds_206 rfl (tl_iload dL_holds_208 rfl (?_))
                    obtain ⟨K46, e48, h⟩ := tl_ki h
                    have q47 : ∀ (y49 : Int32) (u50 : tz_U), K46 y49 u50 = some w → tz_R E mL_holds X Z (k + 4) (tz_HU E u50) 218 [some (.ref a1), some (.int x2), some (.int x3), some (.int x4), some (.int x5), some (.int x6), some (.int x24), some (.int x8), some (.int x9), some (.int x10), none, some (.int x12), none, some (.int x18), some (.int x21), none, none, none, none, none, none, none] [.int y49, .int y44] := by
                      intro y49 u50 h
                      have h := tl_kb1 e48 h
                      clear e48
                      refine tl_icmp_ne (tgt := 272) dL_holds_218 (by decide) (fun c51 => ?_) (fun c51 => ?_)
                      · replace h := tl_in h c51
                        refine tl_iconst (v := 0) dL_holds_272 ic_0 (tl_istore dL_holds_273 (Nat.le_of_ble_eq_true rfl) (tz_iincK dL_holds_275 rfl (ii_1 _) (Nat.le_of_ble_eq_true rfl) (fun x52 e => ?_)))
                        have h := tl_leteq e h
                        clear e
                        refine tl_goto (tgt := 101) dL_holds_278 (by decide) (?_)
                        exact tz_fg (ls2 := [some (.ref a1), some (.int x2), some (.int x3), some (.int x4), some (.int x5), some (.int x6), some (.int x24), some (.int x8), some (.int x9), some (.int x10), some (.int 0), some (.int x52), none, none, none, none, none, none, none, none, none, none]) (And.intro rfl (And.intro rfl (And.intro rfl (And.intro rfl (And.intro rfl (And.intro rfl (And.intro rfl (And.intro rfl (And.intro rfl (And.intro rfl (And.intro rfl (And.intro rfl trivial)))))))))))) (tz_wd (k2 := k + 5) (by omega) (ih _ _ _ _ _ _ _ _ _ _ _ _ _ _ (k + 5) h1 h (by omega) hE kk))
                      · replace h := tl_ip h c51
                        refine tl_iload dL_holds_221 rfl (tl_iconst (v := (-1)) dL_holds_223 ic_m1 (?_))
                        obtain ⟨K52, e54, h⟩ := tl_ki h
                        have q53 : ∀ (y55 : Int32) (u56 : tz_U), K52 y55 u56 = some w → tz_R E mL_holds X Z (k + 4) (tz_HU E u56) 232 [some (.ref a1), some (.int x2), some (.int x3), some (.int x4), some (.int x5), some (.int x6), some (.int x24), some (.int x8), some (.int x9), some (.int x10), none, some (.int x12), none, some (.int x18), some (.int x21), none, none, none, none, none, none, none] [.int y55] := by
                          intro y55 u56 h
                          have h := tl_kb1 e54 h
                          clear e54
                          refine tl_iload dL_holds_232 rfl (tl_iload dL_holds_234 rfl (?_))
                          obtain ⟨K57, e59, h⟩ := tl_ki h
                          have q58 : ∀ (y60 : Int32) (u61 : tz_U), K57 y60 u61 = some w → tz_R E mL_holds X Z (k + 4) (tz_HU E u61) 244 [some (.ref a1), some (.int x2), some (.int x3), some (.int x4), some (.int x5), some (.int x6), some (.int x24), some (.int x8), some (.int x9), some (.int x10), none, some (.int x12), none, some (.int x18), some (.int x21), none, none, none, none, none, none, none] [.int y60, .int y55] := by
                            intro y60 u61 h
                            have h := tl_kb1 e59 h
                            clear e59
                            refine tl_icmp_ne (tgt := 272) dL_holds_244 (by decide) (fun c62 => ?_) (fun c62 => ?_)
                            · replace h := tl_in h c62
                              refine tl_iconst (v := 0) dL_holds_272 ic_0 (tl_istore dL_holds_273 (Nat.le_of_ble_eq_true rfl) (tz_iincK dL_holds_275 rfl (ii_1 _) (Nat.le_of_ble_eq_true rfl) (fun x63 e => ?_)))
                              have h := tl_leteq e h
                              clear e
                              refine tl_goto (tgt := 101) dL_holds_278 (by decide) (?_)
                              exact tz_fg (ls2 := [some (.ref a1), some (.int x2), some (.int x3), some (.int x4), some (.int x5), some (.int x6), some (.int x24), some (.int x8), some (.int x9), some (.int x10), some (.int 0), some (.int x63), none, none, none, none, none, none, none, none, none, none]) (And.intro rfl (And.intro rfl (And.intro rfl (And.intro rfl (And.intro rfl (And.intro rfl (And.intro rfl (And.intro rfl (And.intro rfl (And.intro rfl (And.intro rfl (And.intro rfl trivial)))))))))))) (tz_wd (k2 := k + 5) (by omega) (ih _ _ _ _ _ _ _ _ _ _ _ _ _ _ (k + 5) h1 h (by omega) hE kk))
                            · replace h := tl_ip h c62
                              refine tl_iload dL_holds_247 rfl (tl_iload dL_holds_249 rfl (tl_icmp_eq (tgt := 268) dL_holds_251 (by decide) (fun c63 => ?_) (fun c63 => ?_)))
                              · replace h := tl_ip h c63
                                refine tl_iconst (v := 1) dL_holds_268 ic_1 (tl_goto (tgt := 273) dL_holds_269 (by decide) (tl_istore dL_holds_273 (Nat.le_of_ble_eq_true rfl) (tz_iincK dL_holds_275 rfl (ii_1 _) (Nat.le_of_ble_eq_true rfl) (fun x64 e => ?_))))
                                have h := tl_leteq e h
                                clear e
                                refine tl_goto (tgt := 101) dL_holds_278 (by decide) (?_)
                                exact tz_fg (ls2 := [some (.ref a1), some (.int x2), some (.int x3), some (.int x4), some (.int x5), some (.int x6), some (.int x24), some (.int x8), some (.int x9), some (.int x10), some (.int 1), some (.int x64), none, none, none, none, none, none, none, none, none, none]) (And.intro rfl (And.intro rfl (And.intro rfl (And.intro rfl (And.intro rfl (And.intro rfl (And.intro rfl (And.intro rfl (And.intro rfl (And.intro rfl (And.intro rfl (And.intro rfl trivial)))))))))))) (tz_wd (k2 := k + 5) (by omega) (ih _ _ _ _ _ _ _ _ _ _ _ _ _ _ (k + 5) h1 h (by omega) hE kk))
                              · replace h := tl_in h c63
                                obtain ⟨x64, u66, e65, h⟩ := tl_b2i h
                                refine tl_iload dL_holds_254 rfl (tl_aload_n dL_holds_256 rfl (tl_iconst (v := 3) dL_holds_257 ic_3 (tl_iload dL_holds_258 rfl (tl_iconst (v := 0) dL_holds_260 ic_0 (tl_iconst (v := 0) dL_holds_261 ic_0 (tz_cS5 (lL_call h1 e65) dL_holds_262 cs_L_holds_189 (c := 1) ⟨rfl, rfl⟩ (k2 := (k + 5)) (by omega) (CM := 9104) ⟨Nat.le_of_ble_eq_true rfl, Nat.le_of_ble_eq_true rfl⟩ (by omega : (k + 5) ≤ 9104) (Nat.le_of_ble_eq_true rfl) (tl_icmp_ge (tgt := 272) dL_holds_265 (by decide) (fun c67 => ?_) (fun c67 => ?_))))))))
                                · replace h := tl_ip h c67
                                  refine tl_iconst (v := 0) dL_holds_272 ic_0 (tl_istore dL_holds_273 (Nat.le_of_ble_eq_true rfl) (tz_iincK dL_holds_275 rfl (ii_1 _) (Nat.le_of_ble_eq_true rfl) (fun x68 e => ?_)))
                                  have h := tl_leteq e h
                                  clear e
                                  refine tl_goto (tgt := 101) dL_holds_278 (by decide) (?_)
                                  exact tz_fg (ls2 := [some (.ref a1), some (.int x2), some (.int x3), some (.int x4), some (.int x5), some (.int x6), some (.int x24), some (.int x8), some (.int x9), some (.int x10), some (.int 0), some (.int x68), none, none, none, none, none, none, none, none, none, none]) (And.intro rfl (And.intro rfl (And.intro rfl (And.intro rfl (And.intro rfl (And.intro rfl (And.intro rfl (And.intro rfl (And.intro rfl (And.intro rfl (And.intro rfl (And.intro rfl trivial)))))))))))) (tz_wd (k2 := k + 5) (by omega) (ih _ _ _ _ _ _ _ _ _ _ _ _ _ _ (k + 5) h1 h (by omega) hE kk))
                                · replace h := tl_in h c67
                                  refine tl_iconst (v := 1) dL_holds_268 ic_1 (tl_goto (tgt := 273) dL_holds_269 (by decide) (tl_istore dL_holds_273 (Nat.le_of_ble_eq_true rfl) (tz_iincK dL_holds_275 rfl (ii_1 _) (Nat.le_of_ble_eq_true rfl) (fun x68 e => ?_))))
                                  have h := tl_leteq e h
                                  clear e
                                  refine tl_goto (tgt := 101) dL_holds_278 (by decide) (?_)
                                  exact tz_fg (ls2 := [some (.ref a1), some (.int x2), some (.int x3), some (.int x4), some (.int x5), some (.int x6), some (.int x24), some (.int x8), some (.int x9), some (.int x10), some (.int 1), some (.int x68), none, none, none, none, none, none, none, none, none, none]) (And.intro rfl (And.intro rfl (And.intro rfl (And.intro rfl (And.intro rfl (And.intro rfl (And.intro rfl (And.intro rfl (And.intro rfl (And.intro rfl (And.intro rfl (And.intro rfl trivial)))))))))))) (tz_wd (k2 := k + 5) (by omega) (ih _ _ _ _ _ _ _ _ _ _ _ _ _ _ (k + 5) h1 h (by omega) hE kk))
                          clear e59
                          refine tl_icmp_ne (tgt := 243) dL_holds_236 (by decide) (fun c69 => ?_) (fun c69 => ?_)
                          · replace h := tl_in h c69
                            refine tl_iconst (v := 0) dL_holds_243 ic_0 (?_)
                            exact tz_fg (ls2 := [some (.ref a1), some (.int x2), some (.int x3), some (.int x4), some (.int x5), some (.int x6), some (.int x24), some (.int x8), some (.int x9), some (.int x10), none, some (.int x12), none, some (.int x18), some (.int x21), none, none, none, none, none, none, none]) (And.intro rfl (And.intro rfl (And.intro rfl (And.intro rfl (And.intro rfl (And.intro rfl (And.intro rfl (And.intro rfl (And.intro rfl (And.intro rfl (And.intro rfl (And.intro rfl (And.intro rfl trivial))))))))))))) (tz_wd (k2 := (k + 4)) (by omega) (q58 _ _ h))
                          · replace h := tl_ip h c69
                            refine tl_iconst (v := 1) dL_holds_239 ic_1 (tl_goto (tgt := 244) dL_holds_240 (by decide) (?_))
                            exact tz_fg (ls2 := [some (.ref a1), some (.int x2), some (.int x3), some (.int x4), some (.int x5), some (.int x6), some (.int x24), some (.int x8), some (.int x9), some (.int x10), none, some (.int x12), none, some (.int x18), some (.int x21), none, none, none, none, none, none, none]) (And.intro rfl (And.intro rfl (And.intro rfl (And.intro rfl (And.intro rfl (And.intro rfl (And.intro rfl (And.intro rfl (And.intro rfl (And.intro rfl (And.intro rfl (And.intro rfl (And.intro rfl trivial))))))))))))) (tz_wd (k2 := (k + 4)) (by omega) (q58 _ _ h))
                        clear e54
                        refine tl_icmp_ne (tgt := 231) dL_holds_224 (by decide) (fun c70 => ?_) (fun c70 => ?_)
                        · replace h := tl_in h c70
                          refine tl_iconst (v := 0) dL_holds_231 ic_0 (?_)
                          exact tz_fg (ls2 := [some (.ref a1), some (.int x2), some (.int x3), some (.int x4), some (.int x5), some (.int x6), some (.int x24), some (.int x8), some (.int x9), some (.int x10), none, some (.int x12), none, some (.int x18), some (.int x21), none, none, none, none, none, none, none]) (And.intro rfl (And.intro rfl (And.intro rfl (And.intro rfl (And.intro rfl (And.intro rfl (And.intro rfl (And.intro rfl (And.intro rfl (And.intro rfl (And.intro rfl (And.intro rfl (And.intro rfl trivial))))))))))))) (tz_wd (k2 := (k + 4)) (by omega) (q53 _ _ h))
                        · replace h := tl_ip h c70
                          refine tl_iconst (v := 1) dL_holds_227 ic_1 (tl_goto (tgt := 232) dL_holds_228 (by decide) (?_))
                          exact tz_fg (ls2 := [some (.ref a1), some (.int x2), some (.int x3), some (.int x4), some (.int x5), some (.int x6), some (.int x24), some (.int x8), some (.int x9), some (.int x10), none, some (.int x12), none, some (.int x18), some (.int x21), none, none, none, none, none, none, none]) (And.intro rfl (And.intro rfl (And.intro rfl (And.intro rfl (And.intro rfl (And.intro rfl (And.intro rfl (And.intro rfl (And.intro rfl (And.intro rfl (And.intro rfl (And.intro rfl (And.intro rfl trivial))))))))))))) (tz_wd (k2 := (k + 4)) (by omega) (q53 _ _ h))
                    clear e48
                    refine tl_icmp_ne (tgt := 217) dL_holds_210 (by decide) (fun c71 => ?_) (fun c71 => ?_)
                    · replace h := tl_in h c71
                      refine tl_iconst (v := 0) dL_holds_217 ic_0 (?_)
                      exact tz_fg (ls2 := [some (.ref a1), some (.int x2), some (.int x3), some (.int x4), some (.int x5), some (.int x6), some (.int x24), some (.int x8), some (.int x9), some (.int x10), none, some (.int x12), none, some (.int x18), some (.int x21), none, none, none, none, none, none, none]) (And.intro rfl (And.intro rfl (And.intro rfl (And.intro rfl (And.intro rfl (And.intro rfl (And.intro rfl (And.intro rfl (And.intro rfl (And.intro rfl (And.intro rfl (And.intro rfl (And.intro rfl trivial))))))))))))) (tz_wd (k2 := (k + 4)) (by omega) (q47 _ _ h))
                    · replace h := tl_ip h c71
                      refine tl_iconst (v := 1) dL_holds_213 ic_1 (tl_goto (tgt := 218) dL_holds_214 (by decide) (?_))
                      exact tz_fg (ls2 := [some (.ref a1), some (.int x2), some (.int x3), some (.int x4), some (.int x5), some (.int x6), some (.int x24), some (.int x8), some (.int x9), some (.int x10), none, some (.int x12), none, some (.int x18), some (.int x21), none, none, none, none, none, none, none]) (And.intro rfl (And.intro rfl (And.intro rfl (And.intro rfl (And.intro rfl (And.intro rfl (And.intro rfl (And.intro rfl (And.intro rfl (And.intro rfl (And.intro rfl (And.intro rfl (And.intro rfl trivial))))))))))))) (tz_wd (k2 := (k + 4)) (by omega) (q47 _ _ h))
                  clear e43
                  refine tl_icmp_ne (tgt := 205) dL_holds_198 (by decide) (fun c72 => ?_) (fun c72 => ?_)
                  · replace h := tl_in h c72
                    refine tl_iconst (v := 0) dL_holds_205 ic_0 (?_)
                    exact tz_fg (ls2 := [some (.ref a1), some (.int x2), some (.int x3), some (.int x4), some (.int x5), some (.int x6), some (.int x24), some (.int x8), some (.int x9), some (.int x10), none, some (.int x12), none, some (.int x18), some (.int x21), none, none, none, none, none, none, none]) (And.intro rfl (And.intro rfl (And.intro rfl (And.intro rfl (And.intro rfl (And.intro rfl (And.intro rfl (And.intro rfl (And.intro rfl (And.intro rfl (And.intro rfl (And.intro rfl (And.intro rfl trivial))))))))))))) (tz_wd (k2 := (k + 4)) (by omega) (q42 _ _ h))
                  · replace h := tl_ip h c72
                    refine tl_iconst (v := 1) dL_holds_201 ic_1 (tl_goto (tgt := 206) dL_holds_202 (by decide) (?_))
                    exact tz_fg (ls2 := [some (.ref a1), some (.int x2), some (.int x3), some (.int x4), some (.int x5), some (.int x6), some (.int x24), some (.int x8), some (.int x9), some (.int x10), none, some (.int x12), none, some (.int x18), some (.int x21), none, none, none, none, none, none, none]) (And.intro rfl (And.intro rfl (And.intro rfl (And.intro rfl (And.intro rfl (And.intro rfl (And.intro rfl (And.intro rfl (And.intro rfl (And.intro rfl (And.intro rfl (And.intro rfl (And.intro rfl trivial))))))))))))) (tz_wd (k2 := (k + 4)) (by omega) (q42 _ _ h))
              clear e37
              refine tl_if_le (tgt := 191) dL_holds_184 (by decide) (fun c73 => ?_) (fun c73 => ?_)
              · replace h := tl_ip h c73
                refine tl_iconst (v := 0) dL_holds_191 ic_0 (?_)
                exact tz_fg (ls2 := [some (.ref a1), some (.int x2), some (.int x3), some (.int x4), some (.int x5), some (.int x6), some (.int x24), some (.int x8), some (.int x9), some (.int x10), none, some (.int x12), none, some (.int x18), some (.int x21), none, none, none, none, none, none, none]) (And.intro rfl (And.intro rfl (And.intro rfl (And.intro rfl (And.intro rfl (And.intro rfl (And.intro rfl (And.intro rfl (And.intro rfl (And.intro rfl (And.intro rfl (And.intro rfl (And.intro rfl trivial))))))))))))) (tz_wd (k2 := (k + 4)) (by omega) (q36 _ _ h))
              · replace h := tl_in h c73
                refine tl_iconst (v := 1) dL_holds_187 ic_1 (tl_goto (tgt := 192) dL_holds_188 (by decide) (?_))
                exact tz_fg (ls2 := [some (.ref a1), some (.int x2), some (.int x3), some (.int x4), some (.int x5), some (.int x6), some (.int x24), some (.int x8), some (.int x9), some (.int x10), none, some (.int x12), none, some (.int x18), some (.int x21), none, none, none, none, none, none, none]) (And.intro rfl (And.intro rfl (And.intro rfl (And.intro rfl (And.intro rfl (And.intro rfl (And.intro rfl (And.intro rfl (And.intro rfl (And.intro rfl (And.intro rfl (And.intro rfl (And.intro rfl trivial))))))))))))) (tz_wd (k2 := (k + 4)) (by omega) (q36 _ _ h))
            clear e32
            refine tl_icmp_ne (tgt := 181) dL_holds_174 (by decide) (fun c74 => ?_) (fun c74 => ?_)
            · replace h := tl_in h c74
              refine tl_iconst (v := 0) dL_holds_181 ic_0 (?_)
              exact tz_fg (ls2 := [some (.ref a1), some (.int x2), some (.int x3), some (.int x4), some (.int x5), some (.int x6), some (.int x24), some (.int x8), some (.int x9), some (.int x10), none, some (.int x12), some (.int x15), some (.int x18), some (.int x21), none, none, none, none, none, none, none]) (And.intro rfl (And.intro rfl (And.intro rfl (And.intro rfl (And.intro rfl (And.intro rfl (And.intro rfl (And.intro rfl (And.intro rfl (And.intro rfl (And.intro rfl (And.intro rfl (And.intro rfl (And.intro rfl trivial)))))))))))))) (tz_wd (k2 := (k + 4)) (by omega) (q31 _ _ h))
            · replace h := tl_ip h c74
              refine tl_iconst (v := 1) dL_holds_177 ic_1 (tl_goto (tgt := 182) dL_holds_178 (by decide) (?_))
              exact tz_fg (ls2 := [some (.ref a1), some (.int x2), some (.int x3), some (.int x4), some (.int x5), some (.int x6), some (.int x24), some (.int x8), some (.int x9), some (.int x10), none, some (.int x12), some (.int x15), some (.int x18), some (.int x21), none, none, none, none, none, none, none]) (And.intro rfl (And.intro rfl (And.intro rfl (And.intro rfl (And.intro rfl (And.intro rfl (And.intro rfl (And.intro rfl (And.intro rfl (And.intro rfl (And.intro rfl (And.intro rfl (And.intro rfl (And.intro rfl trivial)))))))))))))) (tz_wd (k2 := (k + 4)) (by omega) (q31 _ _ h))

theorem lL_holds_p375 {E : tl_E} {X : State → Array Value → Code → Prop} {Z : List Frame → Array Value → State → State → Prop} {kE : Nat} : ∀ (n : Nat) (a1 : Nat) (x2 : Int32) (x3 : Int32) (x4 : Int32) (x5 : Int32) (x6 : Int32) (x7 : Int32) (x8 : Int32) (x9 : Int32) (x10 : Int32) (x11 : Int32) (x12 : Int32) (x13 : Int32) (x14 : Int32) (x15 : Int32) (x16 : Int32) (x17 : Int32) (x18 : Int32) (u : tz_U) (w : Int32 × tz_U) (k : Nat), tz_on E a1 → fL_holds_p375 n a1 x2 x3 x4 x5 x6 x7 x8 x9 x10 x11 x12 x13 x14 x15 x16 x17 x18 u = some w → k + n * 4 ≤ kE → kE ≤ 9104 → tz_R E mL_holds X Z kE (tz_HU E w.2) 465 [some (.ref a1), some (.int x2), some (.int x3), some (.int x4), some (.int x5), some (.int x6), some (.int x7), some (.int x8), some (.int x9), some (.int x10), some (.int x11), some (.int x12), some (.int x13), some (.int x14), none, none, some (.int x15), some (.int x16), some (.int w.1), none, none, none] [] → tz_R E mL_holds X Z k (tz_HU E u) 375 [some (.ref a1), some (.int x2), some (.int x3), some (.int x4), some (.int x5), some (.int x6), some (.int x7), some (.int x8), some (.int x9), some (.int x10), some (.int x11), some (.int x12), some (.int x13), some (.int x14), none, none, some (.int x15), some (.int x16), some (.int x17), some (.int x18), none, none] [] := by
  intro n
  induction n with
  | zero => intro a1 x2 x3 x4 x5 x6 x7 x8 x9 x10 x11 x12 x13 x14 x15 x16 x17 x18 u w k h1 h; exact absurd h (by simp [fL_holds_p375])
  | succ n ih =>
    intro a1 x2 x3 x4 x5 x6 x7 x8 x9 x10 x11 x12 x13 x14 x15 x16 x17 x18 u w k h1 h hk hE kk
    rw [fL_holds_p375] at h
    refine tl_iload dL_holds_375 rfl (tl_iload_n dL_holds_377 rfl (tl_icmp_ge (tgt := 465) dL_holds_378 (by decide) (fun c19 => ?_) (fun c19 => ?_)))
    · replace h := tl_ip h c19
      cases h
      exact tz_fg (ls2 := [some (.ref a1), some (.int x2), some (.int x3), some (.int x4), some (.int x5), some (.int x6), some (.int x7), some (.int x8), some (.int x9), some (.int x10), some (.int x11), some (.int x12), some (.int x13), some (.int x14), none, none, some (.int x15), some (.int x16), some (.int x17), none, none, none]) (And.intro rfl (And.intro rfl (And.intro rfl (And.intro rfl (And.intro rfl (And.intro rfl (And.intro rfl (And.intro rfl (And.intro rfl (And.intro rfl (And.intro rfl (And.intro rfl (And.intro rfl (And.intro rfl (And.intro rfl (And.intro rfl (And.intro rfl trivial))))))))))))))))) (tz_wd (k2 := kE) (by omega) kk)
    · replace h := tl_in h c19
      obtain ⟨x20, u22, e21, h⟩ := tl_b2i h
      refine tl_aload_n dL_holds_381 rfl (tl_iconst (v := 5) dL_holds_382 ic_5 (tl_iload dL_holds_383 rfl (tl_iconst (v := 3) dL_holds_385 ic_3 (tl_iconst (v := 0) dL_holds_386 ic_0 (tz_cS5 (lL_call h1 e21) dL_holds_387 cs_L_holds_189 (c := 1) ⟨rfl, rfl⟩ (k2 := (k + 1)) (by omega) (CM := 9104) ⟨Nat.le_of_ble_eq_true rfl, Nat.le_of_ble_eq_true rfl⟩ (by omega : (k + 1) ≤ 9104) (Nat.le_of_ble_eq_true rfl) (tl_iload dL_holds_390 rfl (tl_isub dL_holds_392 (tz_isto dL_holds_393 (Nat.le_of_ble_eq_true rfl) (fun x23 e => ?_)))))))))
      have h := tl_leteq e h
      clear e
      obtain ⟨x24, u26, e25, h⟩ := tl_b2i h
      refine tl_aload_n dL_holds_395 rfl (tl_iconst (v := 5) dL_holds_396 ic_5 (tl_iload dL_holds_397 rfl (tl_iconst (v := 0) dL_holds_399 ic_0 (tl_iconst (v := 0) dL_holds_400 ic_0 (tz_cS5 (lL_call h1 e25) dL_holds_401 cs_L_holds_189 (c := 1) ⟨rfl, rfl⟩ (k2 := (k + 2)) (by omega) (CM := 9104) ⟨Nat.le_of_ble_eq_true rfl, Nat.le_of_ble_eq_true rfl⟩ (by omega : (k + 2) ≤ 9104) (Nat.le_of_ble_eq_true rfl) (tl_istore dL_holds_404 (Nat.le_of_ble_eq_true rfl) (tl_iload dL_holds_406 rfl (tl_if_ne (tgt := 452) dL_holds_408 (by decide) (fun c27 => ?_) (fun c27 => ?_)))))))))
      · replace h := tl_in h c27
        refine tl_iconst (v := 1) dL_holds_452 ic_1 (tl_goto (tgt := 457) dL_holds_453 (by decide) (tl_istore dL_holds_457 (Nat.le_of_ble_eq_true rfl) (tz_iincK dL_holds_459 rfl (ii_1 _) (Nat.le_of_ble_eq_true rfl) (fun x28 e => ?_))))
        have h := tl_leteq e h
        clear e
        refine tl_goto (tgt := 375) dL_holds_462 (by decide) (?_)
        exact tz_fg (ls2 := [some (.ref a1), some (.int x2), some (.int x3), some (.int x4), some (.int x5), some (.int x6), some (.int x7), some (.int x8), some (.int x9), some (.int x10), some (.int x11), some (.int x12), some (.int x13), some (.int x14), none, none, some (.int x15), some (.int x16), some (.int 1), some (.int x28), none, none]) (And.intro rfl (And.intro rfl (And.intro rfl (And.intro rfl (And.intro rfl (And.intro rfl (And.intro rfl (And.intro rfl (And.intro rfl (And.intro rfl (And.intro rfl (And.intro rfl (And.intro rfl (And.intro rfl (And.intro rfl (And.intro rfl (And.intro rfl (And.intro rfl trivial)))))))))))))))))) (tz_wd (k2 := k + 4) (by omega) (ih _ _ _ _ _ _ _ _ _ _ _ _ _ _ _ _ _ _ _ _ (k + 4) h1 h (by omega) hE kk))
      · replace h := tl_ip h c27
        obtain ⟨x28, u30, e29, h⟩ := tl_b2i h
        refine tl_aload_n dL_holds_411 rfl (tl_iconst (v := 5) dL_holds_412 ic_5 (tl_iload dL_holds_413 rfl (tl_iconst (v := 2) dL_holds_415 ic_2 (tl_iconst (v := 0) dL_holds_416 ic_0 (tz_cS5 (lL_call h1 e29) dL_holds_417 cs_L_holds_189 (c := 1) ⟨rfl, rfl⟩ (k2 := (k + 3)) (by omega) (CM := 9104) ⟨Nat.le_of_ble_eq_true rfl, Nat.le_of_ble_eq_true rfl⟩ (by omega : (k + 3) ≤ 9104) (Nat.le_of_ble_eq_true rfl) (tl_iload dL_holds_420 rfl (tl_icmp_ne (tgt := 456) dL_holds_422 (by decide) (fun c31 => ?_) (fun c31 => ?_))))))))
        · replace h := tl_in h c31
          refine tl_iconst (v := 0) dL_holds_456 ic_0 (tl_istore dL_holds_457 (Nat.le_of_ble_eq_true rfl) (tz_iincK dL_holds_459 rfl (ii_1 _) (Nat.le_of_ble_eq_true rfl) (fun x32 e => ?_)))
          have h := tl_leteq e h
          clear e
          refine tl_goto (tgt := 375) dL_holds_462 (by decide) (?_)
          exact tz_fg (ls2 := [some (.ref a1), some (.int x2), some (.int x3), some (.int x4), some (.int x5), some (.int x6), some (.int x7), some (.int x8), some (.int x9), some (.int x10), some (.int x11), some (.int x12), some (.int x13), some (.int x14), none, none, some (.int x15), some (.int x16), some (.int 0), some (.int x32), none, none]) (And.intro rfl (And.intro rfl (And.intro rfl (And.intro rfl (And.intro rfl (And.intro rfl (And.intro rfl (And.intro rfl (And.intro rfl (And.intro rfl (And.intro rfl (And.intro rfl (And.intro rfl (And.intro rfl (And.intro rfl (And.intro rfl (And.intro rfl (And.intro rfl trivial)))))))))))))))))) (tz_wd (k2 := k + 4) (by omega) (ih _ _ _ _ _ _ _ _ _ _ _ _ _ _ _ _ _ _ _ _ (k + 4) h1 h (by omega) hE kk))
        · replace h := tl_ip h c31
          obtain ⟨x32, u34, e33, h⟩ := tl_b2i h
          refine tl_aload_n dL_holds_425 rfl (tl_iconst (v := 5) dL_holds_426 ic_5 (tl_iload dL_holds_427 rfl (tl_iconst (v := 1) dL_holds_429 ic_1 (tl_iconst (v := 0) dL_holds_430 ic_0 (tz_cS5 (lL_call h1 e33) dL_holds_431 cs_L_holds_189 (c := 1) ⟨rfl, rfl⟩ (k2 := (k + 4)) (by omega) (CM := 9104) ⟨Nat.le_of_ble_eq_true rfl, Nat.le_of_ble_eq_true rfl⟩ (by omega : (k + 4) ≤ 9104) (Nat.le_of_ble_eq_true rfl) (tl_if_le (tgt := 456) dL_holds_434 (by decide) (fun c35 => ?_) (fun c35 => ?_)))))))
          · replace h := tl_ip h c35
            refine tl_iconst (v := 0) dL_holds_456 ic_0 (tl_istore dL_holds_457 (Nat.le_of_ble_eq_true rfl) (tz_iincK dL_holds_459 rfl (ii_1 _) (Nat.le_of_ble_eq_true rfl) (fun x36 e => ?_)))
            have h := tl_leteq e h
            clear e
            refine tl_goto (tgt := 375) dL_holds_462 (by decide) (?_)
            exact tz_fg (ls2 := [some (.ref a1), some (.int x2), some (.int x3), some (.int x4), some (.int x5), some (.int x6), some (.int x7), some (.int x8), some (.int x9), some (.int x10), some (.int x11), some (.int x12), some (.int x13), some (.int x14), none, none, some (.int x15), some (.int x16), some (.int 0), some (.int x36), none, none]) (And.intro rfl (And.intro rfl (And.intro rfl (And.intro rfl (And.intro rfl (And.intro rfl (And.intro rfl (And.intro rfl (And.intro rfl (And.intro rfl (And.intro rfl (And.intro rfl (And.intro rfl (And.intro rfl (And.intro rfl (And.intro rfl (And.intro rfl (And.intro rfl trivial)))))))))))))))))) (tz_wd (k2 := k + 4) (by omega) (ih _ _ _ _ _ _ _ _ _ _ _ _ _ _ _ _ _ _ _ _ (k + 4) h1 h (by omega) hE kk))
          · replace h := tl_in h c35
            refine tl_iload dL_holds_437 rfl (tl_iload dL_holds_439 rfl (tl_icmp_gt (tgt := 456) dL_holds_441 (by decide) (fun c36 => ?_) (fun c36 => ?_)))
            · replace h := tl_ip h c36
              refine tl_iconst (v := 0) dL_holds_456 ic_0 (tl_istore dL_holds_457 (Nat.le_of_ble_eq_true rfl) (tz_iincK dL_holds_459 rfl (ii_1 _) (Nat.le_of_ble_eq_true rfl) (fun x37 e => ?_)))
              have h := tl_leteq e h
              clear e
              refine tl_goto (tgt := 375) dL_holds_462 (by decide) (?_)
              exact tz_fg (ls2 := [some (.ref a1), some (.int x2), some (.int x3), some (.int x4), some (.int x5), some (.int x6), some (.int x7), some (.int x8), some (.int x9), some (.int x10), some (.int x11), some (.int x12), some (.int x13), some (.int x14), none, none, some (.int x15), some (.int x16), some (.int 0), some (.int x37), none, none]) (And.intro rfl (And.intro rfl (And.intro rfl (And.intro rfl (And.intro rfl (And.intro rfl (And.intro rfl (And.intro rfl (And.intro rfl (And.intro rfl (And.intro rfl (And.intro rfl (And.intro rfl (And.intro rfl (And.intro rfl (And.intro rfl (And.intro rfl (And.intro rfl trivial)))))))))))))))))) (tz_wd (k2 := k + 4) (by omega) (ih _ _ _ _ _ _ _ _ _ _ _ _ _ _ _ _ _ _ _ _ (k + 4) h1 h (by omega) hE kk))
            · replace h := tl_in h c36
              refine tl_iload dL_holds_444 rfl (tl_ineg dL_holds_446 (tl_iload dL_holds_447 rfl (tl_icmp_gt (tgt := 456) dL_holds_449 (by decide) (fun c37 => ?_) (fun c37 => ?_))))
              · replace h := tl_ip h c37
                refine tl_iconst (v := 0) dL_holds_456 ic_0 (tl_istore dL_holds_457 (Nat.le_of_ble_eq_true rfl) (tz_iincK dL_holds_459 rfl (ii_1 _) (Nat.le_of_ble_eq_true rfl) (fun x38 e => ?_)))
                have h := tl_leteq e h
                clear e
                refine tl_goto (tgt := 375) dL_holds_462 (by decide) (?_)
                exact tz_fg (ls2 := [some (.ref a1), some (.int x2), some (.int x3), some (.int x4), some (.int x5), some (.int x6), some (.int x7), some (.int x8), some (.int x9), some (.int x10), some (.int x11), some (.int x12), some (.int x13), some (.int x14), none, none, some (.int x15), some (.int x16), some (.int 0), some (.int x38), none, none]) (And.intro rfl (And.intro rfl (And.intro rfl (And.intro rfl (And.intro rfl (And.intro rfl (And.intro rfl (And.intro rfl (And.intro rfl (And.intro rfl (And.intro rfl (And.intro rfl (And.intro rfl (And.intro rfl (And.intro rfl (And.intro rfl (And.intro rfl (And.intro rfl trivial)))))))))))))))))) (tz_wd (k2 := k + 4) (by omega) (ih _ _ _ _ _ _ _ _ _ _ _ _ _ _ _ _ _ _ _ _ (k + 4) h1 h (by omega) hE kk))
              · replace h := tl_in h c37
                refine tl_iconst (v := 1) dL_holds_452 ic_1 (tl_goto (tgt := 457) dL_holds_453 (by decide) (tl_istore dL_holds_457 (Nat.le_of_ble_eq_true rfl) (tz_iincK dL_holds_459 rfl (ii_1 _) (Nat.le_of_ble_eq_true rfl) (fun x38 e => ?_))))
                have h := tl_leteq e h
                clear e
                refine tl_goto (tgt := 375) dL_holds_462 (by decide) (?_)
                exact tz_fg (ls2 := [some (.ref a1), some (.int x2), some (.int x3), some (.int x4), some (.int x5), some (.int x6), some (.int x7), some (.int x8), some (.int x9), some (.int x10), some (.int x11), some (.int x12), some (.int x13), some (.int x14), none, none, some (.int x15), some (.int x16), some (.int 1), some (.int x38), none, none]) (And.intro rfl (And.intro rfl (And.intro rfl (And.intro rfl (And.intro rfl (And.intro rfl (And.intro rfl (And.intro rfl (And.intro rfl (And.intro rfl (And.intro rfl (And.intro rfl (And.intro rfl (And.intro rfl (And.intro rfl (And.intro rfl (And.intro rfl (And.intro rfl trivial)))))))))))))))))) (tz_wd (k2 := k + 4) (by omega) (ih _ _ _ _ _ _ _ _ _ _ _ _ _ _ _ _ _ _ _ _ (k + 4) h1 h (by omega) hE kk))

theorem lL_holds_p357 {E : tl_E} {X : State → Array Value → Code → Prop} {Z : List Frame → Array Value → State → State → Prop} {kE : Nat} : ∀ (n : Nat) (a1 : Nat) (x2 : Int32) (x3 : Int32) (x4 : Int32) (x5 : Int32) (x6 : Int32) (x7 : Int32) (x8 : Int32) (x9 : Int32) (x10 : Int32) (x11 : Int32) (x12 : Int32) (x13 : Int32) (x14 : Int32) (x15 : Int32) (x16 : Int32) (x17 : Int32) (u : tz_U) (w : Int32 × Int32 × tz_U) (k : Nat), tz_on E a1 → fL_holds_p357 n a1 x2 x3 x4 x5 x6 x7 x8 x9 x10 x11 x12 x13 x14 x15 x16 x17 u = some w → k + n * 36 ≤ kE → kE ≤ 9104 → tz_R E mL_holds X Z kE (tz_HU E w.2.2) 497 [some (.ref a1), some (.int x2), some (.int x3), some (.int x4), some (.int x5), some (.int x6), some (.int x7), some (.int x8), some (.int x9), some (.int x10), some (.int x11), some (.int x12), some (.int x13), some (.int x14), none, some (.int w.1), some (.int w.2.1), none, none, none, none, none] [] → tz_R E mL_holds X Z k (tz_HU E u) 357 [some (.ref a1), some (.int x2), some (.int x3), some (.int x4), some (.int x5), some (.int x6), some (.int x7), some (.int x8), some (.int x9), some (.int x10), some (.int x11), some (.int x12), some (.int x13), some (.int x14), none, some (.int x15), some (.int x16), some (.int x17), none, none, none, none] [] := by
  intro n
  induction n with
  | zero => intro a1 x2 x3 x4 x5 x6 x7 x8 x9 x10 x11 x12 x13 x14 x15 x16 x17 u w k h1 h; exact absurd h (by simp [fL_holds_p357])
  | succ n ih =>
    intro a1 x2 x3 x4 x5 x6 x7 x8 x9 x10 x11 x12 x13 x14 x15 x16 x17 u w k h1 h hk hE kk
    rw [fL_holds_p357] at h
    refine tl_iload dL_holds_357 rfl (tl_iload dL_holds_359 rfl (tl_icmp_gt (tgt := 497) dL_holds_361 (by decide) (fun c18 => ?_) (fun c18 => ?_)))
    · replace h := tl_ip h c18
      cases h
      exact tz_fg (ls2 := [some (.ref a1), some (.int x2), some (.int x3), some (.int x4), some (.int x5), some (.int x6), some (.int x7), some (.int x8), some (.int x9), some (.int x10), some (.int x11), some (.int x12), some (.int x13), some (.int x14), none, some (.int x15), some (.int x16), none, none, none, none, none]) (And.intro rfl (And.intro rfl (And.intro rfl (And.intro rfl (And.intro rfl (And.intro rfl (And.intro rfl (And.intro rfl (And.intro rfl (And.intro rfl (And.intro rfl (And.intro rfl (And.intro rfl (And.intro rfl (And.intro rfl (And.intro rfl trivial)))))))))))))))) (tz_wd (k2 := kE) (by omega) kk)
    · replace h := tl_in h c18
      refine tl_iload dL_holds_364 rfl (tl_if_eq (tgt := 497) dL_holds_366 (by decide) (fun c19 => ?_) (fun c19 => ?_))
      · replace h := tl_ip h c19
        cases h
        exact tz_fg (ls2 := [some (.ref a1), some (.int x2), some (.int x3), some (.int x4), some (.int x5), some (.int x6), some (.int x7), some (.int x8), some (.int x9), some (.int x10), some (.int x11), some (.int x12), some (.int x13), some (.int x14), none, some (.int x15), some (.int x16), none, none, none, none, none]) (And.intro rfl (And.intro rfl (And.intro rfl (And.intro rfl (And.intro rfl (And.intro rfl (And.intro rfl (And.intro rfl (And.intro rfl (And.intro rfl (And.intro rfl (And.intro rfl (And.intro rfl (And.intro rfl (And.intro rfl (And.intro rfl trivial)))))))))))))))) (tz_wd (k2 := kE) (by omega) kk)
      · replace h := tl_in h c19
        refine tl_iconst (v := 0) dL_holds_369 ic_0 (tl_istore dL_holds_370 (Nat.le_of_ble_eq_true rfl) (tl_iconst (v := 0) dL_holds_372 ic_0 (tl_istore dL_holds_373 (Nat.le_of_ble_eq_true rfl) (?_))))
        refine tz_fg (ls2 := [some (.ref a1), some (.int x2), some (.int x3), some (.int x4), some (.int x5), some (.int x6), some (.int x7), some (.int x8), some (.int x9), some (.int x10), some (.int x11), some (.int x12), some (.int x13), some (.int x14), none, none, some (.int x16), some (.int x17), some (.int 0), some (.int 0), none, none]) (And.intro rfl (And.intro rfl (And.intro rfl (And.intro rfl (And.intro rfl (And.intro rfl (And.intro rfl (And.intro rfl (And.intro rfl (And.intro rfl (And.intro rfl (And.intro rfl (And.intro rfl (And.intro rfl (And.intro rfl (And.intro rfl (And.intro rfl (And.intro rfl trivial)))))))))))))))))) ?_
        obtain ⟨w20, e21, h⟩ := tl_bi h
        refine lL_holds_p375 9 _ _ _ _ _ _ _ _ _ _ _ _ _ _ _ _ _ _ _ w20 k h1 e21 (kE := (k + 36)) (by omega) (by omega : (k + 36) ≤ 9104) ?_
        refine tl_iload dL_holds_465 rfl (tl_iload dL_holds_467 rfl (?_))
        obtain ⟨K22, e24, h⟩ := tl_ki h
        have q23 : ∀ (y25 : Int32) (u26 : tz_U), K22 y25 u26 = some w → tz_R E mL_holds X Z (k + 36) (tz_HU E u26) 484 [some (.ref a1), some (.int x2), some (.int x3), some (.int x4), some (.int x5), some (.int x6), some (.int x7), some (.int x8), some (.int x9), some (.int x10), some (.int x11), some (.int x12), some (.int x13), some (.int x14), none, none, none, some (.int x17), some (.int w20.1), none, none, none] [.int y25, .int x16] := by
          intro y25 u26 h
          have h := tl_kb1 e24 h
          clear e24
          refine tl_iadd dL_holds_484 (tz_isto dL_holds_485 (Nat.le_of_ble_eq_true rfl) (fun x27 e => ?_))
          have h := tl_leteq e h
          clear e
          refine tl_iload dL_holds_487 rfl (tl_istore dL_holds_489 (Nat.le_of_ble_eq_true rfl) (tz_iincK dL_holds_491 rfl (ii_1 _) (Nat.le_of_ble_eq_true rfl) (fun x28 e => ?_)))
          have h := tl_leteq e h
          clear e
          refine tl_goto (tgt := 357) dL_holds_494 (by decide) (?_)
          exact tz_fg (ls2 := [some (.ref a1), some (.int x2), some (.int x3), some (.int x4), some (.int x5), some (.int x6), some (.int x7), some (.int x8), some (.int x9), some (.int x10), some (.int x11), some (.int x12), some (.int x13), some (.int x14), none, some (.int w20.1), some (.int x27), some (.int x28), none, none, none, none]) (And.intro rfl (And.intro rfl (And.intro rfl (And.intro rfl (And.intro rfl (And.intro rfl (And.intro rfl (And.intro rfl (And.intro rfl (And.intro rfl (And.intro rfl (And.intro rfl (And.intro rfl (And.intro rfl (And.intro rfl (And.intro rfl (And.intro rfl trivial))))))))))))))))) (tz_wd (k2 := k + 36) (by omega) (ih _ _ _ _ _ _ _ _ _ _ _ _ _ _ _ _ _ _ _ (k + 36) h1 h (by omega) hE kk))
        clear e24
        refine tl_if_eq (tgt := 483) dL_holds_469 (by decide) (fun c29 => ?_) (fun c29 => ?_)
        · replace h := tl_ip h c29
          refine tl_iconst (v := 0) dL_holds_483 ic_0 (?_)
          exact tz_fg (ls2 := [some (.ref a1), some (.int x2), some (.int x3), some (.int x4), some (.int x5), some (.int x6), some (.int x7), some (.int x8), some (.int x9), some (.int x10), some (.int x11), some (.int x12), some (.int x13), some (.int x14), none, none, none, some (.int x17), some (.int w20.1), none, none, none]) (And.intro rfl (And.intro rfl (And.intro rfl (And.intro rfl (And.intro rfl (And.intro rfl (And.intro rfl (And.intro rfl (And.intro rfl (And.intro rfl (And.intro rfl (And.intro rfl (And.intro rfl (And.intro rfl (And.intro rfl (And.intro rfl trivial)))))))))))))))) (tz_wd (k2 := (k + 36)) (by omega) (q23 _ _ h))
        · replace h := tl_in h c29
          refine tl_iload dL_holds_472 rfl (tl_iload dL_holds_474 rfl (tl_icmp_ge (tgt := 483) dL_holds_476 (by decide) (fun c30 => ?_) (fun c30 => ?_)))
          · replace h := tl_ip h c30
            refine tl_iconst (v := 0) dL_holds_483 ic_0 (?_)
            exact tz_fg (ls2 := [some (.ref a1), some (.int x2), some (.int x3), some (.int x4), some (.int x5), some (.int x6), some (.int x7), some (.int x8), some (.int x9), some (.int x10), some (.int x11), some (.int x12), some (.int x13), some (.int x14), none, none, none, some (.int x17), some (.int w20.1), none, none, none]) (And.intro rfl (And.intro rfl (And.intro rfl (And.intro rfl (And.intro rfl (And.intro rfl (And.intro rfl (And.intro rfl (And.intro rfl (And.intro rfl (And.intro rfl (And.intro rfl (And.intro rfl (And.intro rfl (And.intro rfl (And.intro rfl trivial)))))))))))))))) (tz_wd (k2 := (k + 36)) (by omega) (q23 _ _ h))
          · replace h := tl_in h c30
            refine tl_iconst (v := 1) dL_holds_479 ic_1 (tl_goto (tgt := 484) dL_holds_480 (by decide) (?_))
            exact tz_fg (ls2 := [some (.ref a1), some (.int x2), some (.int x3), some (.int x4), some (.int x5), some (.int x6), some (.int x7), some (.int x8), some (.int x9), some (.int x10), some (.int x11), some (.int x12), some (.int x13), some (.int x14), none, none, none, some (.int x17), some (.int w20.1), none, none, none]) (And.intro rfl (And.intro rfl (And.intro rfl (And.intro rfl (And.intro rfl (And.intro rfl (And.intro rfl (And.intro rfl (And.intro rfl (And.intro rfl (And.intro rfl (And.intro rfl (And.intro rfl (And.intro rfl (And.intro rfl (And.intro rfl trivial)))))))))))))))) (tz_wd (k2 := (k + 36)) (by omega) (q23 _ _ h))

set_option maxHeartbeats 4000000 in
set_option maxRecDepth 40000 in
theorem lL_holds_p284 {E : tl_E} {X : State → Array Value → Code → Prop} {Z : List Frame → Array Value → State → State → Prop} {kE : Nat} : ∀ (n : Nat) (a1 : Nat) (x2 : Int32) (x3 : Int32) (x4 : Int32) (x5 : Int32) (x6 : Int32) (x7 : Int32) (x8 : Int32) (x9 : Int32) (x10 : Int32) (x11 : Int32) (x12 : Int32) (u : tz_U) (w : Int32 × Int32 × Int32 × tz_U) (k : Nat), tz_on E a1 → fL_holds_p284 n a1 x2 x3 x4 x5 x6 x7 x8 x9 x10 x11 x12 u = some w → k + n * 2240 ≤ kE → kE ≤ 9104 → tz_R E mL_holds X Z kE (tz_HU E w.2.2.2) 623 [some (.ref a1), some (.int x2), some (.int x3), some (.int x4), some (.int x5), some (.int x6), some (.int x7), some (.int x8), some (.int w.1), some (.int w.2.1), some (.int w.2.2.1), none, none, none, none, none, none, none, none, none, none, none] [] → tz_R E mL_holds X Z k (tz_HU E u) 284 [some (.ref a1), some (.int x2), some (.int x3), some (.int x4), some (.int x5), some (.int x6), some (.int x7), some (.int x8), some (.int x9), some (.int x10), some (.int x11), some (.int x12), none, none, none, none, none, none, none, none, none, none] [] := by
  intro n
  induction n with
  | zero => intro a1 x2 x3 x4 x5 x6 x7 x8 x9 x10 x11 x12 u w k h1 h; exact absurd h (by simp [fL_holds_p284])
  | succ n ih =>
    intro a1 x2 x3 x4 x5 x6 x7 x8 x9 x10 x11 x12 u w k h1 h hk hE kk
    rw [fL_holds_p284] at h
    refine tl_iload dL_holds_284 rfl (tl_iload_n dL_holds_286 rfl (tl_icmp_ge (tgt := 623) dL_holds_287 (by decide) (fun c13 => ?_) (fun c13 => ?_)))
    · replace h := tl_ip h c13
      cases h
      exact tz_fg (ls2 := [some (.ref a1), some (.int x2), some (.int x3), some (.int x4), some (.int x5), some (.int x6), some (.int x7), some (.int x8), some (.int x9), some (.int x10), some (.int x11), none, none, none, none, none, none, none, none, none, none, none]) (And.intro rfl (And.intro rfl (And.intro rfl (And.intro rfl (And.intro rfl (And.intro rfl (And.intro rfl (And.intro rfl (And.intro rfl (And.intro rfl (And.intro rfl trivial))))))))))) (tz_wd (k2 := kE) (by omega) kk)
    · replace h := tl_in h c13
      refine tl_iload dL_holds_290 rfl (tl_if_eq (tgt := 623) dL_holds_292 (by decide) (fun c14 => ?_) (fun c14 => ?_))
      · replace h := tl_ip h c14
        cases h
        exact tz_fg (ls2 := [some (.ref a1), some (.int x2), some (.int x3), some (.int x4), some (.int x5), some (.int x6), some (.int x7), some (.int x8), some (.int x9), some (.int x10), some (.int x11), none, none, none, none, none, none, none, none, none, none, none]) (And.intro rfl (And.intro rfl (And.intro rfl (And.intro rfl (And.intro rfl (And.intro rfl (And.intro rfl (And.intro rfl (And.intro rfl (And.intro rfl (And.intro rfl trivial))))))))))) (tz_wd (k2 := kE) (by omega) kk)
      · replace h := tl_in h c14
        obtain ⟨x15, u17, e16, h⟩ := tl_b2i h
        obtain ⟨x18, u20, e19, h⟩ := tl_b2i h
        obtain ⟨x21, u23, e22, h⟩ := tl_b2i h
        refine tl_aload_n dL_holds_295 rfl (tl_iconst (v := 3) dL_holds_296 ic_3 (tl_iload dL_holds_297 rfl (tl_iconst (v := 0) dL_holds_299 ic_0 (tl_iconst (v := 0) dL_holds_300 ic_0 (tz_cS5 (lL_call h1 e16) dL_holds_301 cs_L_holds_189 (c := 1) ⟨rfl, rfl⟩ (k2 := (k + 1)) (by omega) (CM := 9104) ⟨Nat.le_of_ble_eq_true rfl, Nat.le_of_ble_eq_true rfl⟩ (by omega : (k + 1) ≤ 9104) (Nat.le_of_ble_eq_true rfl) (tl_istore dL_holds_304 (Nat.le_of_ble_eq_true rfl) (tl_aload_n dL_holds_306 rfl (tl_iconst (v := 3) dL_holds_307 ic_3 (tl_iload dL_holds_308 rfl (tl_iconst (v := 1) dL_holds_310 ic_1 (tl_iconst (v := 0) dL_holds_311 ic_0 (tz_cS5 (lL_call h1 e19) dL_holds_312 cs_L_holds_189 (c := 1) ⟨rfl, rfl⟩ (k2 := (k + 2)) (by omega) (CM := 9104) ⟨Nat.le_of_ble_eq_true rfl, Nat.le_of_ble_eq_true rfl⟩ (by omega : (k + 2) ≤ 9104) (Nat.le_of_ble_eq_true rfl) (tl_istore dL_holds_315 (Nat.le_of_ble_eq_true rfl) (tl_iconst (v := 0) dL_holds_317 ic_0 (tl_istore dL_holds_318 (Nat.le_of_ble_eq_true rfl) (tl_iconst (v := 0) dL_holds_320 ic_0 (tl_istore dL_holds_321 (Nat.le_of_ble_eq_true rfl) (tl_iload dL_holds_323 rfl (tl_aload_n dL_holds_325 rfl (tl_iconst (v := 3) dL_holds_326 ic_3 (tl_iload dL_holds_327 rfl (tl_iconst (v := 4) dL_holds_329 ic_4 (tl_iconst (v := 0) dL_holds_330 ic_0 (tz_cS5 (lL_call h1 e22) dL_holds_331 cs_L_holds_189 (c := 1) ⟨rfl, rfl⟩ (k2 := (k + 3)) (by omega) (CM := 9104) ⟨Nat.le_of_ble_eq_true rfl, Nat.le_of_ble_eq_true rfl⟩ (by omega : (k + 3) ≤ 9104) (Nat.le_of_ble_eq_true rfl) (tl_iadd dL_holds_334 (tz_isto dL_holds_335 (Nat.le_of_ble_eq_true rfl) (fun x24 e => ?_)))))))))))))))))))))))))))
        have h := tl_leteq e h
        clear e
        obtain ⟨x25, u27, e26, h⟩ := tl_b2i h
        refine tl_iload dL_holds_337 rfl (tl_aload_n dL_holds_339 rfl (tl_iconst (v := 3) dL_holds_340 ic_3 (tl_iload dL_holds_341 rfl (tl_iconst (v := 5) dL_holds_343 ic_5 (tl_iconst (v := 0) dL_holds_344 ic_0 (tz_cS5 (lL_call h1 e26) dL_holds_345 cs_L_holds_189 (c := 1) ⟨rfl, rfl⟩ (k2 := (k + 4)) (by omega) (CM := 9104) ⟨Nat.le_of_ble_eq_true rfl, Nat.le_of_ble_eq_true rfl⟩ (by omega : (k + 4) ≤ 9104) (Nat.le_of_ble_eq_true rfl) (tl_iadd dL_holds_348 (tz_isto dL_holds_349 (Nat.le_of_ble_eq_true rfl) (fun x28 e => ?_)))))))))
        have h := tl_leteq e h
        clear e
        refine tl_iconst (v := 0) dL_holds_351 ic_0 (tl_istore dL_holds_352 (Nat.le_of_ble_eq_true rfl) (tl_iconst (v := 0) dL_holds_354 ic_0 (tl_istore dL_holds_355 (Nat.le_of_ble_eq_true rfl) (?_))))
        refine tz_fg (ls2 := [some (.ref a1), some (.int x2), some (.int x3), some (.int x4), some (.int x5), some (.int x6), some (.int x7), some (.int x8), some (.int x24), some (.int x28), some (.int x11), some (.int x12), some (.int x15), some (.int x18), none, some (.int 0), some (.int 0), some (.int 0), none, none, none, none]) (And.intro rfl (And.intro rfl (And.intro rfl (And.intro rfl (And.intro rfl (And.intro rfl (And.intro rfl (And.intro rfl (And.intro rfl (And.intro rfl (And.intro rfl (And.intro rfl (And.intro rfl (And.intro rfl (And.intro rfl (And.intro rfl (And.intro rfl trivial))))))))))))))))) ?_
        obtain ⟨w29, e30, h⟩ := tl_bi h
        refine lL_holds_p357 62 _ _ _ _ _ _ _ _ _ _ _ _ _ _ _ _ _ _ w29 (k + 4) h1 e30 (kE := (k + 2236)) (by omega) (by omega : (k + 2236) ≤ 9104) ?_
        obtain ⟨x31, u33, e32, h⟩ := tl_b2i h
        refine tl_aload_n dL_holds_497 rfl (tl_iconst (v := 3) dL_holds_498 ic_3 (tl_iload dL_holds_499 rfl (tl_iconst (v := 2) dL_holds_501 ic_2 (tl_iconst (v := 0) dL_holds_502 ic_0 (tz_cS5 (lL_call h1 e32) dL_holds_503 cs_L_holds_189 (c := 1) ⟨rfl, rfl⟩ (k2 := (k + 2237)) (by omega) (CM := 9104) ⟨Nat.le_of_ble_eq_true rfl, Nat.le_of_ble_eq_true rfl⟩ (by omega : (k + 2237) ≤ 9104) (Nat.le_of_ble_eq_true rfl) (tl_istore dL_holds_506 (Nat.le_of_ble_eq_true rfl) (tl_iload dL_holds_508 rfl (tl_if_eq (tgt := 614) dL_holds_510 (by decide) (fun c34 => ?_) (fun c34 => ?_)))))))))
        · replace h := tl_ip h c34
          refine tl_iconst (v := 0) dL_holds_614 ic_0 (tl_istore dL_holds_615 (Nat.le_of_ble_eq_true rfl) (tz_iincK dL_holds_617 rfl (ii_1 _) (Nat.le_of_ble_eq_true rfl) (fun x35 e => ?_)))
          have h := tl_leteq e h
          clear e
          refine tl_goto (tgt := 284) dL_holds_620 (by decide) (?_)
          exact tz_fg (ls2 := [some (.ref a1), some (.int x2), some (.int x3), some (.int x4), some (.int x5), some (.int x6), some (.int x7), some (.int x8), some (.int x24), some (.int x28), some (.int 0), some (.int x35), none, none, none, none, none, none, none, none, none, none]) (And.intro rfl (And.intro rfl (And.intro rfl (And.intro rfl (And.intro rfl (And.intro rfl (And.intro rfl (And.intro rfl (And.intro rfl (And.intro rfl (And.intro rfl (And.intro rfl trivial)))))))))))) (tz_wd (k2 := k + 2240) (by omega) (ih _ _ _ _ _ _ _ _ _ _ _ _ _ _ (k + 2240) h1 h (by omega) hE kk))
        · replace h := tl_in h c34
          refine tl_iload dL_holds_513 rfl (tl_if_le (tgt := 614) dL_holds_515 (by decide) (fun c35 => ?_) (fun c35 => ?_))
          · replace h := tl_ip h c35
            refine tl_iconst (v := 0) dL_holds_614 ic_0 (tl_istore dL_holds_615 (Nat.le_of_ble_eq_true rfl) (tz_iincK dL_holds_617 rfl (ii_1 _) (Nat.le_of_ble_eq_true rfl) (fun x36 e => ?_)))
            have h := tl_leteq e h
            clear e
            refine tl_goto (tgt := 284) dL_holds_620 (by decide) (?_)
            exact tz_fg (ls2 := [some (.ref a1), some (.int x2), some (.int x3), some (.int x4), some (.int x5), some (.int x6), some (.int x7), some (.int x8), some (.int x24), some (.int x28), some (.int 0), some (.int x36), none, none, none, none, none, none, none, none, none, none]) (And.intro rfl (And.intro rfl (And.intro rfl (And.intro rfl (And.intro rfl (And.intro rfl (And.intro rfl (And.intro rfl (And.intro rfl (And.intro rfl (And.intro rfl (And.intro rfl trivial)))))))))))) (tz_wd (k2 := k + 2240) (by omega) (ih _ _ _ _ _ _ _ _ _ _ _ _ _ _ (k + 2240) h1 h (by omega) hE kk))
          · replace h := tl_in h c35
            refine tl_iload dL_holds_518 rfl (tl_bipush (v := 60) dL_holds_520 bp_60 (tl_icmp_gt (tgt := 614) dL_holds_522 (by decide) (fun c36 => ?_) (fun c36 => ?_)))
            · replace h := tl_ip h c36
              refine tl_iconst (v := 0) dL_holds_614 ic_0 (tl_istore dL_holds_615 (Nat.le_of_ble_eq_true rfl) (tz_iincK dL_holds_617 rfl (ii_1 _) (Nat.le_of_ble_eq_true rfl) (fun x37 e => ?_)))
              have h := tl_leteq e h
              clear e
              refine tl_goto (tgt := 284) dL_holds_620 (by decide) (?_)
              exact tz_fg (ls2 := [some (.ref a1), some (.int x2), some (.int x3), some (.int x4), some (.int x5), some (.int x6), some (.int x7), some (.int x8), some (.int x24), some (.int x28), some (.int 0), some (.int x37), none, none, none, none, none, none, none, none, none, none]) (And.intro rfl (And.intro rfl (And.intro rfl (And.intro rfl (And.intro rfl (And.intro rfl (And.intro rfl (And.intro rfl (And.intro rfl (And.intro rfl (And.intro rfl (And.intro rfl trivial)))))))))))) (tz_wd (k2 := k + 2240) (by omega) (ih _ _ _ _ _ _ _ _ _ _ _ _ _ _ (k + 2240) h1 h (by omega) hE kk))
            · replace h := tl_in h c36
              refine tl_iload dL_holds_525 rfl (tl_if_lt (tgt := 614) dL_holds_527 (by decide) (fun c37 => ?_) (fun c37 => ?_))
              · replace h := tl_ip h c37
                refine tl_iconst (v := 0) dL_holds_614 ic_0 (tl_istore dL_holds_615 (Nat.le_of_ble_eq_true rfl) (tz_iincK dL_holds_617 rfl (ii_1 _) (Nat.le_of_ble_eq_true rfl) (fun x38 e => ?_)))
                have h := tl_leteq e h
                clear e
                refine tl_goto (tgt := 284) dL_holds_620 (by decide) (?_)
                exact tz_fg (ls2 := [some (.ref a1), some (.int x2), some (.int x3), some (.int x4), some (.int x5), some (.int x6), some (.int x7), some (.int x8), some (.int x24), some (.int x28), some (.int 0), some (.int x38), none, none, none, none, none, none, none, none, none, none]) (And.intro rfl (And.intro rfl (And.intro rfl (And.intro rfl (And.intro rfl (And.intro rfl (And.intro rfl (And.intro rfl (And.intro rfl (And.intro rfl (And.intro rfl (And.intro rfl trivial)))))))))))) (tz_wd (k2 := k + 2240) (by omega) (ih _ _ _ _ _ _ _ _ _ _ _ _ _ _ (k + 2240) h1 h (by omega) hE kk))
              · replace h := tl_in h c37
                refine tl_iload dL_holds_530 rfl (tl_bipush (v := 60) dL_holds_532 bp_60 (?_))
                obtain ⟨K38, e40, h⟩ := tl_ki h
                have q39 : ∀  (u41 : tz_U), K38  u41 = some w → tz_R E mL_holds X Z (k + 2237) (tz_HU E u41) 544 [some (.ref a1), some (.int x2), some (.int x3), some (.int x4), some (.int x5), some (.int x6), some (.int x7), some (.int x8), some (.int x24), some (.int x28), none, some (.int x12), none, none, some (.int x31), some (.int w29.1), some (.int w29.2.1), none, none, none, none, none] [] := by
                  intro  u41 h
                  have h := tl_kb0 e40 h
                  clear e40
                  refine tl_iload dL_holds_544 rfl (tl_iconst (v := 3) dL_holds_546 ic_3 (tl_icmp_lt (tgt := 614) dL_holds_547 (by decide) (fun c42 => ?_) (fun c42 => ?_)))
                  · replace h := tl_ip h c42
                    refine tl_iconst (v := 0) dL_holds_614 ic_0 (tl_istore dL_holds_615 (Nat.le_of_ble_eq_true rfl) (tz_iincK dL_holds_617 rfl (ii_1 _) (Nat.le_of_ble_eq_true rfl) (fun x43 e => ?_)))
                    have h := tl_leteq e h
                    clear e
                    refine tl_goto (tgt := 284) dL_holds_620 (by decide) (?_)
                    exact tz_fg (ls2 := [some (.ref a1), some (.int x2), some (.int x3), some (.int x4), some (.int x5), some (.int x6), some (.int x7), some (.int x8), some (.int x24), some (.int x28), some (.int 0), some (.int x43), none, none, none, none, none, none, none, none, none, none]) (And.intro rfl (And.intro rfl (And.intro rfl (And.intro rfl (And.intro rfl (And.intro rfl (And.intro rfl (And.intro rfl (And.intro rfl (And.intro rfl (And.intro rfl (And.intro rfl trivial)))))))))))) (tz_wd (k2 := k + 2240) (by omega) (ih _ _ _ _ _ _ _ _ _ _ _ _ _ _ (k + 2240) h1 h (by omega) hE kk))
                  · replace h := tl_in h c42
                    refine tl_iload dL_holds_550 rfl (tl_bipush (v := 8) dL_holds_552 bp_8 (tl_icmp_gt (tgt := 614) dL_holds_554 (by decide) (fun c43 => ?_) (fun c43 => ?_)))
                    · replace h := tl_ip h c43
                      refine tl_iconst (v := 0) dL_holds_614 ic_0 (tl_istore dL_holds_615 (Nat.le_of_ble_eq_true rfl) (tz_iincK dL_holds_617 rfl (ii_1 _) (Nat.le_of_ble_eq_true rfl) (fun x44 e => ?_)))
                      have h := tl_leteq e h
                      clear e
                      refine tl_goto (tgt := 284) dL_holds_620 (by decide) (?_)
                      exact tz_fg (ls2 := [some (.ref a1), some (.int x2), some (.int x3), some (.int x4), some (.int x5), some (.int x6), some (.int x7), some (.int x8), some (.int x24), some (.int x28), some (.int 0), some (.int x44), none, none, none, none, none, none, none, none, none, none]) (And.intro rfl (And.intro rfl (And.intro rfl (And.intro rfl (And.intro rfl (And.intro rfl (And.intro rfl (And.intro rfl (And.intro rfl (And.intro rfl (And.intro rfl (And.intro rfl trivial)))))))))))) (tz_wd (k2 := k + 2240) (by omega) (ih _ _ _ _ _ _ _ _ _ _ _ _ _ _ (k + 2240) h1 h (by omega) hE kk))
                    · replace h := tl_in h c43
                      obtain ⟨x44, u46, e45, h⟩ := tl_b2i h
                      refine tl_aload_n dL_holds_557 rfl (tl_iconst (v := 3) dL_holds_558 ic_3 (tl_iload dL_holds_559 rfl (tl_iconst (v := 3) dL_holds_561 ic_3 (tl_iconst (v := 0) dL_holds_562 ic_0 (tz_cS5 (lL_call h1 e45) dL_holds_563 cs_L_holds_189 (c := 1) ⟨rfl, rfl⟩ (k2 := (k + 2238)) (by omega) (CM := 9104) ⟨Nat.le_of_ble_eq_true rfl, Nat.le_of_ble_eq_true rfl⟩ (by omega : (k + 2238) ≤ 9104) (Nat.le_of_ble_eq_true rfl) (tl_iconst (v := 1) dL_holds_566 ic_1 (?_)))))))
                      obtain ⟨K47, e49, h⟩ := tl_ki h
                      have q48 : ∀ (y50 : Int32) (u51 : tz_U), K47 y50 u51 = some w → tz_R E mL_holds X Z (k + 2238) (tz_HU E u51) 575 [some (.ref a1), some (.int x2), some (.int x3), some (.int x4), some (.int x5), some (.int x6), some (.int x7), some (.int x8), some (.int x24), some (.int x28), none, some (.int x12), none, none, none, some (.int w29.1), some (.int w29.2.1), none, none, none, none, none] [.int y50] := by
                        intro y50 u51 h
                        have h := tl_kb1 e49 h
                        clear e49
                        refine tl_iload dL_holds_575 rfl (tl_icmp_ne (tgt := 614) dL_holds_577 (by decide) (fun c52 => ?_) (fun c52 => ?_))
                        · replace h := tl_in h c52
                          refine tl_iconst (v := 0) dL_holds_614 ic_0 (tl_istore dL_holds_615 (Nat.le_of_ble_eq_true rfl) (tz_iincK dL_holds_617 rfl (ii_1 _) (Nat.le_of_ble_eq_true rfl) (fun x53 e => ?_)))
                          have h := tl_leteq e h
                          clear e
                          refine tl_goto (tgt := 284) dL_holds_620 (by decide) (?_)
                          exact tz_fg (ls2 := [some (.ref a1), some (.int x2), some (.int x3), some (.int x4), some (.int x5), some (.int x6), some (.int x7), some (.int x8), some (.int x24), some (.int x28), some (.int 0), some (.int x53), none, none, none, none, none, none, none, none, none, none]) (And.intro rfl (And.intro rfl (And.intro rfl (And.intro rfl (And.intro rfl (And.intro rfl (And.intro rfl (And.intro rfl (And.intro rfl (And.intro rfl (And.intro rfl (And.intro rfl trivial)))))))))))) (tz_wd (k2 := k + 2240) (by omega) (ih _ _ _ _ _ _ _ _ _ _ _ _ _ _ (k + 2240) h1 h (by omega) hE kk))
                        · replace h := tl_ip h c52
                          obtain ⟨x53, u55, e54, h⟩ := tl_b2i h
                          refine tl_aload_n dL_holds_580 rfl (tl_bipush (v := 8) dL_holds_581 bp_8 (tl_iload dL_holds_583 rfl (tl_iconst (v := 0) dL_holds_585 ic_0 (tl_iconst (v := 0) dL_holds_586 ic_0 (tz_cS5 (lL_call h1 e54) dL_holds_587 cs_L_holds_189 (c := 1) ⟨rfl, rfl⟩ (k2 := (k + 2239)) (by omega) (CM := 9104) ⟨Nat.le_of_ble_eq_true rfl, Nat.le_of_ble_eq_true rfl⟩ (by omega : (k + 2239) ≤ 9104) (Nat.le_of_ble_eq_true rfl) (tl_iload dL_holds_590 rfl (tl_icmp_ne (tgt := 614) dL_holds_592 (by decide) (fun c56 => ?_) (fun c56 => ?_))))))))
                          · replace h := tl_in h c56
                            refine tl_iconst (v := 0) dL_holds_614 ic_0 (tl_istore dL_holds_615 (Nat.le_of_ble_eq_true rfl) (tz_iincK dL_holds_617 rfl (ii_1 _) (Nat.le_of_ble_eq_true rfl) (fun x57 e => ?_)))
                            have h := tl_leteq e h
                            clear e
                            refine tl_goto (tgt := 284) dL_holds_620 (by decide) (?_)
                            exact tz_fg (ls2 := [some (.ref a1), some (.int x2), some (.int x3), some (.int x4), some (.int x5), some (.int x6), some (.int x7), some (.int x8), some (.int x24), some (.int x28), some (.int 0), some (.int x57), none, none, none, none, none, none, none, none, none, none]) (And.intro rfl (And.intro rfl (And.intro rfl (And.intro rfl (And.intro rfl (And.intro rfl (And.intro rfl (And.intro rfl (And.intro rfl (And.intro rfl (And.intro rfl (And.intro rfl trivial)))))))))))) (tz_wd (k2 := k + 2240) (by omega) (ih _ _ _ _ _ _ _ _ _ _ _ _ _ _ (k + 2240) h1 h (by omega) hE kk))
                          · replace h := tl_ip h c56
                            obtain ⟨x57, u59, e58, h⟩ := tl_b2i h
                            refine tl_aload_n dL_holds_595 rfl (tl_bipush (v := 8) dL_holds_596 bp_8 (tl_iload dL_holds_598 rfl (tl_iconst (v := 1) dL_holds_600 ic_1 (tl_iconst (v := 0) dL_holds_601 ic_0 (tz_cS5 (lL_call h1 e58) dL_holds_602 cs_L_holds_189 (c := 1) ⟨rfl, rfl⟩ (k2 := (k + 2240)) (by omega) (CM := 9104) ⟨Nat.le_of_ble_eq_true rfl, Nat.le_of_ble_eq_true rfl⟩ (by omega : (k + 2240) ≤ 9104) (Nat.le_of_ble_eq_true rfl) (tl_iload dL_holds_605 rfl (tl_icmp_ne (tgt := 614) dL_holds_607 (by decide) (fun c60 => ?_) (fun c60 => ?_))))))))
                            · replace h := tl_in h c60
                              refine tl_iconst (v := 0) dL_holds_614 ic_0 (tl_istore dL_holds_615 (Nat.le_of_ble_eq_true rfl) (tz_iincK dL_holds_617 rfl (ii_1 _) (Nat.le_of_ble_eq_true rfl) (fun x61 e => ?_)))
                              have h := tl_leteq e h
                              clear e
                              refine tl_goto (tgt := 284) dL_holds_620 (by decide) (?_)
                              exact tz_fg (ls2 := [some (.ref a1), some (.int x2), some (.int x3), some (.int x4), some (.int x5), some (.int x6), some (.int x7), some (.int x8), some (.int x24), some (.int x28), some (.int 0), some (.int x61), none, none, none, none, none, none, none, none, none, none]) (And.intro rfl (And.intro rfl (And.intro rfl (And.intro rfl (And.intro rfl (And.intro rfl (And.intro rfl (And.intro rfl (And.intro rfl (And.intro rfl (And.intro rfl (And.intro rfl trivial)))))))))))) (tz_wd (k2 := k + 2240) (by omega) (ih _ _ _ _ _ _ _ _ _ _ _ _ _ _ (k + 2240) h1 h (by omega) hE kk))
                            · replace h := tl_ip h c60
                              refine tl_iconst (v := 1) dL_holds_610 ic_1 (tl_goto (tgt := 615) dL_holds_611 (by decide) (tl_istore dL_holds_615 (Nat.le_of_ble_eq_true rfl) (tz_iincK dL_holds_617 rfl (ii_1 _) (Nat.le_of_ble_eq_true rfl) (fun x61 e => ?_))))
                              have h := tl_leteq e h
                              clear e
                              refine tl_goto (tgt := 284) dL_holds_620 (by decide) (?_)
                              exact tz_fg (ls2 := [some (.ref a1), some (.int x2), some (.int x3), some (.int x4), some (.int x5), some (.int x6), some (.int x7), some (.int x8), some (.int x24), some (.int x28), some (.int 1), some (.int x61), none, none, none, none, none, none, none, none, none, none]) (And.intro rfl (And.intro rfl (And.intro rfl (And.intro rfl (And.intro rfl (And.intro rfl (And.intro rfl (And.intro rfl (And.intro rfl (And.intro rfl (And.intro rfl (And.intro rfl trivial)))))))))))) (tz_wd (k2 := k + 2240) (by omega) (ih _ _ _ _ _ _ _ _ _ _ _ _ _ _ (k + 2240) h1 h (by omega) hE kk))
                      clear e49
                      refine tl_icmp_ne (tgt := 574) dL_holds_567 (by decide) (fun c62 => ?_) (fun c62 => ?_)
                      · replace h := tl_in h c62
                        refine tl_iconst (v := 0) dL_holds_574 ic_0 (?_)
                        exact tz_fg (ls2 := [some (.ref a1), some (.int x2), some (.int x3), some (.int x4), some (.int x5), some (.int x6), some (.int x7), some (.int x8), some (.int x24), some (.int x28), none, some (.int x12), none, none, none, some (.int w29.1), some (.int w29.2.1), none, none, none, none, none]) (And.intro rfl (And.intro rfl (And.intro rfl (And.intro rfl (And.intro rfl (And.intro rfl (And.intro rfl (And.intro rfl (And.intro rfl (And.intro rfl (And.intro rfl (And.intro rfl (And.intro rfl trivial))))))))))))) (tz_wd (k2 := (k + 2238)) (by omega) (q48 _ _ h))
                      · replace h := tl_ip h c62
                        refine tl_iconst (v := 1) dL_holds_570 ic_1 (tl_goto (tgt := 575) dL_holds_571 (by decide) (?_))
                        exact tz_fg (ls2 := [some (.ref a1), some (.int x2), some (.int x3), some (.int x4), some (.int x5), some (.int x6), some (.int x7), some (.int x8), some (.int x24), some (.int x28), none, some (.int x12), none, none, none, some (.int w29.1), some (.int w29.2.1), none, none, none, none, none]) (And.intro rfl (And.intro rfl (And.intro rfl (And.intro rfl (And.intro rfl (And.intro rfl (And.intro rfl (And.intro rfl (And.intro rfl (And.intro rfl (And.intro rfl (And.intro rfl (And.intro rfl trivial))))))))))))) (tz_wd (k2 := (k + 2238)) (by omega) (q48 _ _ h))
                clear e40
                refine tl_icmp_eq (tgt := 544) dL_holds_534 (by decide) (fun c63 => ?_) (fun c63 => ?_)
                · replace h := tl_ip h c63
                  exact tz_fg (ls2 := [some (.ref a1), some (.int x2), some (.int x3), some (.int x4), some (.int x5), some (.int x6), some (.int x7), some (.int x8), some (.int x24), some (.int x28), none, some (.int x12), none, none, some (.int x31), some (.int w29.1), some (.int w29.2.1), none, none, none, none, none]) (And.intro rfl (And.intro rfl (And.intro rfl (And.intro rfl (And.intro rfl (And.intro rfl (And.intro rfl (And.intro rfl (And.intro rfl (And.intro rfl (And.intro rfl (And.intro rfl (And.intro rfl (And.intro rfl trivial)))))))))))))) (tz_wd (k2 := (k + 2237)) (by omega) (q39  _ h))
                · replace h := tl_in h c63
                  refine tl_iload dL_holds_537 rfl (tl_iload dL_holds_539 rfl (tl_icmp_ge (tgt := 614) dL_holds_541 (by decide) (fun c64 => ?_) (fun c64 => ?_)))
                  · replace h := tl_ip h c64
                    refine tl_iconst (v := 0) dL_holds_614 ic_0 (tl_istore dL_holds_615 (Nat.le_of_ble_eq_true rfl) (tz_iincK dL_holds_617 rfl (ii_1 _) (Nat.le_of_ble_eq_true rfl) (fun x65 e => ?_)))
                    have h := tl_leteq e h
                    clear e
                    refine tl_goto (tgt := 284) dL_holds_620 (by decide) (?_)
                    exact tz_fg (ls2 := [some (.ref a1), some (.int x2), some (.int x3), some (.int x4), some (.int x5), some (.int x6), some (.int x7), some (.int x8), some (.int x24), some (.int x28), some (.int 0), some (.int x65), none, none, none, none, none, none, none, none, none, none]) (And.intro rfl (And.intro rfl (And.intro rfl (And.intro rfl (And.intro rfl (And.intro rfl (And.intro rfl (And.intro rfl (And.intro rfl (And.intro rfl (And.intro rfl (And.intro rfl trivial)))))))))))) (tz_wd (k2 := k + 2240) (by omega) (ih _ _ _ _ _ _ _ _ _ _ _ _ _ _ (k + 2240) h1 h (by omega) hE kk))
                  · replace h := tl_in h c64
                    exact tz_fg (ls2 := [some (.ref a1), some (.int x2), some (.int x3), some (.int x4), some (.int x5), some (.int x6), some (.int x7), some (.int x8), some (.int x24), some (.int x28), none, some (.int x12), none, none, some (.int x31), some (.int w29.1), some (.int w29.2.1), none, none, none, none, none]) (And.intro rfl (And.intro rfl (And.intro rfl (And.intro rfl (And.intro rfl (And.intro rfl (And.intro rfl (And.intro rfl (And.intro rfl (And.intro rfl (And.intro rfl (And.intro rfl (And.intro rfl (And.intro rfl trivial)))))))))))))) (tz_wd (k2 := (k + 2237)) (by omega) (q39  _ h))

theorem lL_holds_p626 {E : tl_E} {X : State → Array Value → Code → Prop} {Z : List Frame → Array Value → State → State → Prop} {kE : Nat} : ∀ (n : Nat) (a1 : Nat) (x2 : Int32) (x3 : Int32) (x4 : Int32) (x5 : Int32) (x6 : Int32) (x7 : Int32) (x8 : Int32) (x9 : Int32) (x10 : Int32) (x11 : Int32) (x12 : Int32) (u : tz_U) (w : Int32 × Int32 × tz_U) (k : Nat), tz_on E a1 → fL_holds_p626 n a1 x2 x3 x4 x5 x6 x7 x8 x9 x10 x11 x12 u = some w → k + n * 6 ≤ kE → kE ≤ 9104 → tz_R E mL_holds X Z kE (tz_HU E w.2.2) 719 [some (.ref a1), some (.int x2), some (.int x3), some (.int x4), some (.int x5), some (.int x6), some (.int x7), some (.int w.1), some (.int x9), some (.int x10), some (.int w.2.1), none, none, none, none, none, none, none, none, none, none, none] [] → tz_R E mL_holds X Z k (tz_HU E u) 626 [some (.ref a1), some (.int x2), some (.int x3), some (.int x4), some (.int x5), some (.int x6), some (.int x7), some (.int x8), some (.int x9), some (.int x10), some (.int x11), some (.int x12), none, none, none, none, none, none, none, none, none, none] [] := by
  intro n
  induction n with
  | zero => intro a1 x2 x3 x4 x5 x6 x7 x8 x9 x10 x11 x12 u w k h1 h; exact absurd h (by simp [fL_holds_p626])
  | succ n ih =>
    intro a1 x2 x3 x4 x5 x6 x7 x8 x9 x10 x11 x12 u w k h1 h hk hE kk
    rw [fL_holds_p626] at h
    refine tl_iload dL_holds_626 rfl (tl_iload_n dL_holds_628 rfl (tl_icmp_ge (tgt := 719) dL_holds_629 (by decide) (fun c13 => ?_) (fun c13 => ?_)))
    · replace h := tl_ip h c13
      cases h
      exact tz_fg (ls2 := [some (.ref a1), some (.int x2), some (.int x3), some (.int x4), some (.int x5), some (.int x6), some (.int x7), some (.int x8), some (.int x9), some (.int x10), some (.int x11), none, none, none, none, none, none, none, none, none, none, none]) (And.intro rfl (And.intro rfl (And.intro rfl (And.intro rfl (And.intro rfl (And.intro rfl (And.intro rfl (And.intro rfl (And.intro rfl (And.intro rfl (And.intro rfl trivial))))))))))) (tz_wd (k2 := kE) (by omega) kk)
    · replace h := tl_in h c13
      refine tl_iload dL_holds_632 rfl (tl_if_eq (tgt := 719) dL_holds_634 (by decide) (fun c14 => ?_) (fun c14 => ?_))
      · replace h := tl_ip h c14
        cases h
        exact tz_fg (ls2 := [some (.ref a1), some (.int x2), some (.int x3), some (.int x4), some (.int x5), some (.int x6), some (.int x7), some (.int x8), some (.int x9), some (.int x10), some (.int x11), none, none, none, none, none, none, none, none, none, none, none]) (And.intro rfl (And.intro rfl (And.intro rfl (And.intro rfl (And.intro rfl (And.intro rfl (And.intro rfl (And.intro rfl (And.intro rfl (And.intro rfl (And.intro rfl trivial))))))))))) (tz_wd (k2 := kE) (by omega) kk)
      · replace h := tl_in h c14
        obtain ⟨x15, u17, e16, h⟩ := tl_b2i h
        refine tl_iload dL_holds_637 rfl (tl_aload_n dL_holds_639 rfl (tl_iconst (v := 4) dL_holds_640 ic_4 (tl_iload dL_holds_641 rfl (tl_iconst (v := 3) dL_holds_643 ic_3 (tl_iconst (v := 0) dL_holds_644 ic_0 (tz_cS5 (lL_call h1 e16) dL_holds_645 cs_L_holds_189 (c := 1) ⟨rfl, rfl⟩ (k2 := (k + 1)) (by omega) (CM := 9104) ⟨Nat.le_of_ble_eq_true rfl, Nat.le_of_ble_eq_true rfl⟩ (by omega : (k + 1) ≤ 9104) (Nat.le_of_ble_eq_true rfl) (tl_iadd dL_holds_648 (tz_isto dL_holds_649 (Nat.le_of_ble_eq_true rfl) (fun x18 e => ?_)))))))))
        have h := tl_leteq e h
        clear e
        obtain ⟨x19, u21, e20, h⟩ := tl_b2i h
        refine tl_aload_n dL_holds_651 rfl (tl_iconst (v := 4) dL_holds_652 ic_4 (tl_iload dL_holds_653 rfl (tl_iconst (v := 0) dL_holds_655 ic_0 (tl_iconst (v := 0) dL_holds_656 ic_0 (tz_cS5 (lL_call h1 e20) dL_holds_657 cs_L_holds_189 (c := 1) ⟨rfl, rfl⟩ (k2 := (k + 2)) (by omega) (CM := 9104) ⟨Nat.le_of_ble_eq_true rfl, Nat.le_of_ble_eq_true rfl⟩ (by omega : (k + 2) ≤ 9104) (Nat.le_of_ble_eq_true rfl) (tl_iload_n dL_holds_660 rfl (tl_icmp_ge (tgt := 710) dL_holds_661 (by decide) (fun c22 => ?_) (fun c22 => ?_))))))))
        · replace h := tl_ip h c22
          refine tl_iconst (v := 0) dL_holds_710 ic_0 (tl_istore dL_holds_711 (Nat.le_of_ble_eq_true rfl) (tz_iincK dL_holds_713 rfl (ii_1 _) (Nat.le_of_ble_eq_true rfl) (fun x23 e => ?_)))
          have h := tl_leteq e h
          clear e
          refine tl_goto (tgt := 626) dL_holds_716 (by decide) (?_)
          exact tz_fg (ls2 := [some (.ref a1), some (.int x2), some (.int x3), some (.int x4), some (.int x5), some (.int x6), some (.int x7), some (.int x18), some (.int x9), some (.int x10), some (.int 0), some (.int x23), none, none, none, none, none, none, none, none, none, none]) (And.intro rfl (And.intro rfl (And.intro rfl (And.intro rfl (And.intro rfl (And.intro rfl (And.intro rfl (And.intro rfl (And.intro rfl (And.intro rfl (And.intro rfl (And.intro rfl trivial)))))))))))) (tz_wd (k2 := k + 6) (by omega) (ih _ _ _ _ _ _ _ _ _ _ _ _ _ _ (k + 6) h1 h (by omega) hE kk))
        · replace h := tl_in h c22
          obtain ⟨x23, u25, e24, h⟩ := tl_b2i h
          obtain ⟨x26, u28, e27, h⟩ := tl_b2i h
          obtain ⟨g29, h⟩ := tl_gi h
          refine tl_aload_n dL_holds_664 rfl (tl_iconst (v := 4) dL_holds_665 ic_4 (tl_iload dL_holds_666 rfl (tl_iconst (v := 2) dL_holds_668 ic_2 (tl_iconst (v := 0) dL_holds_669 ic_0 (tz_cS5 (lL_call h1 e24) dL_holds_670 cs_L_holds_189 (c := 1) ⟨rfl, rfl⟩ (k2 := (k + 3)) (by omega) (CM := 9104) ⟨Nat.le_of_ble_eq_true rfl, Nat.le_of_ble_eq_true rfl⟩ (by omega : (k + 3) ≤ 9104) (Nat.le_of_ble_eq_true rfl) (tl_aload_n dL_holds_673 rfl (tl_iconst (v := 4) dL_holds_674 ic_4 (tl_iload dL_holds_675 rfl (tl_iconst (v := 1) dL_holds_677 ic_1 (tl_iconst (v := 0) dL_holds_678 ic_0 (tz_cS5 (lL_call h1 e27) dL_holds_679 cs_L_holds_189 (c := 1) ⟨rfl, rfl⟩ (k2 := (k + 4)) (by omega) (CM := 9104) ⟨Nat.le_of_ble_eq_true rfl, Nat.le_of_ble_eq_true rfl⟩ (by omega : (k + 4) ≤ 9104) (Nat.le_of_ble_eq_true rfl) (tl_irem dL_holds_682 g29 (tl_if_ne (tgt := 710) dL_holds_683 (by decide) (fun c30 => ?_) (fun c30 => ?_))))))))))))))
          · replace h := tl_in h c30
            refine tl_iconst (v := 0) dL_holds_710 ic_0 (tl_istore dL_holds_711 (Nat.le_of_ble_eq_true rfl) (tz_iincK dL_holds_713 rfl (ii_1 _) (Nat.le_of_ble_eq_true rfl) (fun x31 e => ?_)))
            have h := tl_leteq e h
            clear e
            refine tl_goto (tgt := 626) dL_holds_716 (by decide) (?_)
            exact tz_fg (ls2 := [some (.ref a1), some (.int x2), some (.int x3), some (.int x4), some (.int x5), some (.int x6), some (.int x7), some (.int x18), some (.int x9), some (.int x10), some (.int 0), some (.int x31), none, none, none, none, none, none, none, none, none, none]) (And.intro rfl (And.intro rfl (And.intro rfl (And.intro rfl (And.intro rfl (And.intro rfl (And.intro rfl (And.intro rfl (And.intro rfl (And.intro rfl (And.intro rfl (And.intro rfl trivial)))))))))))) (tz_wd (k2 := k + 6) (by omega) (ih _ _ _ _ _ _ _ _ _ _ _ _ _ _ (k + 6) h1 h (by omega) hE kk))
          · replace h := tl_ip h c30
            obtain ⟨x31, u33, e32, h⟩ := tl_b2i h
            obtain ⟨x34, u36, e35, h⟩ := tl_b2i h
            refine tl_aload_n dL_holds_686 rfl (tl_iconst (v := 4) dL_holds_687 ic_4 (tl_iload dL_holds_688 rfl (tl_iconst (v := 3) dL_holds_690 ic_3 (tl_iconst (v := 0) dL_holds_691 ic_0 (tz_cS5 (lL_call h1 e32) dL_holds_692 cs_L_holds_189 (c := 1) ⟨rfl, rfl⟩ (k2 := (k + 5)) (by omega) (CM := 9104) ⟨Nat.le_of_ble_eq_true rfl, Nat.le_of_ble_eq_true rfl⟩ (by omega : (k + 5) ≤ 9104) (Nat.le_of_ble_eq_true rfl) (tl_aload_n dL_holds_695 rfl (tl_iconst (v := 2) dL_holds_696 ic_2 (tl_iconst (v := 3) dL_holds_697 ic_3 (tl_iconst (v := 0) dL_holds_698 ic_0 (tl_iconst (v := 0) dL_holds_699 ic_0 (tz_cS5 (lL_call h1 e35) dL_holds_700 cs_L_holds_189 (c := 1) ⟨rfl, rfl⟩ (k2 := (k + 6)) (by omega) (CM := 9104) ⟨Nat.le_of_ble_eq_true rfl, Nat.le_of_ble_eq_true rfl⟩ (by omega : (k + 6) ≤ 9104) (Nat.le_of_ble_eq_true rfl) (tl_icmp_gt (tgt := 710) dL_holds_703 (by decide) (fun c37 => ?_) (fun c37 => ?_)))))))))))))
            · replace h := tl_ip h c37
              refine tl_iconst (v := 0) dL_holds_710 ic_0 (tl_istore dL_holds_711 (Nat.le_of_ble_eq_true rfl) (tz_iincK dL_holds_713 rfl (ii_1 _) (Nat.le_of_ble_eq_true rfl) (fun x38 e => ?_)))
              have h := tl_leteq e h
              clear e
              refine tl_goto (tgt := 626) dL_holds_716 (by decide) (?_)
              exact tz_fg (ls2 := [some (.ref a1), some (.int x2), some (.int x3), some (.int x4), some (.int x5), some (.int x6), some (.int x7), some (.int x18), some (.int x9), some (.int x10), some (.int 0), some (.int x38), none, none, none, none, none, none, none, none, none, none]) (And.intro rfl (And.intro rfl (And.intro rfl (And.intro rfl (And.intro rfl (And.intro rfl (And.intro rfl (And.intro rfl (And.intro rfl (And.intro rfl (And.intro rfl (And.intro rfl trivial)))))))))))) (tz_wd (k2 := k + 6) (by omega) (ih _ _ _ _ _ _ _ _ _ _ _ _ _ _ (k + 6) h1 h (by omega) hE kk))
            · replace h := tl_in h c37
              refine tl_iconst (v := 1) dL_holds_706 ic_1 (tl_goto (tgt := 711) dL_holds_707 (by decide) (tl_istore dL_holds_711 (Nat.le_of_ble_eq_true rfl) (tz_iincK dL_holds_713 rfl (ii_1 _) (Nat.le_of_ble_eq_true rfl) (fun x38 e => ?_))))
              have h := tl_leteq e h
              clear e
              refine tl_goto (tgt := 626) dL_holds_716 (by decide) (?_)
              exact tz_fg (ls2 := [some (.ref a1), some (.int x2), some (.int x3), some (.int x4), some (.int x5), some (.int x6), some (.int x7), some (.int x18), some (.int x9), some (.int x10), some (.int 1), some (.int x38), none, none, none, none, none, none, none, none, none, none]) (And.intro rfl (And.intro rfl (And.intro rfl (And.intro rfl (And.intro rfl (And.intro rfl (And.intro rfl (And.intro rfl (And.intro rfl (And.intro rfl (And.intro rfl (And.intro rfl trivial)))))))))))) (tz_wd (k2 := k + 6) (by omega) (ih _ _ _ _ _ _ _ _ _ _ _ _ _ _ (k + 6) h1 h (by omega) hE kk))

theorem lL_holds_p722 {E : tl_E} {X : State → Array Value → Code → Prop} {Z : List Frame → Array Value → State → State → Prop} {kE : Nat} : ∀ (n : Nat) (a1 : Nat) (x2 : Int32) (x3 : Int32) (x4 : Int32) (x5 : Int32) (x6 : Int32) (x7 : Int32) (x8 : Int32) (x9 : Int32) (x10 : Int32) (x11 : Int32) (x12 : Int32) (u : tz_U) (w : Int32 × tz_U) (k : Nat), tz_on E a1 → fL_holds_p722 n a1 x2 x3 x4 x5 x6 x7 x8 x9 x10 x11 x12 u = some w → k + n * 5 ≤ kE → kE ≤ 9104 → tz_R E mL_holds X Z kE (tz_HU E w.2) 849 [some (.ref a1), some (.int x2), some (.int x3), some (.int x4), some (.int x5), some (.int x6), some (.int x7), some (.int x8), some (.int x9), some (.int x10), some (.int w.1), none, none, none, none, none, none, none, none, none, none, none] [] → tz_R E mL_holds X Z k (tz_HU E u) 722 [some (.ref a1), some (.int x2), some (.int x3), some (.int x4), some (.int x5), some (.int x6), some (.int x7), some (.int x8), some (.int x9), some (.int x10), some (.int x11), some (.int x12), none, none, none, none, none, none, none, none, none, none] [] := by
  intro n
  induction n with
  | zero => intro a1 x2 x3 x4 x5 x6 x7 x8 x9 x10 x11 x12 u w k h1 h; exact absurd h (by simp [fL_holds_p722])
  | succ n ih =>
    intro a1 x2 x3 x4 x5 x6 x7 x8 x9 x10 x11 x12 u w k h1 h hk hE kk
    rw [fL_holds_p722] at h
    refine tl_iload dL_holds_722 rfl (tl_iload dL_holds_724 rfl (tl_icmp_ge (tgt := 849) dL_holds_726 (by decide) (fun c13 => ?_) (fun c13 => ?_)))
    · replace h := tl_ip h c13
      cases h
      exact tz_fg (ls2 := [some (.ref a1), some (.int x2), some (.int x3), some (.int x4), some (.int x5), some (.int x6), some (.int x7), some (.int x8), some (.int x9), some (.int x10), some (.int x11), none, none, none, none, none, none, none, none, none, none, none]) (And.intro rfl (And.intro rfl (And.intro rfl (And.intro rfl (And.intro rfl (And.intro rfl (And.intro rfl (And.intro rfl (And.intro rfl (And.intro rfl (And.intro rfl trivial))))))))))) (tz_wd (k2 := kE) (by omega) kk)
    · replace h := tl_in h c13
      refine tl_iload dL_holds_729 rfl (tl_if_eq (tgt := 849) dL_holds_731 (by decide) (fun c14 => ?_) (fun c14 => ?_))
      · replace h := tl_ip h c14
        cases h
        exact tz_fg (ls2 := [some (.ref a1), some (.int x2), some (.int x3), some (.int x4), some (.int x5), some (.int x6), some (.int x7), some (.int x8), some (.int x9), some (.int x10), some (.int x11), none, none, none, none, none, none, none, none, none, none, none]) (And.intro rfl (And.intro rfl (And.intro rfl (And.intro rfl (And.intro rfl (And.intro rfl (And.intro rfl (And.intro rfl (And.intro rfl (And.intro rfl (And.intro rfl trivial))))))))))) (tz_wd (k2 := kE) (by omega) kk)
      · replace h := tl_in h c14
        obtain ⟨x15, u17, e16, h⟩ := tl_b2i h
        refine tl_aload_n dL_holds_734 rfl (tl_bipush (v := 7) dL_holds_735 bp_7 (tl_iload dL_holds_737 rfl (tl_iconst (v := 0) dL_holds_739 ic_0 (tl_iconst (v := 0) dL_holds_740 ic_0 (tz_cS5 (lL_call h1 e16) dL_holds_741 cs_L_holds_189 (c := 1) ⟨rfl, rfl⟩ (k2 := (k + 1)) (by omega) (CM := 9104) ⟨Nat.le_of_ble_eq_true rfl, Nat.le_of_ble_eq_true rfl⟩ (by omega : (k + 1) ≤ 9104) (Nat.le_of_ble_eq_true rfl) (tl_istore dL_holds_744 (Nat.le_of_ble_eq_true rfl) (tl_iload dL_holds_746 rfl (tl_if_lt (tgt := 840) dL_holds_748 (by decide) (fun c18 => ?_) (fun c18 => ?_)))))))))
        · replace h := tl_ip h c18
          refine tl_iconst (v := 0) dL_holds_840 ic_0 (tl_istore dL_holds_841 (Nat.le_of_ble_eq_true rfl) (tz_iincK dL_holds_843 rfl (ii_1 _) (Nat.le_of_ble_eq_true rfl) (fun x19 e => ?_)))
          have h := tl_leteq e h
          clear e
          refine tl_goto (tgt := 722) dL_holds_846 (by decide) (?_)
          exact tz_fg (ls2 := [some (.ref a1), some (.int x2), some (.int x3), some (.int x4), some (.int x5), some (.int x6), some (.int x7), some (.int x8), some (.int x9), some (.int x10), some (.int 0), some (.int x19), none, none, none, none, none, none, none, none, none, none]) (And.intro rfl (And.intro rfl (And.intro rfl (And.intro rfl (And.intro rfl (And.intro rfl (And.intro rfl (And.intro rfl (And.intro rfl (And.intro rfl (And.intro rfl (And.intro rfl trivial)))))))))))) (tz_wd (k2 := k + 5) (by omega) (ih _ _ _ _ _ _ _ _ _ _ _ _ _ _ (k + 5) h1 h (by omega) hE kk))
        · replace h := tl_in h c18
          refine tl_iload dL_holds_751 rfl (tl_iconst (v := 2) dL_holds_753 ic_2 (tl_icmp_ge (tgt := 840) dL_holds_754 (by decide) (fun c19 => ?_) (fun c19 => ?_)))
          · replace h := tl_ip h c19
            refine tl_iconst (v := 0) dL_holds_840 ic_0 (tl_istore dL_holds_841 (Nat.le_of_ble_eq_true rfl) (tz_iincK dL_holds_843 rfl (ii_1 _) (Nat.le_of_ble_eq_true rfl) (fun x20 e => ?_)))
            have h := tl_leteq e h
            clear e
            refine tl_goto (tgt := 722) dL_holds_846 (by decide) (?_)
            exact tz_fg (ls2 := [some (.ref a1), some (.int x2), some (.int x3), some (.int x4), some (.int x5), some (.int x6), some (.int x7), some (.int x8), some (.int x9), some (.int x10), some (.int 0), some (.int x20), none, none, none, none, none, none, none, none, none, none]) (And.intro rfl (And.intro rfl (And.intro rfl (And.intro rfl (And.intro rfl (And.intro rfl (And.intro rfl (And.intro rfl (And.intro rfl (And.intro rfl (And.intro rfl (And.intro rfl trivial)))))))))))) (tz_wd (k2 := k + 5) (by omega) (ih _ _ _ _ _ _ _ _ _ _ _ _ _ _ (k + 5) h1 h (by omega) hE kk))
          · replace h := tl_in h c19
            obtain ⟨x20, u22, e21, h⟩ := tl_b2i h
            refine tl_aload_n dL_holds_757 rfl (tl_bipush (v := 7) dL_holds_758 bp_7 (tl_iload dL_holds_760 rfl (tl_iconst (v := 1) dL_holds_762 ic_1 (tl_iconst (v := 0) dL_holds_763 ic_0 (tz_cS5 (lL_call h1 e21) dL_holds_764 cs_L_holds_189 (c := 1) ⟨rfl, rfl⟩ (k2 := (k + 2)) (by omega) (CM := 9104) ⟨Nat.le_of_ble_eq_true rfl, Nat.le_of_ble_eq_true rfl⟩ (by omega : (k + 2) ≤ 9104) (Nat.le_of_ble_eq_true rfl) (tl_iload_n dL_holds_767 rfl (tl_icmp_ge (tgt := 840) dL_holds_768 (by decide) (fun c23 => ?_) (fun c23 => ?_))))))))
            · replace h := tl_ip h c23
              refine tl_iconst (v := 0) dL_holds_840 ic_0 (tl_istore dL_holds_841 (Nat.le_of_ble_eq_true rfl) (tz_iincK dL_holds_843 rfl (ii_1 _) (Nat.le_of_ble_eq_true rfl) (fun x24 e => ?_)))
              have h := tl_leteq e h
              clear e
              refine tl_goto (tgt := 722) dL_holds_846 (by decide) (?_)
              exact tz_fg (ls2 := [some (.ref a1), some (.int x2), some (.int x3), some (.int x4), some (.int x5), some (.int x6), some (.int x7), some (.int x8), some (.int x9), some (.int x10), some (.int 0), some (.int x24), none, none, none, none, none, none, none, none, none, none]) (And.intro rfl (And.intro rfl (And.intro rfl (And.intro rfl (And.intro rfl (And.intro rfl (And.intro rfl (And.intro rfl (And.intro rfl (And.intro rfl (And.intro rfl (And.intro rfl trivial)))))))))))) (tz_wd (k2 := k + 5) (by omega) (ih _ _ _ _ _ _ _ _ _ _ _ _ _ _ (k + 5) h1 h (by omega) hE kk))
            · replace h := tl_in h c23
              refine tl_iload dL_holds_771 rfl (tl_if_ne (tgt := 809) dL_holds_773 (by decide) (fun c24 => ?_) (fun c24 => ?_))
              · replace h := tl_in h c24
                obtain ⟨x25, u27, e26, h⟩ := tl_b2i h
                refine tl_aload_n dL_holds_809 rfl (tl_bipush (v := 7) dL_holds_810 bp_7 (tl_iload dL_holds_812 rfl (tl_iconst (v := 2) dL_holds_814 ic_2 (tl_iconst (v := 0) dL_holds_815 ic_0 (tz_cS5 (lL_call h1 e26) dL_holds_816 cs_L_holds_189 (c := 1) ⟨rfl, rfl⟩ (k2 := (k + 3)) (by omega) (CM := 9104) ⟨Nat.le_of_ble_eq_true rfl, Nat.le_of_ble_eq_true rfl⟩ (by omega : (k + 3) ≤ 9104) (Nat.le_of_ble_eq_true rfl) (tl_if_le (tgt := 840) dL_holds_819 (by decide) (fun c28 => ?_) (fun c28 => ?_)))))))
                · replace h := tl_ip h c28
                  refine tl_iconst (v := 0) dL_holds_840 ic_0 (tl_istore dL_holds_841 (Nat.le_of_ble_eq_true rfl) (tz_iincK dL_holds_843 rfl (ii_1 _) (Nat.le_of_ble_eq_true rfl) (fun x29 e => ?_)))
                  have h := tl_leteq e h
                  clear e
                  refine tl_goto (tgt := 722) dL_holds_846 (by decide) (?_)
                  exact tz_fg (ls2 := [some (.ref a1), some (.int x2), some (.int x3), some (.int x4), some (.int x5), some (.int x6), some (.int x7), some (.int x8), some (.int x9), some (.int x10), some (.int 0), some (.int x29), none, none, none, none, none, none, none, none, none, none]) (And.intro rfl (And.intro rfl (And.intro rfl (And.intro rfl (And.intro rfl (And.intro rfl (And.intro rfl (And.intro rfl (And.intro rfl (And.intro rfl (And.intro rfl (And.intro rfl trivial)))))))))))) (tz_wd (k2 := k + 5) (by omega) (ih _ _ _ _ _ _ _ _ _ _ _ _ _ _ (k + 5) h1 h (by omega) hE kk))
                · replace h := tl_in h c28
                  obtain ⟨x29, u31, e30, h⟩ := tl_b2i h
                  refine tl_aload_n dL_holds_822 rfl (tl_bipush (v := 7) dL_holds_823 bp_7 (tl_iload dL_holds_825 rfl (tl_iconst (v := 3) dL_holds_827 ic_3 (tl_iconst (v := 0) dL_holds_828 ic_0 (tz_cS5 (lL_call h1 e30) dL_holds_829 cs_L_holds_189 (c := 1) ⟨rfl, rfl⟩ (k2 := (k + 4)) (by omega) (CM := 9104) ⟨Nat.le_of_ble_eq_true rfl, Nat.le_of_ble_eq_true rfl⟩ (by omega : (k + 4) ≤ 9104) (Nat.le_of_ble_eq_true rfl) (tl_iconst (v := (-1)) dL_holds_832 ic_m1 (tl_icmp_ne (tgt := 840) dL_holds_833 (by decide) (fun c32 => ?_) (fun c32 => ?_))))))))
                  · replace h := tl_in h c32
                    refine tl_iconst (v := 0) dL_holds_840 ic_0 (tl_istore dL_holds_841 (Nat.le_of_ble_eq_true rfl) (tz_iincK dL_holds_843 rfl (ii_1 _) (Nat.le_of_ble_eq_true rfl) (fun x33 e => ?_)))
                    have h := tl_leteq e h
                    clear e
                    refine tl_goto (tgt := 722) dL_holds_846 (by decide) (?_)
                    exact tz_fg (ls2 := [some (.ref a1), some (.int x2), some (.int x3), some (.int x4), some (.int x5), some (.int x6), some (.int x7), some (.int x8), some (.int x9), some (.int x10), some (.int 0), some (.int x33), none, none, none, none, none, none, none, none, none, none]) (And.intro rfl (And.intro rfl (And.intro rfl (And.intro rfl (And.intro rfl (And.intro rfl (And.intro rfl (And.intro rfl (And.intro rfl (And.intro rfl (And.intro rfl (And.intro rfl trivial)))))))))))) (tz_wd (k2 := k + 5) (by omega) (ih _ _ _ _ _ _ _ _ _ _ _ _ _ _ (k + 5) h1 h (by omega) hE kk))
                  · replace h := tl_ip h c32
                    refine tl_iconst (v := 1) dL_holds_836 ic_1 (tl_goto (tgt := 841) dL_holds_837 (by decide) (tl_istore dL_holds_841 (Nat.le_of_ble_eq_true rfl) (tz_iincK dL_holds_843 rfl (ii_1 _) (Nat.le_of_ble_eq_true rfl) (fun x33 e => ?_))))
                    have h := tl_leteq e h
                    clear e
                    refine tl_goto (tgt := 722) dL_holds_846 (by decide) (?_)
                    exact tz_fg (ls2 := [some (.ref a1), some (.int x2), some (.int x3), some (.int x4), some (.int x5), some (.int x6), some (.int x7), some (.int x8), some (.int x9), some (.int x10), some (.int 1), some (.int x33), none, none, none, none, none, none, none, none, none, none]) (And.intro rfl (And.intro rfl (And.intro rfl (And.intro rfl (And.intro rfl (And.intro rfl (And.intro rfl (And.intro rfl (And.intro rfl (And.intro rfl (And.intro rfl (And.intro rfl trivial)))))))))))) (tz_wd (k2 := k + 5) (by omega) (ih _ _ _ _ _ _ _ _ _ _ _ _ _ _ (k + 5) h1 h (by omega) hE kk))
              · replace h := tl_ip h c24
                obtain ⟨x25, u27, e26, h⟩ := tl_b2i h
                obtain ⟨x28, u30, e29, h⟩ := tl_b2i h
                obtain ⟨x31, u33, e32, h⟩ := tl_b2i h
                refine tl_aload_n dL_holds_776 rfl (tl_bipush (v := 7) dL_holds_777 bp_7 (tl_iload dL_holds_779 rfl (tl_iconst (v := 3) dL_holds_781 ic_3 (tl_iconst (v := 0) dL_holds_782 ic_0 (tz_cS5 (lL_call h1 e26) dL_holds_783 cs_L_holds_189 (c := 1) ⟨rfl, rfl⟩ (k2 := (k + 3)) (by omega) (CM := 9104) ⟨Nat.le_of_ble_eq_true rfl, Nat.le_of_ble_eq_true rfl⟩ (by omega : (k + 3) ≤ 9104) (Nat.le_of_ble_eq_true rfl) (tl_aload_n dL_holds_786 rfl (tl_iconst (v := 3) dL_holds_787 ic_3 (tl_aload_n dL_holds_788 rfl (tl_bipush (v := 7) dL_holds_789 bp_7 (tl_iload dL_holds_791 rfl (tl_iconst (v := 2) dL_holds_793 ic_2 (tl_iconst (v := 0) dL_holds_794 ic_0 (tz_cS5 (lL_call h1 e29) dL_holds_795 cs_L_holds_189 (c := 1) ⟨rfl, rfl⟩ (k2 := (k + 4)) (by omega) (CM := 9104) ⟨Nat.le_of_ble_eq_true rfl, Nat.le_of_ble_eq_true rfl⟩ (by omega : (k + 4) ≤ 9104) (Nat.le_of_ble_eq_true rfl) (tl_iconst (v := 0) dL_holds_798 ic_0 (tl_iconst (v := 0) dL_holds_799 ic_0 (tz_cS5 (lL_call h1 e32) dL_holds_800 cs_L_holds_189 (c := 1) ⟨rfl, rfl⟩ (k2 := (k + 5)) (by omega) (CM := 9104) ⟨Nat.le_of_ble_eq_true rfl, Nat.le_of_ble_eq_true rfl⟩ (by omega : (k + 5) ≤ 9104) (Nat.le_of_ble_eq_true rfl) (tl_icmp_ge (tgt := 840) dL_holds_803 (by decide) (fun c34 => ?_) (fun c34 => ?_))))))))))))))))))
                · replace h := tl_ip h c34
                  refine tl_iconst (v := 0) dL_holds_840 ic_0 (tl_istore dL_holds_841 (Nat.le_of_ble_eq_true rfl) (tz_iincK dL_holds_843 rfl (ii_1 _) (Nat.le_of_ble_eq_true rfl) (fun x35 e => ?_)))
                  have h := tl_leteq e h
                  clear e
                  refine tl_goto (tgt := 722) dL_holds_846 (by decide) (?_)
                  exact tz_fg (ls2 := [some (.ref a1), some (.int x2), some (.int x3), some (.int x4), some (.int x5), some (.int x6), some (.int x7), some (.int x8), some (.int x9), some (.int x10), some (.int 0), some (.int x35), none, none, none, none, none, none, none, none, none, none]) (And.intro rfl (And.intro rfl (And.intro rfl (And.intro rfl (And.intro rfl (And.intro rfl (And.intro rfl (And.intro rfl (And.intro rfl (And.intro rfl (And.intro rfl (And.intro rfl trivial)))))))))))) (tz_wd (k2 := k + 5) (by omega) (ih _ _ _ _ _ _ _ _ _ _ _ _ _ _ (k + 5) h1 h (by omega) hE kk))
                · replace h := tl_in h c34
                  refine tl_goto (tgt := 836) dL_holds_806 (by decide) (tl_iconst (v := 1) dL_holds_836 ic_1 (tl_goto (tgt := 841) dL_holds_837 (by decide) (tl_istore dL_holds_841 (Nat.le_of_ble_eq_true rfl) (tz_iincK dL_holds_843 rfl (ii_1 _) (Nat.le_of_ble_eq_true rfl) (fun x35 e => ?_)))))
                  have h := tl_leteq e h
                  clear e
                  refine tl_goto (tgt := 722) dL_holds_846 (by decide) (?_)
                  exact tz_fg (ls2 := [some (.ref a1), some (.int x2), some (.int x3), some (.int x4), some (.int x5), some (.int x6), some (.int x7), some (.int x8), some (.int x9), some (.int x10), some (.int 1), some (.int x35), none, none, none, none, none, none, none, none, none, none]) (And.intro rfl (And.intro rfl (And.intro rfl (And.intro rfl (And.intro rfl (And.intro rfl (And.intro rfl (And.intro rfl (And.intro rfl (And.intro rfl (And.intro rfl (And.intro rfl trivial)))))))))))) (tz_wd (k2 := k + 5) (by omega) (ih _ _ _ _ _ _ _ _ _ _ _ _ _ _ (k + 5) h1 h (by omega) hE kk))

theorem lL_holds_p1133 {E : tl_E} {x1 : Int32} {x2 : Int32} {u : tz_U} {r : Int32} {v : tz_U}  (h : fL_holds_p1133 x1 x2 u = some (r, v)) : tz_R E mL_holds tl_X0 (tl_Z E mL_holds (tz_Q E r v)) 9104 (tz_HU E u) 1133 [none, none, none, none, none, none, none, none, none, none, none, none, none, none, none, none, none, none, none, none, none, none] [.int x1, .int x2] := by
  unfold fL_holds_p1133 at h
  refine tl_icmp_ne (tgt := 1140) dL_holds_1133 (by decide) (fun c3 => ?_) (fun c3 => ?_)
  · replace h := tl_in h c3
    exact tl_iconst (v := 0) dL_holds_1140 ic_0 (tz_ret dL_holds_1141 rfl rfl (CM := 9104) ⟨Nat.le_of_ble_eq_true rfl, Nat.le_of_ble_eq_true rfl⟩ (Nat.le_of_ble_eq_true rfl) h)
  · replace h := tl_ip h c3
    exact tl_iconst (v := 1) dL_holds_1136 ic_1 (tl_goto (tgt := 1141) dL_holds_1137 (by decide) (tz_ret dL_holds_1141 rfl rfl (CM := 9104) ⟨Nat.le_of_ble_eq_true rfl, Nat.le_of_ble_eq_true rfl⟩ (Nat.le_of_ble_eq_true rfl) h))

theorem lL_holds_p1123 {E : tl_E} {x1 : Int32} {x2 : Int32} {u : tz_U} {r : Int32} {v : tz_U}  (h : fL_holds_p1123 x1 x2 u = some (r, v)) : tz_R E mL_holds tl_X0 (tl_Z E mL_holds (tz_Q E r v)) 9104 (tz_HU E u) 1123 [none, none, none, none, some (.int x1), none, none, none, none, none, none, none, none, none, none, none, none, none, none, none, none, none] [.int x2] := by
  unfold fL_holds_p1123 at h
  refine tl_iload dL_holds_1123 rfl (tl_if_ne (tgt := 1132) dL_holds_1125 (by decide) (fun c3 => ?_) (fun c3 => ?_))
  · replace h := tl_in h c3
    refine tl_iconst (v := 0) dL_holds_1132 ic_0 (?_)
    exact tz_fg (ls2 := [none, none, none, none, none, none, none, none, none, none, none, none, none, none, none, none, none, none, none, none, none, none]) trivial (tz_wd (k2 := 9104) (Nat.le_of_ble_eq_true rfl) (lL_holds_p1133  h))
  · replace h := tl_ip h c3
    refine tl_iconst (v := 1) dL_holds_1128 ic_1 (tl_goto (tgt := 1133) dL_holds_1129 (by decide) (?_))
    exact tz_fg (ls2 := [none, none, none, none, none, none, none, none, none, none, none, none, none, none, none, none, none, none, none, none, none, none]) trivial (tz_wd (k2 := 9104) (Nat.le_of_ble_eq_true rfl) (lL_holds_p1133  h))

theorem lL_holds_p1111 {E : tl_E} {a1 : Nat} {x2 : Int32} {u : tz_U} {r : Int32} {v : tz_U} (h1 : tz_on E a1) (h : fL_holds_p1111 a1 x2 u = some (r, v)) : tz_R E mL_holds tl_X0 (tl_Z E mL_holds (tz_Q E r v)) 9104 (tz_HU E u) 1111 [some (.ref a1), none, none, none, some (.int x2), none, none, none, none, none, none, none, none, none, none, none, none, none, none, none, none, none] [] := by
  unfold fL_holds_p1111 at h
  obtain ⟨x3, u5, e4, h⟩ := tl_b2i h
  refine tl_aload_n dL_holds_1111 rfl (tz_cD h1 (lL_doneIn h1 e4) rfl dL_holds_1112 cs_L_holds_209 (c := 0) ⟨rfl, rfl⟩ (k2 := 9104) (Nat.le_of_ble_eq_true rfl) (CM := 9104) ⟨Nat.le_of_ble_eq_true rfl, Nat.le_of_ble_eq_true rfl⟩ (Nat.le_of_ble_eq_true rfl) (Nat.le_of_ble_eq_true rfl) (tl_if_ne (tgt := 1122) dL_holds_1115 (by decide) (fun c6 => ?_) (fun c6 => ?_)))
  · replace h := tl_in h c6
    refine tl_iconst (v := 0) dL_holds_1122 ic_0 (?_)
    exact tz_fg (ls2 := [none, none, none, none, some (.int x2), none, none, none, none, none, none, none, none, none, none, none, none, none, none, none, none, none]) (And.intro rfl trivial) (tz_wd (k2 := 9104) (Nat.le_of_ble_eq_true rfl) (lL_holds_p1123  h))
  · replace h := tl_ip h c6
    refine tl_iconst (v := 1) dL_holds_1118 ic_1 (tl_goto (tgt := 1123) dL_holds_1119 (by decide) (?_))
    exact tz_fg (ls2 := [none, none, none, none, some (.int x2), none, none, none, none, none, none, none, none, none, none, none, none, none, none, none, none, none]) (And.intro rfl trivial) (tz_wd (k2 := 9104) (Nat.le_of_ble_eq_true rfl) (lL_holds_p1123  h))

theorem lL_holds_p1041 {E : tl_E} {a1 : Nat} {x2 : Int32} {x3 : Int32} {u : tz_U} {r : Int32} {v : tz_U} (h1 : tz_on E a1) (h : fL_holds_p1041 a1 x2 x3 u = some (r, v)) : tz_R E mL_holds tl_X0 (tl_Z E mL_holds (tz_Q E r v)) 9098 (tz_HU E u) 1041 [some (.ref a1), some (.int x2), none, none, some (.int x3), none, none, none, none, none, none, none, none, none, none, none, none, none, none, none, none, none] [] := by
  unfold fL_holds_p1041 at h
  obtain ⟨x4, u6, e5, h⟩ := tl_b2i h
  refine tl_aload_n dL_holds_1041 rfl (tl_bipush (v := 6) dL_holds_1042 bp_6 (tl_iconst (v := 0) dL_holds_1044 ic_0 (tl_iconst (v := 0) dL_holds_1045 ic_0 (tl_iconst (v := 0) dL_holds_1046 ic_0 (tz_cS5 (lL_call h1 e5) dL_holds_1047 cs_L_holds_189 (c := 1) ⟨rfl, rfl⟩ (k2 := 9099) (Nat.le_of_ble_eq_true rfl) (CM := 9104) ⟨Nat.le_of_ble_eq_true rfl, Nat.le_of_ble_eq_true rfl⟩ (Nat.le_of_ble_eq_true rfl) (Nat.le_of_ble_eq_true rfl) (tl_iload_n dL_holds_1050 rfl (tl_icmp_ge (tgt := 1140) dL_holds_1051 (by decide) (fun c7 => ?_) (fun c7 => ?_))))))))
  · replace h := tl_ip h c7
    exact tl_iconst (v := 0) dL_holds_1140 ic_0 (tz_ret dL_holds_1141 rfl rfl (CM := 9104) ⟨Nat.le_of_ble_eq_true rfl, Nat.le_of_ble_eq_true rfl⟩ (Nat.le_of_ble_eq_true rfl) h)
  · replace h := tl_in h c7
    obtain ⟨x8, u10, e9, h⟩ := tl_b2i h
    refine tl_aload_n dL_holds_1054 rfl (tl_bipush (v := 6) dL_holds_1055 bp_6 (tl_iconst (v := 1) dL_holds_1057 ic_1 (tl_iconst (v := 0) dL_holds_1058 ic_0 (tl_iconst (v := 0) dL_holds_1059 ic_0 (tz_cS5 (lL_call h1 e9) dL_holds_1060 cs_L_holds_189 (c := 1) ⟨rfl, rfl⟩ (k2 := 9100) (Nat.le_of_ble_eq_true rfl) (CM := 9104) ⟨Nat.le_of_ble_eq_true rfl, Nat.le_of_ble_eq_true rfl⟩ (Nat.le_of_ble_eq_true rfl) (Nat.le_of_ble_eq_true rfl) (tl_if_lt (tgt := 1140) dL_holds_1063 (by decide) (fun c11 => ?_) (fun c11 => ?_)))))))
    · replace h := tl_ip h c11
      exact tl_iconst (v := 0) dL_holds_1140 ic_0 (tz_ret dL_holds_1141 rfl rfl (CM := 9104) ⟨Nat.le_of_ble_eq_true rfl, Nat.le_of_ble_eq_true rfl⟩ (Nat.le_of_ble_eq_true rfl) h)
    · replace h := tl_in h c11
      obtain ⟨x12, u14, e13, h⟩ := tl_b2i h
      obtain ⟨x15, u17, e16, h⟩ := tl_b2i h
      obtain ⟨x18, u20, e19, h⟩ := tl_b2i h
      refine tl_aload_n dL_holds_1066 rfl (tl_bipush (v := 6) dL_holds_1067 bp_6 (tl_iconst (v := 1) dL_holds_1069 ic_1 (tl_iconst (v := 0) dL_holds_1070 ic_0 (tl_iconst (v := 0) dL_holds_1071 ic_0 (tz_cS5 (lL_call h1 e13) dL_holds_1072 cs_L_holds_189 (c := 1) ⟨rfl, rfl⟩ (k2 := 9101) (Nat.le_of_ble_eq_true rfl) (CM := 9104) ⟨Nat.le_of_ble_eq_true rfl, Nat.le_of_ble_eq_true rfl⟩ (Nat.le_of_ble_eq_true rfl) (Nat.le_of_ble_eq_true rfl) (tl_aload_n dL_holds_1075 rfl (tl_iconst (v := 3) dL_holds_1076 ic_3 (tl_aload_n dL_holds_1077 rfl (tl_bipush (v := 6) dL_holds_1078 bp_6 (tl_iconst (v := 0) dL_holds_1080 ic_0 (tl_iconst (v := 0) dL_holds_1081 ic_0 (tl_iconst (v := 0) dL_holds_1082 ic_0 (tz_cS5 (lL_call h1 e16) dL_holds_1083 cs_L_holds_189 (c := 1) ⟨rfl, rfl⟩ (k2 := 9102) (Nat.le_of_ble_eq_true rfl) (CM := 9104) ⟨Nat.le_of_ble_eq_true rfl, Nat.le_of_ble_eq_true rfl⟩ (Nat.le_of_ble_eq_true rfl) (Nat.le_of_ble_eq_true rfl) (tl_iconst (v := 0) dL_holds_1086 ic_0 (tl_iconst (v := 0) dL_holds_1087 ic_0 (tz_cS5 (lL_call h1 e19) dL_holds_1088 cs_L_holds_189 (c := 1) ⟨rfl, rfl⟩ (k2 := 9103) (Nat.le_of_ble_eq_true rfl) (CM := 9104) ⟨Nat.le_of_ble_eq_true rfl, Nat.le_of_ble_eq_true rfl⟩ (Nat.le_of_ble_eq_true rfl) (Nat.le_of_ble_eq_true rfl) (tl_icmp_ge (tgt := 1140) dL_holds_1091 (by decide) (fun c21 => ?_) (fun c21 => ?_))))))))))))))))))
      · replace h := tl_ip h c21
        exact tl_iconst (v := 0) dL_holds_1140 ic_0 (tz_ret dL_holds_1141 rfl rfl (CM := 9104) ⟨Nat.le_of_ble_eq_true rfl, Nat.le_of_ble_eq_true rfl⟩ (Nat.le_of_ble_eq_true rfl) h)
      · replace h := tl_in h c21
        refine tl_iload dL_holds_1094 rfl (tl_if_gt (tgt := 1111) dL_holds_1096 (by decide) (fun c22 => ?_) (fun c22 => ?_))
        · replace h := tl_ip h c22
          exact tz_fg (ls2 := [some (.ref a1), none, none, none, some (.int x3), none, none, none, none, none, none, none, none, none, none, none, none, none, none, none, none, none]) (And.intro rfl (And.intro rfl trivial)) (tz_wd (k2 := 9104) (Nat.le_of_ble_eq_true rfl) (lL_holds_p1111 h1 h))
        · replace h := tl_in h c22
          obtain ⟨x23, u25, e24, h⟩ := tl_b2i h
          refine tl_aload_n dL_holds_1099 rfl (tl_bipush (v := 6) dL_holds_1100 bp_6 (tl_iconst (v := 3) dL_holds_1102 ic_3 (tl_iconst (v := 0) dL_holds_1103 ic_0 (tl_iconst (v := 0) dL_holds_1104 ic_0 (tz_cS5 (lL_call h1 e24) dL_holds_1105 cs_L_holds_189 (c := 1) ⟨rfl, rfl⟩ (k2 := 9104) (Nat.le_of_ble_eq_true rfl) (CM := 9104) ⟨Nat.le_of_ble_eq_true rfl, Nat.le_of_ble_eq_true rfl⟩ (Nat.le_of_ble_eq_true rfl) (Nat.le_of_ble_eq_true rfl) (tl_if_ne (tgt := 1140) dL_holds_1108 (by decide) (fun c26 => ?_) (fun c26 => ?_)))))))
          · replace h := tl_in h c26
            exact tl_iconst (v := 0) dL_holds_1140 ic_0 (tz_ret dL_holds_1141 rfl rfl (CM := 9104) ⟨Nat.le_of_ble_eq_true rfl, Nat.le_of_ble_eq_true rfl⟩ (Nat.le_of_ble_eq_true rfl) h)
          · replace h := tl_ip h c26
            exact tz_fg (ls2 := [some (.ref a1), none, none, none, some (.int x3), none, none, none, none, none, none, none, none, none, none, none, none, none, none, none, none, none]) (And.intro rfl (And.intro rfl trivial)) (tz_wd (k2 := 9104) (Nat.le_of_ble_eq_true rfl) (lL_holds_p1111 h1 h))

theorem lL_holds_p1004 {E : tl_E} {a1 : Nat} {x2 : Int32} {x3 : Int32} {x4 : Int32} {u : tz_U} {r : Int32} {v : tz_U} (h1 : tz_on E a1) (h : fL_holds_p1004 a1 x2 x3 x4 u = some (r, v)) : tz_R E mL_holds tl_X0 (tl_Z E mL_holds (tz_Q E r v)) 9096 (tz_HU E u) 1004 [some (.ref a1), some (.int x2), none, none, some (.int x3), none, none, none, none, none, none, some (.int x4), none, none, none, none, none, none, none, none, none, none] [] := by
  unfold fL_holds_p1004 at h
  refine tl_iload dL_holds_1004 rfl (tl_if_eq (tgt := 1041) dL_holds_1006 (by decide) (fun c5 => ?_) (fun c5 => ?_))
  · replace h := tl_ip h c5
    exact tz_fg (ls2 := [some (.ref a1), some (.int x2), none, none, some (.int x3), none, none, none, none, none, none, none, none, none, none, none, none, none, none, none, none, none]) (And.intro rfl (And.intro rfl (And.intro rfl trivial))) (tz_wd (k2 := 9098) (Nat.le_of_ble_eq_true rfl) (lL_holds_p1041 h1 h))
  · replace h := tl_in h c5
    refine tl_iload dL_holds_1009 rfl (tl_if_le (tgt := 1140) dL_holds_1011 (by decide) (fun c6 => ?_) (fun c6 => ?_))
    · replace h := tl_ip h c6
      exact tl_iconst (v := 0) dL_holds_1140 ic_0 (tz_ret dL_holds_1141 rfl rfl (CM := 9104) ⟨Nat.le_of_ble_eq_true rfl, Nat.le_of_ble_eq_true rfl⟩ (Nat.le_of_ble_eq_true rfl) h)
    · replace h := tl_in h c6
      obtain ⟨x7, u9, e8, h⟩ := tl_b2i h
      refine tl_aload_n dL_holds_1014 rfl (tl_bipush (v := 7) dL_holds_1015 bp_7 (tl_iconst (v := 0) dL_holds_1017 ic_0 (tl_iconst (v := 0) dL_holds_1018 ic_0 (tl_iconst (v := 0) dL_holds_1019 ic_0 (tz_cS5 (lL_call h1 e8) dL_holds_1020 cs_L_holds_189 (c := 1) ⟨rfl, rfl⟩ (k2 := 9097) (Nat.le_of_ble_eq_true rfl) (CM := 9104) ⟨Nat.le_of_ble_eq_true rfl, Nat.le_of_ble_eq_true rfl⟩ (Nat.le_of_ble_eq_true rfl) (Nat.le_of_ble_eq_true rfl) (tl_iconst (v := 1) dL_holds_1023 ic_1 (tl_icmp_ne (tgt := 1140) dL_holds_1024 (by decide) (fun c10 => ?_) (fun c10 => ?_))))))))
      · replace h := tl_in h c10
        exact tl_iconst (v := 0) dL_holds_1140 ic_0 (tz_ret dL_holds_1141 rfl rfl (CM := 9104) ⟨Nat.le_of_ble_eq_true rfl, Nat.le_of_ble_eq_true rfl⟩ (Nat.le_of_ble_eq_true rfl) h)
      · replace h := tl_ip h c10
        obtain ⟨x11, u13, e12, h⟩ := tl_b2i h
        refine tl_iload dL_holds_1027 rfl (tl_aload_n dL_holds_1029 rfl (tl_bipush (v := 7) dL_holds_1030 bp_7 (tl_iconst (v := 0) dL_holds_1032 ic_0 (tl_iconst (v := 2) dL_holds_1033 ic_2 (tl_iconst (v := 0) dL_holds_1034 ic_0 (tz_cS5 (lL_call h1 e12) dL_holds_1035 cs_L_holds_189 (c := 1) ⟨rfl, rfl⟩ (k2 := 9098) (Nat.le_of_ble_eq_true rfl) (CM := 9104) ⟨Nat.le_of_ble_eq_true rfl, Nat.le_of_ble_eq_true rfl⟩ (Nat.le_of_ble_eq_true rfl) (Nat.le_of_ble_eq_true rfl) (tl_icmp_gt (tgt := 1140) dL_holds_1038 (by decide) (fun c14 => ?_) (fun c14 => ?_))))))))
        · replace h := tl_ip h c14
          exact tl_iconst (v := 0) dL_holds_1140 ic_0 (tz_ret dL_holds_1141 rfl rfl (CM := 9104) ⟨Nat.le_of_ble_eq_true rfl, Nat.le_of_ble_eq_true rfl⟩ (Nat.le_of_ble_eq_true rfl) h)
        · replace h := tl_in h c14
          exact tz_fg (ls2 := [some (.ref a1), some (.int x2), none, none, some (.int x3), none, none, none, none, none, none, none, none, none, none, none, none, none, none, none, none, none]) (And.intro rfl (And.intro rfl (And.intro rfl trivial))) (tz_wd (k2 := 9098) (Nat.le_of_ble_eq_true rfl) (lL_holds_p1041 h1 h))

theorem lL_holds_p885 {E : tl_E} {a1 : Nat} {x2 : Int32} {x3 : Int32} {x4 : Int32} {x5 : Int32} {x6 : Int32} {x7 : Int32} {x8 : Int32} {x9 : Int32} {x10 : Int32} {u : tz_U} {r : Int32} {v : tz_U} (h1 : tz_on E a1) (h : fL_holds_p885 a1 x2 x3 x4 x5 x6 x7 x8 x9 x10 u = some (r, v)) : tz_R E mL_holds tl_X0 (tl_Z E mL_holds (tz_Q E r v)) 9088 (tz_HU E u) 885 [some (.ref a1), some (.int x2), none, none, some (.int x3), some (.int x4), some (.int x5), some (.int x6), none, none, none, some (.int x7), none, none, none, none, none, none, none, none, none, none] [.int x8, .int x9, .int x10] := by
  unfold fL_holds_p885 at h
  refine tl_isub dL_holds_885 (tl_icmp_ne (tgt := 1140) dL_holds_886 (by decide) (fun c11 => ?_) (fun c11 => ?_))
  · replace h := tl_in h c11
    exact tl_iconst (v := 0) dL_holds_1140 ic_0 (tz_ret dL_holds_1141 rfl rfl (CM := 9104) ⟨Nat.le_of_ble_eq_true rfl, Nat.le_of_ble_eq_true rfl⟩ (Nat.le_of_ble_eq_true rfl) h)
  · replace h := tl_ip h c11
    obtain ⟨x12, u14, e13, h⟩ := tl_b2i h
    refine tl_iload dL_holds_889 rfl (tl_aload_n dL_holds_891 rfl (tl_iconst (v := 2) dL_holds_892 ic_2 (tl_bipush (v := 11) dL_holds_893 bp_11 (tl_iconst (v := 0) dL_holds_895 ic_0 (tl_iconst (v := 0) dL_holds_896 ic_0 (tz_cS5 (lL_call h1 e13) dL_holds_897 cs_L_holds_189 (c := 1) ⟨rfl, rfl⟩ (k2 := 9089) (Nat.le_of_ble_eq_true rfl) (CM := 9104) ⟨Nat.le_of_ble_eq_true rfl, Nat.le_of_ble_eq_true rfl⟩ (Nat.le_of_ble_eq_true rfl) (Nat.le_of_ble_eq_true rfl) (tl_icmp_ne (tgt := 1140) dL_holds_900 (by decide) (fun c15 => ?_) (fun c15 => ?_))))))))
    · replace h := tl_in h c15
      exact tl_iconst (v := 0) dL_holds_1140 ic_0 (tz_ret dL_holds_1141 rfl rfl (CM := 9104) ⟨Nat.le_of_ble_eq_true rfl, Nat.le_of_ble_eq_true rfl⟩ (Nat.le_of_ble_eq_true rfl) h)
    · replace h := tl_ip h c15
      obtain ⟨x16, u18, e17, h⟩ := tl_b2i h
      refine tl_iload dL_holds_903 rfl (tl_aload_n dL_holds_905 rfl (tl_iconst (v := 2) dL_holds_906 ic_2 (tl_iconst (v := 5) dL_holds_907 ic_5 (tl_iconst (v := 0) dL_holds_908 ic_0 (tl_iconst (v := 0) dL_holds_909 ic_0 (tz_cS5 (lL_call h1 e17) dL_holds_910 cs_L_holds_189 (c := 1) ⟨rfl, rfl⟩ (k2 := 9090) (Nat.le_of_ble_eq_true rfl) (CM := 9104) ⟨Nat.le_of_ble_eq_true rfl, Nat.le_of_ble_eq_true rfl⟩ (Nat.le_of_ble_eq_true rfl) (Nat.le_of_ble_eq_true rfl) (tl_icmp_ne (tgt := 1140) dL_holds_913 (by decide) (fun c19 => ?_) (fun c19 => ?_))))))))
      · replace h := tl_in h c19
        exact tl_iconst (v := 0) dL_holds_1140 ic_0 (tz_ret dL_holds_1141 rfl rfl (CM := 9104) ⟨Nat.le_of_ble_eq_true rfl, Nat.le_of_ble_eq_true rfl⟩ (Nat.le_of_ble_eq_true rfl) h)
      · replace h := tl_ip h c19
        obtain ⟨x20, u22, e21, h⟩ := tl_b2i h
        obtain ⟨x23, u25, e24, h⟩ := tl_b2i h
        obtain ⟨x26, u28, e27, h⟩ := tl_b2i h
        obtain ⟨x29, u31, e30, h⟩ := tl_b2i h
        refine tl_aload_n dL_holds_916 rfl (tl_iconst (v := 2) dL_holds_917 ic_2 (tl_iconst (v := 4) dL_holds_918 ic_4 (tl_iconst (v := 0) dL_holds_919 ic_0 (tl_iconst (v := 0) dL_holds_920 ic_0 (tz_cS5 (lL_call h1 e21) dL_holds_921 cs_L_holds_189 (c := 1) ⟨rfl, rfl⟩ (k2 := 9091) (Nat.le_of_ble_eq_true rfl) (CM := 9104) ⟨Nat.le_of_ble_eq_true rfl, Nat.le_of_ble_eq_true rfl⟩ (Nat.le_of_ble_eq_true rfl) (Nat.le_of_ble_eq_true rfl) (tl_iload dL_holds_924 rfl (tl_iadd dL_holds_926 (tl_iload dL_holds_927 rfl (tl_iadd dL_holds_929 (tl_aload_n dL_holds_930 rfl (tl_iconst (v := 2) dL_holds_931 ic_2 (tl_bipush (v := 7) dL_holds_932 bp_7 (tl_iconst (v := 0) dL_holds_934 ic_0 (tl_iconst (v := 0) dL_holds_935 ic_0 (tz_cS5 (lL_call h1 e24) dL_holds_936 cs_L_holds_189 (c := 1) ⟨rfl, rfl⟩ (k2 := 9092) (Nat.le_of_ble_eq_true rfl) (CM := 9104) ⟨Nat.le_of_ble_eq_true rfl, Nat.le_of_ble_eq_true rfl⟩ (Nat.le_of_ble_eq_true rfl) (Nat.le_of_ble_eq_true rfl) (tl_iadd dL_holds_939 (tl_aload_n dL_holds_940 rfl (tl_iconst (v := 2) dL_holds_941 ic_2 (tl_bipush (v := 8) dL_holds_942 bp_8 (tl_iconst (v := 0) dL_holds_944 ic_0 (tl_iconst (v := 0) dL_holds_945 ic_0 (tz_cS5 (lL_call h1 e27) dL_holds_946 cs_L_holds_189 (c := 1) ⟨rfl, rfl⟩ (k2 := 9093) (Nat.le_of_ble_eq_true rfl) (CM := 9104) ⟨Nat.le_of_ble_eq_true rfl, Nat.le_of_ble_eq_true rfl⟩ (Nat.le_of_ble_eq_true rfl) (Nat.le_of_ble_eq_true rfl) (tl_iadd dL_holds_949 (tl_aload_n dL_holds_950 rfl (tl_iconst (v := 2) dL_holds_951 ic_2 (tl_bipush (v := 9) dL_holds_952 bp_9 (tl_iconst (v := 0) dL_holds_954 ic_0 (tl_iconst (v := 0) dL_holds_955 ic_0 (tz_cS5 (lL_call h1 e30) dL_holds_956 cs_L_holds_189 (c := 1) ⟨rfl, rfl⟩ (k2 := 9094) (Nat.le_of_ble_eq_true rfl) (CM := 9104) ⟨Nat.le_of_ble_eq_true rfl, Nat.le_of_ble_eq_true rfl⟩ (Nat.le_of_ble_eq_true rfl) (Nat.le_of_ble_eq_true rfl) (tl_icmp_ne (tgt := 1140) dL_holds_959 (by decide) (fun c32 => ?_) (fun c32 => ?_)))))))))))))))))))))))))))))))
        · replace h := tl_in h c32
          exact tl_iconst (v := 0) dL_holds_1140 ic_0 (tz_ret dL_holds_1141 rfl rfl (CM := 9104) ⟨Nat.le_of_ble_eq_true rfl, Nat.le_of_ble_eq_true rfl⟩ (Nat.le_of_ble_eq_true rfl) h)
        · replace h := tl_ip h c32
          refine tl_iload dL_holds_962 rfl (tl_iconst (v := (-1)) dL_holds_964 ic_m1 (tl_icmp_eq (tgt := 1004) dL_holds_965 (by decide) (fun c33 => ?_) (fun c33 => ?_)))
          · replace h := tl_ip h c33
            exact tz_fg (ls2 := [some (.ref a1), some (.int x2), none, none, some (.int x3), none, none, none, none, none, none, some (.int x7), none, none, none, none, none, none, none, none, none, none]) (And.intro rfl (And.intro rfl (And.intro rfl (And.intro rfl trivial)))) (tz_wd (k2 := 9096) (Nat.le_of_ble_eq_true rfl) (lL_holds_p1004 h1 h))
          · replace h := tl_in h c33
            refine tl_iload dL_holds_968 rfl (tl_if_le (tgt := 1140) dL_holds_970 (by decide) (fun c34 => ?_) (fun c34 => ?_))
            · replace h := tl_ip h c34
              exact tl_iconst (v := 0) dL_holds_1140 ic_0 (tz_ret dL_holds_1141 rfl rfl (CM := 9104) ⟨Nat.le_of_ble_eq_true rfl, Nat.le_of_ble_eq_true rfl⟩ (Nat.le_of_ble_eq_true rfl) h)
            · replace h := tl_in h c34
              obtain ⟨x35, u37, e36, h⟩ := tl_b2i h
              refine tl_aload_n dL_holds_973 rfl (tl_bipush (v := 7) dL_holds_974 bp_7 (tl_iconst (v := 0) dL_holds_976 ic_0 (tl_iconst (v := 0) dL_holds_977 ic_0 (tl_iconst (v := 0) dL_holds_978 ic_0 (tz_cS5 (lL_call h1 e36) dL_holds_979 cs_L_holds_189 (c := 1) ⟨rfl, rfl⟩ (k2 := 9095) (Nat.le_of_ble_eq_true rfl) (CM := 9104) ⟨Nat.le_of_ble_eq_true rfl, Nat.le_of_ble_eq_true rfl⟩ (Nat.le_of_ble_eq_true rfl) (Nat.le_of_ble_eq_true rfl) (tl_if_ne (tgt := 1140) dL_holds_982 (by decide) (fun c38 => ?_) (fun c38 => ?_)))))))
              · replace h := tl_in h c38
                exact tl_iconst (v := 0) dL_holds_1140 ic_0 (tz_ret dL_holds_1141 rfl rfl (CM := 9104) ⟨Nat.le_of_ble_eq_true rfl, Nat.le_of_ble_eq_true rfl⟩ (Nat.le_of_ble_eq_true rfl) h)
              · replace h := tl_ip h c38
                obtain ⟨x39, u41, e40, h⟩ := tl_b2i h
                refine tl_aload_n dL_holds_985 rfl (tl_bipush (v := 7) dL_holds_986 bp_7 (tl_iconst (v := 0) dL_holds_988 ic_0 (tl_iconst (v := 1) dL_holds_989 ic_1 (tl_iconst (v := 0) dL_holds_990 ic_0 (tz_cS5 (lL_call h1 e40) dL_holds_991 cs_L_holds_189 (c := 1) ⟨rfl, rfl⟩ (k2 := 9096) (Nat.le_of_ble_eq_true rfl) (CM := 9104) ⟨Nat.le_of_ble_eq_true rfl, Nat.le_of_ble_eq_true rfl⟩ (Nat.le_of_ble_eq_true rfl) (Nat.le_of_ble_eq_true rfl) (tl_iload dL_holds_994 rfl (tl_icmp_ne (tgt := 1140) dL_holds_996 (by decide) (fun c42 => ?_) (fun c42 => ?_))))))))
                · replace h := tl_in h c42
                  exact tl_iconst (v := 0) dL_holds_1140 ic_0 (tz_ret dL_holds_1141 rfl rfl (CM := 9104) ⟨Nat.le_of_ble_eq_true rfl, Nat.le_of_ble_eq_true rfl⟩ (Nat.le_of_ble_eq_true rfl) h)
                · replace h := tl_ip h c42
                  refine tl_iload dL_holds_999 rfl (tl_if_ne (tgt := 1140) dL_holds_1001 (by decide) (fun c43 => ?_) (fun c43 => ?_))
                  · replace h := tl_in h c43
                    exact tl_iconst (v := 0) dL_holds_1140 ic_0 (tz_ret dL_holds_1141 rfl rfl (CM := 9104) ⟨Nat.le_of_ble_eq_true rfl, Nat.le_of_ble_eq_true rfl⟩ (Nat.le_of_ble_eq_true rfl) h)
                  · replace h := tl_ip h c43
                    exact tz_fg (ls2 := [some (.ref a1), some (.int x2), none, none, some (.int x3), none, none, none, none, none, none, some (.int x7), none, none, none, none, none, none, none, none, none, none]) (And.intro rfl (And.intro rfl (And.intro rfl (And.intro rfl trivial)))) (tz_wd (k2 := 9096) (Nat.le_of_ble_eq_true rfl) (lL_holds_p1004 h1 h))

theorem lL_holds_p96 {E : tl_E} {a1 : Nat} {x2 : Int32} {x3 : Int32} {x4 : Int32} {x5 : Int32} {x6 : Int32} {x7 : Int32} {x8 : Int32} {x9 : Int32} {x10 : Int32} {x11 : Int32} {u : tz_U} {r : Int32} {v : tz_U} (h1 : tz_on E a1) (h : fL_holds_p96 a1 x2 x3 x4 x5 x6 x7 x8 x9 x10 x11 u = some (r, v)) : tz_R E mL_holds tl_X0 (tl_Z E mL_holds (tz_Q E r v)) 5 (tz_HU E u) 96 [some (.ref a1), some (.int x2), some (.int x3), some (.int x4), some (.int x5), some (.int x6), some (.int x7), some (.int x8), some (.int x9), some (.int x10), none, none, none, none, none, none, none, none, none, none, none, none] [.int x11] := by
  unfold fL_holds_p96 at h
  refine tl_istore dL_holds_96 (Nat.le_of_ble_eq_true rfl) (tl_iconst (v := 0) dL_holds_98 ic_0 (tl_istore dL_holds_99 (Nat.le_of_ble_eq_true rfl) (?_)))
  refine tz_fg (ls2 := [some (.ref a1), some (.int x2), some (.int x3), some (.int x4), some (.int x5), some (.int x6), some (.int x7), some (.int x8), some (.int x9), some (.int x10), some (.int x11), some (.int 0), none, none, none, none, none, none, none, none, none, none]) (And.intro rfl (And.intro rfl (And.intro rfl (And.intro rfl (And.intro rfl (And.intro rfl (And.intro rfl (And.intro rfl (And.intro rfl (And.intro rfl (And.intro rfl (And.intro rfl trivial)))))))))))) ?_
  obtain ⟨w12, e13, h⟩ := tl_bi h
  refine lL_holds_p101 9 _ _ _ _ _ _ _ _ _ _ _ _ _ w12 5 h1 e13 (kE := 50) (Nat.le_of_ble_eq_true rfl) (Nat.le_of_ble_eq_true rfl) ?_
  refine tl_iconst (v := 0) dL_holds_281 ic_0 (tl_istore dL_holds_282 (Nat.le_of_ble_eq_true rfl) (?_))
  refine tz_fg (ls2 := [some (.ref a1), some (.int x2), some (.int x3), some (.int x4), some (.int x5), some (.int x6), some (.int w12.1), some (.int x8), some (.int x9), some (.int x10), some (.int w12.2.1), some (.int 0), none, none, none, none, none, none, none, none, none, none]) (And.intro rfl (And.intro rfl (And.intro rfl (And.intro rfl (And.intro rfl (And.intro rfl (And.intro rfl (And.intro rfl (And.intro rfl (And.intro rfl (And.intro rfl (And.intro rfl trivial)))))))))))) ?_
  obtain ⟨w14, e15, h⟩ := tl_bi h
  refine lL_holds_p284 4 _ _ _ _ _ _ _ _ _ _ _ _ _ w14 50 h1 e15 (kE := 9010) (Nat.le_of_ble_eq_true rfl) (Nat.le_of_ble_eq_true rfl) ?_
  refine tl_iconst (v := 0) dL_holds_623 ic_0 (tl_istore dL_holds_624 (Nat.le_of_ble_eq_true rfl) (?_))
  refine tz_fg (ls2 := [some (.ref a1), some (.int x2), some (.int x3), some (.int x4), some (.int x5), some (.int x6), some (.int w12.1), some (.int x8), some (.int w14.1), some (.int w14.2.1), some (.int w14.2.2.1), some (.int 0), none, none, none, none, none, none, none, none, none, none]) (And.intro rfl (And.intro rfl (And.intro rfl (And.intro rfl (And.intro rfl (And.intro rfl (And.intro rfl (And.intro rfl (And.intro rfl (And.intro rfl (And.intro rfl (And.intro rfl trivial)))))))))))) ?_
  obtain ⟨w16, e17, h⟩ := tl_bi h
  refine lL_holds_p626 7 _ _ _ _ _ _ _ _ _ _ _ _ _ w16 9010 h1 e17 (kE := 9052) (Nat.le_of_ble_eq_true rfl) (Nat.le_of_ble_eq_true rfl) ?_
  refine tl_iconst (v := 0) dL_holds_719 ic_0 (tl_istore dL_holds_720 (Nat.le_of_ble_eq_true rfl) (?_))
  refine tz_fg (ls2 := [some (.ref a1), some (.int x2), some (.int x3), some (.int x4), some (.int x5), some (.int x6), some (.int w12.1), some (.int w16.1), some (.int w14.1), some (.int w14.2.1), some (.int w16.2.1), some (.int 0), none, none, none, none, none, none, none, none, none, none]) (And.intro rfl (And.intro rfl (And.intro rfl (And.intro rfl (And.intro rfl (And.intro rfl (And.intro rfl (And.intro rfl (And.intro rfl (And.intro rfl (And.intro rfl (And.intro rfl trivial)))))))))))) ?_
  obtain ⟨w18, e19, h⟩ := tl_bi h
  refine lL_holds_p722 7 _ _ _ _ _ _ _ _ _ _ _ _ _ w18 9052 h1 e19 (kE := 9087) (Nat.le_of_ble_eq_true rfl) (Nat.le_of_ble_eq_true rfl) ?_
  obtain ⟨x20, u22, e21, h⟩ := tl_b2i h
  refine tl_aload_n dL_holds_849 rfl (tl_iconst (v := 2) dL_holds_850 ic_2 (tl_bipush (v := 6) dL_holds_851 bp_6 (tl_iconst (v := 0) dL_holds_853 ic_0 (tl_iconst (v := 0) dL_holds_854 ic_0 (tz_cS5 (lL_call h1 e21) dL_holds_855 cs_L_holds_189 (c := 1) ⟨rfl, rfl⟩ (k2 := 9088) (Nat.le_of_ble_eq_true rfl) (CM := 9104) ⟨Nat.le_of_ble_eq_true rfl, Nat.le_of_ble_eq_true rfl⟩ (Nat.le_of_ble_eq_true rfl) (Nat.le_of_ble_eq_true rfl) (tl_istore dL_holds_858 (Nat.le_of_ble_eq_true rfl) (tl_iload dL_holds_860 rfl (tl_if_eq (tgt := 1140) dL_holds_862 (by decide) (fun c23 => ?_) (fun c23 => ?_)))))))))
  · replace h := tl_ip h c23
    exact tl_iconst (v := 0) dL_holds_1140 ic_0 (tz_ret dL_holds_1141 rfl rfl (CM := 9104) ⟨Nat.le_of_ble_eq_true rfl, Nat.le_of_ble_eq_true rfl⟩ (Nat.le_of_ble_eq_true rfl) h)
  · replace h := tl_in h c23
    refine tl_iload dL_holds_865 rfl (tl_iload_n dL_holds_867 rfl (tl_icmp_ne (tgt := 1140) dL_holds_868 (by decide) (fun c24 => ?_) (fun c24 => ?_)))
    · replace h := tl_in h c24
      exact tl_iconst (v := 0) dL_holds_1140 ic_0 (tz_ret dL_holds_1141 rfl rfl (CM := 9104) ⟨Nat.le_of_ble_eq_true rfl, Nat.le_of_ble_eq_true rfl⟩ (Nat.le_of_ble_eq_true rfl) h)
    · replace h := tl_ip h c24
      refine tl_iload dL_holds_871 rfl (tl_iload_n dL_holds_873 rfl (tl_iload dL_holds_874 rfl (tl_iconst (v := (-1)) dL_holds_876 ic_m1 (tl_icmp_ne (tgt := 884) dL_holds_877 (by decide) (fun c25 => ?_) (fun c25 => ?_)))))
      · replace h := tl_in h c25
        refine tl_iconst (v := 1) dL_holds_884 ic_1 (?_)
        exact tz_fg (ls2 := [some (.ref a1), some (.int x2), none, none, some (.int x5), some (.int x6), some (.int w12.1), some (.int w16.1), none, none, none, some (.int x20), none, none, none, none, none, none, none, none, none, none]) (And.intro rfl (And.intro rfl (And.intro rfl (And.intro rfl (And.intro rfl (And.intro rfl (And.intro rfl trivial))))))) (tz_wd (k2 := 9088) (Nat.le_of_ble_eq_true rfl) (lL_holds_p885 h1 h))
      · replace h := tl_ip h c25
        refine tl_iconst (v := 0) dL_holds_880 ic_0 (tl_goto (tgt := 885) dL_holds_881 (by decide) (?_))
        exact tz_fg (ls2 := [some (.ref a1), some (.int x2), none, none, some (.int x5), some (.int x6), some (.int w12.1), some (.int w16.1), none, none, none, some (.int x20), none, none, none, none, none, none, none, none, none, none]) (And.intro rfl (And.intro rfl (And.intro rfl (And.intro rfl (And.intro rfl (And.intro rfl (And.intro rfl trivial))))))) (tz_wd (k2 := 9088) (Nat.le_of_ble_eq_true rfl) (lL_holds_p885 h1 h))

theorem lL_holds {E : tl_E} {a1 : Nat} {u : tz_U} {r : Int32} {v : tz_U} (h1 : tz_on E a1) (h : fL_holds a1 u = some (r, v)) : tz_ML E mL_holds [.ref a1] u r v := by
  unfold fL_holds at h
  refine tl_start [some (.ref a1), none, none, none, none, none, none, none, none, none, none, none, none, none, none, none, none, none, none, none, none, none] rfl rfl rfl (Nat.le_of_ble_eq_true rfl) (tz_st (tz_fg (ls2 := [some (.ref a1), none, none, none, none, none, none, none, none, none, none, none, none, none, none, none, none, none, none, none, none, none]) (And.intro rfl trivial) ?_))
  obtain ⟨x2, u4, e3, h⟩ := tl_b2i h
  obtain ⟨x5, u7, e6, h⟩ := tl_b2i h
  obtain ⟨x8, u10, e9, h⟩ := tl_b2i h
  obtain ⟨x11, u13, e12, h⟩ := tl_b2i h
  obtain ⟨x14, u16, e15, h⟩ := tl_b2i h
  refine tl_aload_n dL_holds_0 rfl (tl_iconst (v := 2) dL_holds_1 ic_2 (tl_iconst (v := 0) dL_holds_2 ic_0 (tl_iconst (v := 0) dL_holds_3 ic_0 (tl_iconst (v := 0) dL_holds_4 ic_0 (tz_cS5 (lL_call h1 e3) dL_holds_5 cs_L_holds_189 (c := 1) ⟨rfl, rfl⟩ (k2 := 1) (Nat.le_of_ble_eq_true rfl) (CM := 9104) ⟨Nat.le_of_ble_eq_true rfl, Nat.le_of_ble_eq_true rfl⟩ (Nat.le_of_ble_eq_true rfl) (Nat.le_of_ble_eq_true rfl) (tl_istore_n dL_holds_8 (Nat.le_of_ble_eq_true rfl) (tl_aload_n dL_holds_9 rfl (tl_iconst (v := 2) dL_holds_10 ic_2 (tl_iconst (v := 1) dL_holds_11 ic_1 (tl_iconst (v := 0) dL_holds_12 ic_0 (tl_iconst (v := 0) dL_holds_13 ic_0 (tz_cS5 (lL_call h1 e6) dL_holds_14 cs_L_holds_189 (c := 1) ⟨rfl, rfl⟩ (k2 := 2) (Nat.le_of_ble_eq_true rfl) (CM := 9104) ⟨Nat.le_of_ble_eq_true rfl, Nat.le_of_ble_eq_true rfl⟩ (Nat.le_of_ble_eq_true rfl) (Nat.le_of_ble_eq_true rfl) (tl_istore_n dL_holds_17 (Nat.le_of_ble_eq_true rfl) (tl_aload_n dL_holds_18 rfl (tl_iconst (v := 2) dL_holds_19 ic_2 (tl_iconst (v := 2) dL_holds_20 ic_2 (tl_iconst (v := 0) dL_holds_21 ic_0 (tl_iconst (v := 0) dL_holds_22 ic_0 (tz_cS5 (lL_call h1 e9) dL_holds_23 cs_L_holds_189 (c := 1) ⟨rfl, rfl⟩ (k2 := 3) (Nat.le_of_ble_eq_true rfl) (CM := 9104) ⟨Nat.le_of_ble_eq_true rfl, Nat.le_of_ble_eq_true rfl⟩ (Nat.le_of_ble_eq_true rfl) (Nat.le_of_ble_eq_true rfl) (tl_istore_n dL_holds_26 (Nat.le_of_ble_eq_true rfl) (tl_aload_n dL_holds_27 rfl (tl_iconst (v := 2) dL_holds_28 ic_2 (tl_bipush (v := 10) dL_holds_29 bp_10 (tl_iconst (v := 0) dL_holds_31 ic_0 (tl_iconst (v := 0) dL_holds_32 ic_0 (tz_cS5 (lL_call h1 e12) dL_holds_33 cs_L_holds_189 (c := 1) ⟨rfl, rfl⟩ (k2 := 4) (Nat.le_of_ble_eq_true rfl) (CM := 9104) ⟨Nat.le_of_ble_eq_true rfl, Nat.le_of_ble_eq_true rfl⟩ (Nat.le_of_ble_eq_true rfl) (Nat.le_of_ble_eq_true rfl) (tl_istore dL_holds_36 (Nat.le_of_ble_eq_true rfl) (tl_aload_n dL_holds_38 rfl (tl_bipush (v := 6) dL_holds_39 bp_6 (tl_iconst (v := 2) dL_holds_41 ic_2 (tl_iconst (v := 0) dL_holds_42 ic_0 (tl_iconst (v := 0) dL_holds_43 ic_0 (tz_cS5 (lL_call h1 e15) dL_holds_44 cs_L_holds_189 (c := 1) ⟨rfl, rfl⟩ (k2 := 5) (Nat.le_of_ble_eq_true rfl) (CM := 9104) ⟨Nat.le_of_ble_eq_true rfl, Nat.le_of_ble_eq_true rfl⟩ (Nat.le_of_ble_eq_true rfl) (Nat.le_of_ble_eq_true rfl) (tl_istore dL_holds_47 (Nat.le_of_ble_eq_true rfl) (tl_iconst (v := 0) dL_holds_49 ic_0 (tl_istore dL_holds_50 (Nat.le_of_ble_eq_true rfl) (tl_iconst (v := 0) dL_holds_52 ic_0 (tl_istore dL_holds_53 (Nat.le_of_ble_eq_true rfl) (tl_iconst (v := 0) dL_holds_55 ic_0 (tl_istore dL_holds_56 (Nat.le_of_ble_eq_true rfl) (tl_iconst (v := 0) dL_holds_58 ic_0 (tl_istore dL_holds_59 (Nat.le_of_ble_eq_true rfl) (tl_iload_n dL_holds_61 rfl (tl_iconst (v := 3) dL_holds_62 ic_3 (tl_icmp_gt (tgt := 95) dL_holds_63 (by decide) (fun c17 => ?_) (fun c17 => ?_))))))))))))))))))))))))))))))))))))))))))))))
  · replace h := tl_ip h c17
    refine tl_iconst (v := 0) dL_holds_95 ic_0 (?_)
    exact tz_fg (ls2 := [some (.ref a1), some (.int x2), some (.int x5), some (.int x8), some (.int x11), some (.int x14), some (.int 0), some (.int 0), some (.int 0), some (.int 0), none, none, none, none, none, none, none, none, none, none, none, none]) (And.intro rfl (And.intro rfl (And.intro rfl (And.intro rfl (And.intro rfl (And.intro rfl (And.intro rfl (And.intro rfl (And.intro rfl (And.intro rfl trivial)))))))))) (tz_wd (k2 := 5) (Nat.le_of_ble_eq_true rfl) (lL_holds_p96 h1 h))
  · replace h := tl_in h c17
    refine tl_iload_n dL_holds_66 rfl (tl_bipush (v := 6) dL_holds_67 bp_6 (tl_icmp_gt (tgt := 95) dL_holds_69 (by decide) (fun c18 => ?_) (fun c18 => ?_)))
    · replace h := tl_ip h c18
      refine tl_iconst (v := 0) dL_holds_95 ic_0 (?_)
      exact tz_fg (ls2 := [some (.ref a1), some (.int x2), some (.int x5), some (.int x8), some (.int x11), some (.int x14), some (.int 0), some (.int 0), some (.int 0), some (.int 0), none, none, none, none, none, none, none, none, none, none, none, none]) (And.intro rfl (And.intro rfl (And.intro rfl (And.intro rfl (And.intro rfl (And.intro rfl (And.intro rfl (And.intro rfl (And.intro rfl (And.intro rfl trivial)))))))))) (tz_wd (k2 := 5) (Nat.le_of_ble_eq_true rfl) (lL_holds_p96 h1 h))
    · replace h := tl_in h c18
      refine tl_iload_n dL_holds_72 rfl (tl_bipush (v := 8) dL_holds_73 bp_8 (tl_icmp_gt (tgt := 95) dL_holds_75 (by decide) (fun c19 => ?_) (fun c19 => ?_)))
      · replace h := tl_ip h c19
        refine tl_iconst (v := 0) dL_holds_95 ic_0 (?_)
        exact tz_fg (ls2 := [some (.ref a1), some (.int x2), some (.int x5), some (.int x8), some (.int x11), some (.int x14), some (.int 0), some (.int 0), some (.int 0), some (.int 0), none, none, none, none, none, none, none, none, none, none, none, none]) (And.intro rfl (And.intro rfl (And.intro rfl (And.intro rfl (And.intro rfl (And.intro rfl (And.intro rfl (And.intro rfl (And.intro rfl (And.intro rfl trivial)))))))))) (tz_wd (k2 := 5) (Nat.le_of_ble_eq_true rfl) (lL_holds_p96 h1 h))
      · replace h := tl_in h c19
        refine tl_iload dL_holds_78 rfl (tl_bipush (v := 6) dL_holds_80 bp_6 (tl_icmp_gt (tgt := 95) dL_holds_82 (by decide) (fun c20 => ?_) (fun c20 => ?_)))
        · replace h := tl_ip h c20
          refine tl_iconst (v := 0) dL_holds_95 ic_0 (?_)
          exact tz_fg (ls2 := [some (.ref a1), some (.int x2), some (.int x5), some (.int x8), some (.int x11), some (.int x14), some (.int 0), some (.int 0), some (.int 0), some (.int 0), none, none, none, none, none, none, none, none, none, none, none, none]) (And.intro rfl (And.intro rfl (And.intro rfl (And.intro rfl (And.intro rfl (And.intro rfl (And.intro rfl (And.intro rfl (And.intro rfl (And.intro rfl trivial)))))))))) (tz_wd (k2 := 5) (Nat.le_of_ble_eq_true rfl) (lL_holds_p96 h1 h))
        · replace h := tl_in h c20
          refine tl_iload dL_holds_85 rfl (tl_iload_n dL_holds_87 rfl (tl_icmp_ge (tgt := 95) dL_holds_88 (by decide) (fun c21 => ?_) (fun c21 => ?_)))
          · replace h := tl_ip h c21
            refine tl_iconst (v := 0) dL_holds_95 ic_0 (?_)
            exact tz_fg (ls2 := [some (.ref a1), some (.int x2), some (.int x5), some (.int x8), some (.int x11), some (.int x14), some (.int 0), some (.int 0), some (.int 0), some (.int 0), none, none, none, none, none, none, none, none, none, none, none, none]) (And.intro rfl (And.intro rfl (And.intro rfl (And.intro rfl (And.intro rfl (And.intro rfl (And.intro rfl (And.intro rfl (And.intro rfl (And.intro rfl trivial)))))))))) (tz_wd (k2 := 5) (Nat.le_of_ble_eq_true rfl) (lL_holds_p96 h1 h))
          · replace h := tl_in h c21
            refine tl_iconst (v := 1) dL_holds_91 ic_1 (tl_goto (tgt := 96) dL_holds_92 (by decide) (?_))
            exact tz_fg (ls2 := [some (.ref a1), some (.int x2), some (.int x5), some (.int x8), some (.int x11), some (.int x14), some (.int 0), some (.int 0), some (.int 0), some (.int 0), none, none, none, none, none, none, none, none, none, none, none, none]) (And.intro rfl (And.intro rfl (And.intro rfl (And.intro rfl (And.intro rfl (And.intro rfl (And.intro rfl (And.intro rfl (And.intro rfl (And.intro rfl trivial)))))))))) (tz_wd (k2 := 5) (Nat.le_of_ble_eq_true rfl) (lL_holds_p96 h1 h))

