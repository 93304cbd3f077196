/-! The reference's answers: what would be; slots. -/
def tp_dkn (g : Nat) : Nat → Nat → tp_R → Int32
  | 0, _, _ => -1
  | n + 1, i, r => if tp_lit r (nI g) (r (18 + 2 * g)) = true then tp_dkn g n (i + 1) (tp_hour r) else nI i
def tp_dnn : Nat → Nat → tp_R → Int32
  | 0, _, _ => -1
  | n + 1, i, r => if r 8 = 0 then nI i else tp_dnn n (i + 1) (tp_hour r)
/-- the best cell so far, and what is dug then -/
def tp_bd (r : tp_R) (l g n c : Nat) : Int32 := tp_hrs n (tp_oo r 0 (nI l) (nI g) (nI c)) 10 - tp_oo r 0 (nI l) (nI g) (nI c) 10
def tp_bc (r : tp_R) (l g n : Nat) : Nat → Int32 × Int32
  | 0 => (-1, 0)
  | c + 1 => if tp_bd r l g n c < (tp_bc r l g n c).2 then tp_bc r l g n c else (nI c, tp_bd r l g n c)
/-- a script, from its group k on, j groups left -/
def tp_srn (S : Nat) : Nat → Nat → tp_R → Int32
  | 0, _, _ => -1
  | j + 1, k, r =>
    if (tp_scr (S / 1000000 ^ j % 1000000 / 100000) (S / 1000000 ^ j % 1000000 % 100000) r).1 = true then tp_srn S j (k + 1) (tp_scr (S / 1000000 ^ j % 1000000 / 100000) (S / 1000000 ^ j % 1000000 % 100000) r).2 else nI k
def tp_sx (x : Int64) : Int64 := (x * 6364136223846793005) + 1442695040888963407
def tp_sR (x : Int64) : Int32 := (((x).toUInt64 >>> ((33 : Int32).toInt64.toUInt64 &&& Int64.toUInt64 63)).toInt64 : Int64).toInt32
def tp_sm : Nat → Int64 → tp_R → tp_R
  | 0, _, r => r
  | n + 1, x, r => tp_sm n (tp_sx x) (tp_turn (tp_cl (tp_sR (tp_sx x)) % 16) (tp_cl (tp_sR (tp_sx x)) / 16) r)
def tp_sq2 (r now : tp_R) : Int32 := (1000 * (r 10 - now 10)) + (if r 9 - now 9 ≤ 999 then r 9 - now 9 else 999)
theorem tp_sR_N (x : Int64) : ∃ R, R < 2147483648 ∧ tp_sR x = nI R := by
  have hs : ((33 : Int32).toInt64.toUInt64 &&& Int64.toUInt64 63) = 33 := by decide +kernel
  unfold tp_sR
  rw [hs]
  have hy : (x.toUInt64 >>> (33 : UInt64)).toNat = x.toUInt64.toNat / 2 ^ 33 := by
    rw [UInt64.toNat_shiftRight, Nat.shiftRight_eq_div_pow]
    congr 2
  have hx := x.toUInt64.toNat_lt
  generalize x.toUInt64 >>> (33 : UInt64) = y at hy ⊢
  have e : y.toInt64 = lN y.toNat := Int64.toBitVec_inj.mp (by show y.toBitVec = BitVec.ofNat 64 y.toBitVec.toNat; simp)
  exact ⟨y.toNat, by omega, by rw [e, lN_i]⟩
section TQD
variable {m len : Nat} {tx now : tp_R} {hn : Nat} {hist : Nat → tp_R} {sl : Nat → Bool} {kp : Nat → tp_R} {u : tl_S}
end TQD
