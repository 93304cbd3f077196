/-! The reference's answers: scripts, simulations, slots. -/
def tp_rsk (n : Int32) (s : Int64) : Prop := ∃ N S, 1 ≤ N ∧ N ≤ 3 ∧ n = nI N ∧ s = lN S ∧ S < 1000000 ^ N
theorem tp_pw_le {j : Nat} (h : j ≤ 3) : 1000000 ^ j ≤ 1000000000000000000 ∧ 0 < 1000000 ^ j := by
  have : j = 0 ∨ j = 1 ∨ j = 2 ∨ j = 3 := by omega
  rcases this with rfl | rfl | rfl | rfl <;> decide
section TQE
variable {m len : Nat} {tx now : tp_R} {hn : Nat} {hist : Nat → tp_R} {sl : Nat → Bool} {kp : Nat → tp_R} {u : tl_S}
def tp_sl2 (sl : Nat → Bool) (s : Nat) : Nat → Bool := fun i => if i = s then true else sl i
def tp_kp2 (kp : Nat → tp_R) (s : Nat) (now : tp_R) : Nat → tp_R := fun i => if i = s then now else kp i
end TQE
