/-! Turns of the reference. -/
theorem tp_turn0 (q : Nat) (t : tp_R) : tp_turn 0 q t = tp_tt 1 (nI (1 + q % 30)) 0 0 0 t := by unfold tp_turn; rw [if_pos rfl]
theorem tp_turn1 (q : Nat) (t : tp_R) : tp_turn 1 q t = tp_tt 2 (nI (q % 3)) (nI (1 + q / 4 % 5)) 0 0 t := by unfold tp_turn; rw [if_neg (by decide), if_pos (by decide)]
theorem tp_turn2 (q : Nat) (t : tp_R) : tp_turn 2 q t = tp_tt 2 (nI (q % 3)) (nI (1 + q / 4 % 5)) 0 0 t := by unfold tp_turn; rw [if_neg (by decide), if_pos (by decide)]
theorem tp_turn3 (q : Nat) (t : tp_R) : tp_turn 3 q t = tp_tt 4 (nI (q % 3)) (nI (q / 4 % 30)) (nI (1 + q / 128 % 9)) (nI (q / 2048 % 100)) t := by unfold tp_turn; rw [if_neg (by decide), if_neg (by decide), if_pos rfl]
theorem tp_turn4 (q : Nat) (t : tp_R) : tp_turn 4 q t = tp_tt 5 (nI (q % 200)) 0 0 0 t := by unfold tp_turn; rw [if_neg (by decide), if_neg (by decide), if_neg (by decide), if_pos rfl]
theorem tp_turn5 (q : Nat) (t : tp_R) : tp_turn 5 q t = tp_tt 6 (nI (q % 8)) (nI (q / 8 % 3)) (nI (q / 32 % 40)) 0 t := by unfold tp_turn; rw [if_neg (by decide), if_neg (by decide), if_neg (by decide), if_neg (by decide), if_pos (by decide)]
theorem tp_turn6 (q : Nat) (t : tp_R) : tp_turn 6 q t = tp_tt 6 (nI (q % 8)) (nI (q / 8 % 3)) (nI (q / 32 % 40)) 0 t := by unfold tp_turn; rw [if_neg (by decide), if_neg (by decide), if_neg (by decide), if_neg (by decide), if_pos (by decide)]
theorem tp_turn7 (q : Nat) (t : tp_R) : tp_turn 7 q t = tp_tt 7 (nI (q % 8)) (nI (1 + q / 8 % 99)) 0 0 t := by unfold tp_turn; rw [if_neg (by decide), if_neg (by decide), if_neg (by decide), if_neg (by decide), if_neg (by decide), if_pos rfl]
theorem tp_turn8 (q : Nat) (t : tp_R) : tp_turn 8 q t = if q / 16 % 2 = 0 then tp_tt 9 0 (nI (q % 13)) 0 0 t else tp_tt 9 1 (nI (q % 2)) 0 0 t := by unfold tp_turn; rw [if_neg (by decide), if_neg (by decide), if_neg (by decide), if_neg (by decide), if_neg (by decide), if_neg (by decide), if_pos rfl]
theorem tp_turn9 (q : Nat) (t : tp_R) : tp_turn 9 q t = tp_tt 3 (nI (q % 6)) (nI (q / 8 % 3)) 0 0 t := by unfold tp_turn; rw [if_neg (by decide), if_neg (by decide), if_neg (by decide), if_neg (by decide), if_neg (by decide), if_neg (by decide), if_neg (by decide), if_pos rfl]
theorem tp_turnX {k : Nat} (hk : 10 ≤ k) (q : Nat) (t : tp_R) : tp_turn k q t = tp_tt 10 (nI (1 + q % 12)) 0 0 0 t := by unfold tp_turn; rw [if_neg (by omega), if_neg (by omega), if_neg (by omega), if_neg (by omega), if_neg (by omega), if_neg (by omega), if_neg (by omega), if_neg (by omega)]
section TPU
variable {u : tl_S} {m : Nat} {t : tp_R}
end TPU
