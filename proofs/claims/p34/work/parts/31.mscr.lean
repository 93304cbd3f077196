/-! Scripts and turns. -/
theorem tp_dv2 {a : Nat} (h : a < 2147483648) : nI a / 2 = nI (a / 2) := pk_div (d := 2) h (by decide) (by decide)
theorem tp_dv3 {a : Nat} (h : a < 2147483648) : nI a / 3 = nI (a / 3) := pk_div (d := 3) h (by decide) (by decide)
theorem tp_dv4 {a : Nat} (h : a < 2147483648) : nI a / 4 = nI (a / 4) := pk_div (d := 4) h (by decide) (by decide)
theorem tp_dv5 {a : Nat} (h : a < 2147483648) : nI a / 5 = nI (a / 5) := pk_div (d := 5) h (by decide) (by decide)
theorem tp_dv6 {a : Nat} (h : a < 2147483648) : nI a / 6 = nI (a / 6) := pk_div (d := 6) h (by decide) (by decide)
theorem tp_dv8 {a : Nat} (h : a < 2147483648) : nI a / 8 = nI (a / 8) := pk_div (d := 8) h (by decide) (by decide)
theorem tp_dv9 {a : Nat} (h : a < 2147483648) : nI a / 9 = nI (a / 9) := pk_div (d := 9) h (by decide) (by decide)
theorem tp_dv10 {a : Nat} (h : a < 2147483648) : nI a / 10 = nI (a / 10) := pk_div (d := 10) h (by decide) (by decide)
theorem tp_dv12 {a : Nat} (h : a < 2147483648) : nI a / 12 = nI (a / 12) := pk_div (d := 12) h (by decide) (by decide)
theorem tp_dv13 {a : Nat} (h : a < 2147483648) : nI a / 13 = nI (a / 13) := pk_div (d := 13) h (by decide) (by decide)
theorem tp_dv16 {a : Nat} (h : a < 2147483648) : nI a / 16 = nI (a / 16) := pk_div (d := 16) h (by decide) (by decide)
theorem tp_dv30 {a : Nat} (h : a < 2147483648) : nI a / 30 = nI (a / 30) := pk_div (d := 30) h (by decide) (by decide)
theorem tp_dv32 {a : Nat} (h : a < 2147483648) : nI a / 32 = nI (a / 32) := pk_div (d := 32) h (by decide) (by decide)
theorem tp_dv40 {a : Nat} (h : a < 2147483648) : nI a / 40 = nI (a / 40) := pk_div (d := 40) h (by decide) (by decide)
theorem tp_dv99 {a : Nat} (h : a < 2147483648) : nI a / 99 = nI (a / 99) := pk_div (d := 99) h (by decide) (by decide)
theorem tp_dv100 {a : Nat} (h : a < 2147483648) : nI a / 100 = nI (a / 100) := pk_div (d := 100) h (by decide) (by decide)
theorem tp_dv128 {a : Nat} (h : a < 2147483648) : nI a / 128 = nI (a / 128) := pk_div (d := 128) h (by decide) (by decide)
theorem tp_dv200 {a : Nat} (h : a < 2147483648) : nI a / 200 = nI (a / 200) := pk_div (d := 200) h (by decide) (by decide)
theorem tp_dv1000 {a : Nat} (h : a < 2147483648) : nI a / 1000 = nI (a / 1000) := pk_div (d := 1000) h (by decide) (by decide)
theorem tp_dv2048 {a : Nat} (h : a < 2147483648) : nI a / 2048 = nI (a / 2048) := pk_div (d := 2048) h (by decide) (by decide)
theorem tp_dv10000 {a : Nat} (h : a < 2147483648) : nI a / 10000 = nI (a / 10000) := pk_div (d := 10000) h (by decide) (by decide)
theorem tp_dv100000 {a : Nat} (h : a < 2147483648) : nI a / 100000 = nI (a / 100000) := pk_div (d := 100000) h (by decide) (by decide)
theorem tp_rn (a d : Nat) : nI a - nI (a / d) * nI d = nI (a % d) := by
  rw [pk_mul, pk_sub (Nat.div_mul_le_self a d)]
  congr 1
  have := Nat.div_add_mod a d
  rw [Nat.mul_comm] at this
  omega
theorem tp_rn2 (a : Nat) : nI a - nI (a / 2) * 2 = nI (a % 2) := tp_rn a 2
theorem tp_rn3 (a : Nat) : nI a - nI (a / 3) * 3 = nI (a % 3) := tp_rn a 3
theorem tp_rn5 (a : Nat) : nI a - nI (a / 5) * 5 = nI (a % 5) := tp_rn a 5
theorem tp_rn6 (a : Nat) : nI a - nI (a / 6) * 6 = nI (a % 6) := tp_rn a 6
theorem tp_rn8 (a : Nat) : nI a - nI (a / 8) * 8 = nI (a % 8) := tp_rn a 8
theorem tp_rn9 (a : Nat) : nI a - nI (a / 9) * 9 = nI (a % 9) := tp_rn a 9
theorem tp_rn10 (a : Nat) : nI a - nI (a / 10) * 10 = nI (a % 10) := tp_rn a 10
theorem tp_rn12 (a : Nat) : nI a - nI (a / 12) * 12 = nI (a % 12) := tp_rn a 12
theorem tp_rn13 (a : Nat) : nI a - nI (a / 13) * 13 = nI (a % 13) := tp_rn a 13
theorem tp_rn16 (a : Nat) : nI a - nI (a / 16) * 16 = nI (a % 16) := tp_rn a 16
theorem tp_rn30 (a : Nat) : nI a - nI (a / 30) * 30 = nI (a % 30) := tp_rn a 30
theorem tp_rn40 (a : Nat) : nI a - nI (a / 40) * 40 = nI (a % 40) := tp_rn a 40
theorem tp_rn99 (a : Nat) : nI a - nI (a / 99) * 99 = nI (a % 99) := tp_rn a 99
theorem tp_rn100 (a : Nat) : nI a - nI (a / 100) * 100 = nI (a % 100) := tp_rn a 100
theorem tp_rn200 (a : Nat) : nI a - nI (a / 200) * 200 = nI (a % 200) := tp_rn a 200
theorem tp_rn1000 (a : Nat) : nI a - nI (a / 1000) * 1000 = nI (a % 1000) := tp_rn a 1000
def tp_tr (g : Bool) (q : Nat) (a b c d : Int32) (t : tp_R) : Bool × tp_R := if g && decide (tp_rf q a b c d t = 0) then (true, tp_pf q a b c d t) else (false, t)
def tp_tt (q : Nat) (a b c d : Int32) (t : tp_R) : tp_R := if tp_rf q a b c d t = 0 then tp_pf q a b c d t else t
/-- a group of a script -/
def tp_scr (k v : Nat) (t : tp_R) : Bool × tp_R :=
  if k = 1 then tp_tr true 10 (nI v) 0 0 0 t
  else if k = 2 then tp_tr (decide (v % 10 = 0)) 6 (nI (v / 10000)) (nI (v / 1000 % 10)) (nI (v / 10 % 100)) 0 t
  else if k = 3 then tp_tr (decide (v % 10 = 0) && decide (v / 1000 % 10 = 0)) 7 (nI (v / 10000)) (nI (v / 10 % 100)) 0 0 t
  else if k = 4 then tp_tr (decide (v % 10 = 0) && decide (v / 1000 % 10 = 0)) 9 (nI (v / 10000)) (nI (v / 10 % 100)) 0 0 t
  else if k = 5 then tp_tr (decide (v % 1000 = 0)) 3 (nI (v / 10000)) (nI (v / 1000 % 10)) 0 0 t
  else if k = 6 then (decide (v % 10000 < 2) && (tp_ig t (nI (v / 10000)) && (tp_lit t (nI (v / 10000)) (t (18 + 2 * (v / 10000))) == decide (v % 10 = 1))), t)
  else if k = 7 then (decide (v % 10000 < 100) && (tp_ig t (nI (v / 10000)) && !decide (t (18 + 2 * (v / 10000)) < nI (v % 100))), t)
  else if k = 8 then (decide (v % 10000 < 100) && (tp_il t (nI (v / 10000)) && !decide (t (49 + 4 * (v / 10000)) < nI (v % 100))), t)
  else if k = 9 then (decide (v < 10) && !decide (nI (v % 10) < t 8), t)
  else (false, t)
theorem tp_scr1 (v : Nat) (t : tp_R) : tp_scr 1 v t = tp_tr true 10 (nI v) 0 0 0 t := by
  unfold tp_scr
  rw [if_pos rfl]
theorem tp_scr2 (v : Nat) (t : tp_R) : tp_scr 2 v t = tp_tr (decide (v % 10 = 0)) 6 (nI (v / 10000)) (nI (v / 1000 % 10)) (nI (v / 10 % 100)) 0 t := by
  unfold tp_scr
  rw [if_neg (by decide), if_pos rfl]
theorem tp_scr3 (v : Nat) (t : tp_R) : tp_scr 3 v t = tp_tr (decide (v % 10 = 0) && decide (v / 1000 % 10 = 0)) 7 (nI (v / 10000)) (nI (v / 10 % 100)) 0 0 t := by
  unfold tp_scr
  rw [if_neg (by decide), if_neg (by decide), if_pos rfl]
theorem tp_scr4 (v : Nat) (t : tp_R) : tp_scr 4 v t = tp_tr (decide (v % 10 = 0) && decide (v / 1000 % 10 = 0)) 9 (nI (v / 10000)) (nI (v / 10 % 100)) 0 0 t := by
  unfold tp_scr
  rw [if_neg (by decide), if_neg (by decide), if_neg (by decide), if_pos rfl]
theorem tp_scr5 (v : Nat) (t : tp_R) : tp_scr 5 v t = tp_tr (decide (v % 1000 = 0)) 3 (nI (v / 10000)) (nI (v / 1000 % 10)) 0 0 t := by
  unfold tp_scr
  rw [if_neg (by decide), if_neg (by decide), if_neg (by decide), if_neg (by decide), if_pos rfl]
theorem tp_scr6 (v : Nat) (t : tp_R) : tp_scr 6 v t = (decide (v % 10000 < 2) && (tp_ig t (nI (v / 10000)) && (tp_lit t (nI (v / 10000)) (t (18 + 2 * (v / 10000))) == decide (v % 10 = 1))), t) := by
  unfold tp_scr
  rw [if_neg (by decide), if_neg (by decide), if_neg (by decide), if_neg (by decide), if_neg (by decide), if_pos rfl]
theorem tp_scr7 (v : Nat) (t : tp_R) : tp_scr 7 v t = (decide (v % 10000 < 100) && (tp_ig t (nI (v / 10000)) && !decide (t (18 + 2 * (v / 10000)) < nI (v % 100))), t) := by
  unfold tp_scr
  rw [if_neg (by decide), if_neg (by decide), if_neg (by decide), if_neg (by decide), if_neg (by decide), if_neg (by decide), if_pos rfl]
theorem tp_scr8 (v : Nat) (t : tp_R) : tp_scr 8 v t = (decide (v % 10000 < 100) && (tp_il t (nI (v / 10000)) && !decide (t (49 + 4 * (v / 10000)) < nI (v % 100))), t) := by
  unfold tp_scr
  rw [if_neg (by decide), if_neg (by decide), if_neg (by decide), if_neg (by decide), if_neg (by decide), if_neg (by decide), if_neg (by decide), if_pos rfl]
theorem tp_scr9 (v : Nat) (t : tp_R) : tp_scr 9 v t = (decide (v < 10) && !decide (nI (v % 10) < t 8), t) := by
  unfold tp_scr
  rw [if_neg (by decide), if_neg (by decide), if_neg (by decide), if_neg (by decide), if_neg (by decide), if_neg (by decide), if_neg (by decide), if_neg (by decide), if_pos rfl]
/-- a turn -/
def tp_turn (h q : Nat) (t : tp_R) : tp_R :=
  if h = 0 then tp_tt 1 (nI (1 + q % 30)) 0 0 0 t
  else if h = 1 ∨ h = 2 then tp_tt 2 (nI (q % 3)) (nI (1 + q / 4 % 5)) 0 0 t
  else if h = 3 then tp_tt 4 (nI (q % 3)) (nI (q / 4 % 30)) (nI (1 + q / 128 % 9)) (nI (q / 2048 % 100)) t
  else if h = 4 then tp_tt 5 (nI (q % 200)) 0 0 0 t
  else if h = 5 ∨ h = 6 then tp_tt 6 (nI (q % 8)) (nI (q / 8 % 3)) (nI (q / 32 % 40)) 0 t
  else if h = 7 then tp_tt 7 (nI (q % 8)) (nI (1 + q / 8 % 99)) 0 0 t
  else if h = 8 then (if q / 16 % 2 = 0 then tp_tt 9 0 (nI (q % 13)) 0 0 t else tp_tt 9 1 (nI (q % 2)) 0 0 t)
  else if h = 9 then tp_tt 3 (nI (q % 6)) (nI (q / 8 % 3)) 0 0 t
  else tp_tt 10 (nI (1 + q % 12)) 0 0 0 t
theorem tp_Ok_tt {q : Nat} {a b c d : Int32} {t : tp_R} (h : tp_Ok t) : tp_Ok (tp_tt q a b c d t) := by
  unfold tp_tt
  split
  · exact tp_Ok_pf h ‹_›
  · exact h
theorem tp_Ok_turn {k v : Nat} {t : tp_R} (h : tp_Ok t) : tp_Ok (tp_turn k v t) := by
  unfold tp_turn
  repeat' split
  all_goals exact tp_Ok_tt h
/-! rf, opened -/
section TPF
variable {a b c d : Int32} {t : tp_R}
theorem tp_rf1 : tp_rf 1 a b c d t = 0 ↔ tp_iw a 1 60 = true ∧ (!decide (3 ≤ t 0)) = true := by
  unfold tp_rf; rw [if_pos rfl, tp_ro0]; simp
theorem tp_rf2 : tp_rf 2 a b c d t = 0 ↔ tp_ig t a = true ∧ tp_iw b 1 5 = true ∧ (!decide (6 ≤ t 1)) = true := by
  unfold tp_rf; rw [if_neg (by decide), if_pos rfl, tp_ro0]
theorem tp_rf3 : tp_rf 3 a b c d t = 0 ↔ (tp_im t a && tp_ig t b) = true := by
  unfold tp_rf; rw [if_neg (by decide), if_neg (by decide), if_pos rfl, tp_ro0]; simp
theorem tp_rf4 : tp_rf 4 a b c d t = 0 ↔ tp_ic t a b = true ∧ (tp_iw c 1 9 && tp_iw d 0 99) = true ∧ (!decide (8 ≤ t 2)) = true := by
  unfold tp_rf; rw [if_neg (by decide), if_neg (by decide), if_neg (by decide), if_pos rfl, tp_ro0]
theorem tp_rf6 : tp_rf 6 a b c d t = 0 ↔ (tp_il t a && tp_ic t b c && !decide (6 ≤ t 8)) = true := by
  unfold tp_rf; rw [if_neg (by decide), if_neg (by decide), if_neg (by decide), if_neg (by decide), if_neg (by decide), if_pos rfl, tp_ro0]; simp
theorem tp_rf7 : tp_rf 7 a b c d t = 0 ↔ (tp_il t a && tp_iw b 1 99 && !decide (6 ≤ t 8)) = true := by
  unfold tp_rf; rw [if_neg (by decide), if_neg (by decide), if_neg (by decide), if_neg (by decide), if_neg (by decide), if_neg (by decide), if_pos rfl, tp_ro0]; simp [and_assoc]
theorem tp_rf10 : tp_rf 10 a b c d t = 0 ↔ tp_iw a 1 60 = true := by
  unfold tp_rf; rw [if_neg (by decide), if_neg (by decide), if_neg (by decide), if_neg (by decide), if_neg (by decide), if_neg (by decide), if_neg (by decide), if_neg (by decide), if_neg (by decide), tp_ro0]; simp
end TPF
section TPS
variable {u : tl_S} {m : Nat} {t : tp_R}
theorem tp_tr_p {g : Bool} {q : Nat} {a b c d : Int32} (hg : g = true) (h : tp_rf q a b c d t = 0) : tp_tr g q a b c d t = (true, tp_pf q a b c d t) := by unfold tp_tr; rw [if_pos (by simp [hg, h])]
theorem tp_tr_n {g : Bool} {q : Nat} {a b c d : Int32} (h : g = false ∨ ¬ tp_rf q a b c d t = 0) : tp_tr g q a b c d t = (false, t) := by unfold tp_tr; rw [if_neg (by rcases h with h | h <;> simp [h])]
theorem tp_tt_p {q : Nat} {a b c d : Int32} (h : tp_rf q a b c d t = 0) : tp_tt q a b c d t = tp_pf q a b c d t := by unfold tp_tt; rw [if_pos h]
theorem tp_tt_n {q : Nat} {a b c d : Int32} (h : ¬ tp_rf q a b c d t = 0) : tp_tt q a b c d t = t := by unfold tp_tt; rw [if_neg h]
end TPS
