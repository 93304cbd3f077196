/-! Scripts and turns. -/
theorem tp_dv2 {a : Nat} (h : a < 2147483648) : nI a / 2 = nI (a / 2) := pk_div (d := 2) h (by decide) (by decide)
theorem tp_rm2 {a : Nat} (h : a < 2147483648) : nI a - nI a / 2 * 2 = nI (a % 2) := pk_rem (d := 2) h (by decide) (by decide)
theorem tp_dv3 {a : Nat} (h : a < 2147483648) : nI a / 3 = nI (a / 3) := pk_div (d := 3) h (by decide) (by decide)
theorem tp_rm3 {a : Nat} (h : a < 2147483648) : nI a - nI a / 3 * 3 = nI (a % 3) := pk_rem (d := 3) h (by decide) (by decide)
theorem tp_dv4 {a : Nat} (h : a < 2147483648) : nI a / 4 = nI (a / 4) := pk_div (d := 4) h (by decide) (by decide)
theorem tp_rm4 {a : Nat} (h : a < 2147483648) : nI a - nI a / 4 * 4 = nI (a % 4) := pk_rem (d := 4) h (by decide) (by decide)
theorem tp_dv5 {a : Nat} (h : a < 2147483648) : nI a / 5 = nI (a / 5) := pk_div (d := 5) h (by decide) (by decide)
theorem tp_rm5 {a : Nat} (h : a < 2147483648) : nI a - nI a / 5 * 5 = nI (a % 5) := pk_rem (d := 5) h (by decide) (by decide)
theorem tp_dv6 {a : Nat} (h : a < 2147483648) : nI a / 6 = nI (a / 6) := pk_div (d := 6) h (by decide) (by decide)
theorem tp_rm6 {a : Nat} (h : a < 2147483648) : nI a - nI a / 6 * 6 = nI (a % 6) := pk_rem (d := 6) h (by decide) (by decide)
theorem tp_dv8 {a : Nat} (h : a < 2147483648) : nI a / 8 = nI (a / 8) := pk_div (d := 8) h (by decide) (by decide)
theorem tp_rm8 {a : Nat} (h : a < 2147483648) : nI a - nI a / 8 * 8 = nI (a % 8) := pk_rem (d := 8) h (by decide) (by decide)
theorem tp_dv9 {a : Nat} (h : a < 2147483648) : nI a / 9 = nI (a / 9) := pk_div (d := 9) h (by decide) (by decide)
theorem tp_rm9 {a : Nat} (h : a < 2147483648) : nI a - nI a / 9 * 9 = nI (a % 9) := pk_rem (d := 9) h (by decide) (by decide)
theorem tp_dv10 {a : Nat} (h : a < 2147483648) : nI a / 10 = nI (a / 10) := pk_div (d := 10) h (by decide) (by decide)
theorem tp_rm10 {a : Nat} (h : a < 2147483648) : nI a - nI a / 10 * 10 = nI (a % 10) := pk_rem (d := 10) h (by decide) (by decide)
theorem tp_dv12 {a : Nat} (h : a < 2147483648) : nI a / 12 = nI (a / 12) := pk_div (d := 12) h (by decide) (by decide)
theorem tp_rm12 {a : Nat} (h : a < 2147483648) : nI a - nI a / 12 * 12 = nI (a % 12) := pk_rem (d := 12) h (by decide) (by decide)
theorem tp_dv13 {a : Nat} (h : a < 2147483648) : nI a / 13 = nI (a / 13) := pk_div (d := 13) h (by decide) (by decide)
theorem tp_rm13 {a : Nat} (h : a < 2147483648) : nI a - nI a / 13 * 13 = nI (a % 13) := pk_rem (d := 13) h (by decide) (by decide)
theorem tp_dv16 {a : Nat} (h : a < 2147483648) : nI a / 16 = nI (a / 16) := pk_div (d := 16) h (by decide) (by decide)
theorem tp_rm16 {a : Nat} (h : a < 2147483648) : nI a - nI a / 16 * 16 = nI (a % 16) := pk_rem (d := 16) h (by decide) (by decide)
theorem tp_dv30 {a : Nat} (h : a < 2147483648) : nI a / 30 = nI (a / 30) := pk_div (d := 30) h (by decide) (by decide)
theorem tp_rm30 {a : Nat} (h : a < 2147483648) : nI a - nI a / 30 * 30 = nI (a % 30) := pk_rem (d := 30) h (by decide) (by decide)
theorem tp_dv32 {a : Nat} (h : a < 2147483648) : nI a / 32 = nI (a / 32) := pk_div (d := 32) h (by decide) (by decide)
theorem tp_rm32 {a : Nat} (h : a < 2147483648) : nI a - nI a / 32 * 32 = nI (a % 32) := pk_rem (d := 32) h (by decide) (by decide)
theorem tp_dv40 {a : Nat} (h : a < 2147483648) : nI a / 40 = nI (a / 40) := pk_div (d := 40) h (by decide) (by decide)
theorem tp_rm40 {a : Nat} (h : a < 2147483648) : nI a - nI a / 40 * 40 = nI (a % 40) := pk_rem (d := 40) h (by decide) (by decide)
theorem tp_dv99 {a : Nat} (h : a < 2147483648) : nI a / 99 = nI (a / 99) := pk_div (d := 99) h (by decide) (by decide)
theorem tp_rm99 {a : Nat} (h : a < 2147483648) : nI a - nI a / 99 * 99 = nI (a % 99) := pk_rem (d := 99) h (by decide) (by decide)
theorem tp_dv100 {a : Nat} (h : a < 2147483648) : nI a / 100 = nI (a / 100) := pk_div (d := 100) h (by decide) (by decide)
theorem tp_rm100 {a : Nat} (h : a < 2147483648) : nI a - nI a / 100 * 100 = nI (a % 100) := pk_rem (d := 100) h (by decide) (by decide)
theorem tp_dv128 {a : Nat} (h : a < 2147483648) : nI a / 128 = nI (a / 128) := pk_div (d := 128) h (by decide) (by decide)
theorem tp_rm128 {a : Nat} (h : a < 2147483648) : nI a - nI a / 128 * 128 = nI (a % 128) := pk_rem (d := 128) h (by decide) (by decide)
theorem tp_dv200 {a : Nat} (h : a < 2147483648) : nI a / 200 = nI (a / 200) := pk_div (d := 200) h (by decide) (by decide)
theorem tp_rm200 {a : Nat} (h : a < 2147483648) : nI a - nI a / 200 * 200 = nI (a % 200) := pk_rem (d := 200) h (by decide) (by decide)
theorem tp_dv1000 {a : Nat} (h : a < 2147483648) : nI a / 1000 = nI (a / 1000) := pk_div (d := 1000) h (by decide) (by decide)
theorem tp_rm1000 {a : Nat} (h : a < 2147483648) : nI a - nI a / 1000 * 1000 = nI (a % 1000) := pk_rem (d := 1000) h (by decide) (by decide)
theorem tp_dv2048 {a : Nat} (h : a < 2147483648) : nI a / 2048 = nI (a / 2048) := pk_div (d := 2048) h (by decide) (by decide)
theorem tp_rm2048 {a : Nat} (h : a < 2147483648) : nI a - nI a / 2048 * 2048 = nI (a % 2048) := pk_rem (d := 2048) h (by decide) (by decide)
theorem tp_dv10000 {a : Nat} (h : a < 2147483648) : nI a / 10000 = nI (a / 10000) := pk_div (d := 10000) h (by decide) (by decide)
theorem tp_rm10000 {a : Nat} (h : a < 2147483648) : nI a - nI a / 10000 * 10000 = nI (a % 10000) := pk_rem (d := 10000) h (by decide) (by decide)
theorem tp_dv100000 {a : Nat} (h : a < 2147483648) : nI a / 100000 = nI (a / 100000) := pk_div (d := 100000) h (by decide) (by decide)
theorem tp_rm100000 {a : Nat} (h : a < 2147483648) : nI a - nI a / 100000 * 100000 = nI (a % 100000) := pk_rem (d := 100000) h (by decide) (by decide)
theorem tp_dv1000000 {a : Nat} (h : a < 2147483648) : nI a / 1000000 = nI (a / 1000000) := pk_div (d := 1000000) h (by decide) (by decide)
theorem tp_rm1000000 {a : Nat} (h : a < 2147483648) : nI a - nI a / 1000000 * 1000000 = nI (a % 1000000) := pk_rem (d := 1000000) h (by decide) (by decide)
theorem tp_rn (a d : Nat) : nI a - nI (a / d) * nI d = nI (a % d) := by
  rw [pk_mul, pk_sub (Nat.div_mul_le_self a d)]
  congr 1
  have := Nat.div_add_mod a d
  rw [Nat.mul_comm] at this
  omega
theorem tp_rn2 (a : Nat) : nI a - nI (a / 2) * 2 = nI (a % 2) := tp_rn a 2
theorem tp_rn3 (a : Nat) : nI a - nI (a / 3) * 3 = nI (a % 3) := tp_rn a 3
theorem tp_rn4 (a : Nat) : nI a - nI (a / 4) * 4 = nI (a % 4) := tp_rn a 4
theorem tp_rn5 (a : Nat) : nI a - nI (a / 5) * 5 = nI (a % 5) := tp_rn a 5
theorem tp_rn6 (a : Nat) : nI a - nI (a / 6) * 6 = nI (a % 6) := tp_rn a 6
theorem tp_rn8 (a : Nat) : nI a - nI (a / 8) * 8 = nI (a % 8) := tp_rn a 8
theorem tp_rn9 (a : Nat) : nI a - nI (a / 9) * 9 = nI (a % 9) := tp_rn a 9
theorem tp_rn10 (a : Nat) : nI a - nI (a / 10) * 10 = nI (a % 10) := tp_rn a 10
theorem tp_rn12 (a : Nat) : nI a - nI (a / 12) * 12 = nI (a % 12) := tp_rn a 12
theorem tp_rn13 (a : Nat) : nI a - nI (a / 13) * 13 = nI (a % 13) := tp_rn a 13
theorem tp_rn16 (a : Nat) : nI a - nI (a / 16) * 16 = nI (a % 16) := tp_rn a 16
theorem tp_rn30 (a : Nat) : nI a - nI (a / 30) * 30 = nI (a % 30) := tp_rn a 30
theorem tp_rn32 (a : Nat) : nI a - nI (a / 32) * 32 = nI (a % 32) := tp_rn a 32
theorem tp_rn40 (a : Nat) : nI a - nI (a / 40) * 40 = nI (a % 40) := tp_rn a 40
theorem tp_rn99 (a : Nat) : nI a - nI (a / 99) * 99 = nI (a % 99) := tp_rn a 99
theorem tp_rn100 (a : Nat) : nI a - nI (a / 100) * 100 = nI (a % 100) := tp_rn a 100
theorem tp_rn128 (a : Nat) : nI a - nI (a / 128) * 128 = nI (a % 128) := tp_rn a 128
theorem tp_rn200 (a : Nat) : nI a - nI (a / 200) * 200 = nI (a % 200) := tp_rn a 200
theorem tp_rn1000 (a : Nat) : nI a - nI (a / 1000) * 1000 = nI (a % 1000) := tp_rn a 1000
theorem tp_rn2048 (a : Nat) : nI a - nI (a / 2048) * 2048 = nI (a % 2048) := tp_rn a 2048
theorem tp_rn10000 (a : Nat) : nI a - nI (a / 10000) * 10000 = nI (a % 10000) := tp_rn a 10000
theorem tp_rn100000 (a : Nat) : nI a - nI (a / 100000) * 100000 = nI (a % 100000) := tp_rn a 100000
theorem tp_rn1000000 (a : Nat) : nI a - nI (a / 1000000) * 1000000 = nI (a % 1000000) := tp_rn a 1000000
def tp_tr (g : Bool) (q : Nat) (a b c d : Int32) (t : tp_R) : Bool × tp_R := if g && decide (tp_rf q a b c d t = 0) then (true, tp_pf q a b c d t) else (false, t)
def tp_tt (q : Nat) (a b c d : Int32) (t : tp_R) : tp_R := if tp_rf q a b c d t = 0 then tp_pf q a b c d t else t
/-- a group of a script -/
def tp_scr (k v : Nat) (t : tp_R) : Bool × tp_R :=
  if k = 1 then tp_tr true 10 (nI v) 0 0 0 t
  else if k = 2 then tp_tr (decide (v % 10 = 0)) 6 (nI (v / 10000)) (nI (v / 1000 % 10)) (nI (v / 10 % 100)) 0 t
  else if k = 3 then tp_tr (decide (v % 10 = 0) && decide (v / 1000 % 10 = 0)) 7 (nI (v / 10000)) (nI (v / 10 % 100)) 0 0 t
  else if k = 4 then tp_tr (decide (v % 10 = 0) && decide (v / 1000 % 10 = 0)) 9 (nI (v / 10000)) (nI (v / 10 % 100)) 0 0 t
  else if k = 5 then tp_tr (decide (v % 1000 = 0)) 3 (nI (v / 10000)) (nI (v / 1000 % 10)) 0 0 t
  else if k = 6 then (decide (v % 10000 < 2) && (tp_ig t (nI (v / 10000)) && (tp_lit t (nI (v / 10000)) (t (18 + 2 * (v / 10000))) == decide (v % 10 = 1))), t)
  else if k = 7 then (decide (v % 10000 < 100) && (tp_ig t (nI (v / 10000)) && !decide (t (18 + 2 * (v / 10000)) < nI (v % 100))), t)
  else if k = 8 then (decide (v % 10000 < 100) && (tp_il t (nI (v / 10000)) && !decide (t (49 + 4 * (v / 10000)) < nI (v % 100))), t)
  else if k = 9 then (decide (v < 10) && !decide (nI (v % 10) < t 8), t)
  else (false, t)
theorem tp_scr1 (v : Nat) (t : tp_R) : tp_scr 1 v t = tp_tr true 10 (nI v) 0 0 0 t := by
  unfold tp_scr
  rw [if_pos rfl]
theorem tp_scr2 (v : Nat) (t : tp_R) : tp_scr 2 v t = tp_tr (decide (v % 10 = 0)) 6 (nI (v / 10000)) (nI (v / 1000 % 10)) (nI (v / 10 % 100)) 0 t := by
  unfold tp_scr
  rw [if_neg (by decide), if_pos rfl]
theorem tp_scr3 (v : Nat) (t : tp_R) : tp_scr 3 v t = tp_tr (decide (v % 10 = 0) && decide (v / 1000 % 10 = 0)) 7 (nI (v / 10000)) (nI (v / 10 % 100)) 0 0 t := by
  unfold tp_scr
  rw [if_neg (by decide), if_neg (by decide), if_pos rfl]
theorem tp_scr4 (v : Nat) (t : tp_R) : tp_scr 4 v t = tp_tr (decide (v % 10 = 0) && decide (v / 1000 % 10 = 0)) 9 (nI (v / 10000)) (nI (v / 10 % 100)) 0 0 t := by
  unfold tp_scr
  rw [if_neg (by decide), if_neg (by decide), if_neg (by decide), if_pos rfl]
theorem tp_scr5 (v : Nat) (t : tp_R) : tp_scr 5 v t = tp_tr (decide (v % 1000 = 0)) 3 (nI (v / 10000)) (nI (v / 1000 % 10)) 0 0 t := by
  unfold tp_scr
  rw [if_neg (by decide), if_neg (by decide), if_neg (by decide), if_neg (by decide), if_pos rfl]
theorem tp_scr6 (v : Nat) (t : tp_R) : tp_scr 6 v t = (decide (v % 10000 < 2) && (tp_ig t (nI (v / 10000)) && (tp_lit t (nI (v / 10000)) (t (18 + 2 * (v / 10000))) == decide (v % 10 = 1))), t) := by
  unfold tp_scr
  rw [if_neg (by decide), if_neg (by decide), if_neg (by decide), if_neg (by decide), if_neg (by decide), if_pos rfl]
theorem tp_scr7 (v : Nat) (t : tp_R) : tp_scr 7 v t = (decide (v % 10000 < 100) && (tp_ig t (nI (v / 10000)) && !decide (t (18 + 2 * (v / 10000)) < nI (v % 100))), t) := by
  unfold tp_scr
  rw [if_neg (by decide), if_neg (by decide), if_neg (by decide), if_neg (by decide), if_neg (by decide), if_neg (by decide), if_pos rfl]
theorem tp_scr8 (v : Nat) (t : tp_R) : tp_scr 8 v t = (decide (v % 10000 < 100) && (tp_il t (nI (v / 10000)) && !decide (t (49 + 4 * (v / 10000)) < nI (v % 100))), t) := by
  unfold tp_scr
  rw [if_neg (by decide), if_neg (by decide), if_neg (by decide), if_neg (by decide), if_neg (by decide), if_neg (by decide), if_neg (by decide), if_pos rfl]
theorem tp_scr9 (v : Nat) (t : tp_R) : tp_scr 9 v t = (decide (v < 10) && !decide (nI (v % 10) < t 8), t) := by
  unfold tp_scr
  rw [if_neg (by decide), if_neg (by decide), if_neg (by decide), if_neg (by decide), if_neg (by decide), if_neg (by decide), if_neg (by decide), if_neg (by decide), if_pos rfl]
/-- a turn -/
def tp_turn (h q : Nat) (t : tp_R) : tp_R :=
  if h = 0 then tp_tt 1 (nI (1 + q % 30)) 0 0 0 t
  else if h = 1 ∨ h = 2 then tp_tt 2 (nI (q % 3)) (nI (1 + q / 4 % 5)) 0 0 t
  else if h = 3 then tp_tt 4 (nI (q % 3)) (nI (q / 4 % 30)) (nI (1 + q / 128 % 9)) (nI (q / 2048 % 100)) t
  else if h = 4 then tp_tt 5 (nI (q % 200)) 0 0 0 t
  else if h = 5 ∨ h = 6 then tp_tt 6 (nI (q % 8)) (nI (q / 8 % 3)) (nI (q / 32 % 40)) 0 t
  else if h = 7 then tp_tt 7 (nI (q % 8)) (nI (1 + q / 8 % 99)) 0 0 t
  else if h = 8 then (if q / 16 % 2 = 0 then tp_tt 9 0 (nI (q % 13)) 0 0 t else tp_tt 9 1 (nI (q % 2)) 0 0 t)
  else if h = 9 then tp_tt 3 (nI (q % 6)) (nI (q / 8 % 3)) 0 0 t
  else tp_tt 10 (nI (1 + q % 12)) 0 0 0 t
theorem tp_Ok_tr {g : Bool} {q : Nat} {a b c d : Int32} {t : tp_R} (h : tp_Ok t) : tp_Ok (tp_tr g q a b c d t).2 := by
  unfold tp_tr
  split
  · rename_i z
    rw [Bool.and_eq_true, decide_eq_true_iff] at z
    exact tp_Ok_pf h z.2
  · exact h
theorem tp_Ok_tt {q : Nat} {a b c d : Int32} {t : tp_R} (h : tp_Ok t) : tp_Ok (tp_tt q a b c d t) := by
  unfold tp_tt
  split
  · exact tp_Ok_pf h ‹_›
  · exact h
theorem tp_Ok_scr {k v : Nat} {t : tp_R} (h : tp_Ok t) : tp_Ok (tp_scr k v t).2 := by
  unfold tp_scr
  repeat' split
  all_goals (first | exact tp_Ok_tr h | exact h)
theorem tp_Ok_turn {k v : Nat} {t : tp_R} (h : tp_Ok t) : tp_Ok (tp_turn k v t) := by
  unfold tp_turn
  repeat' split
  all_goals exact tp_Ok_tt h
/-! rf, opened -/
section TPF
variable {a b c d : Int32} {t : tp_R}
theorem tp_rf1 : tp_rf 1 a b c d t = 0 ↔ tp_iw a 1 60 = true ∧ (!decide (3 ≤ t 0)) = true := by
  unfold tp_rf; rw [if_pos rfl, tp_ro0]; simp
theorem tp_rf2 : tp_rf 2 a b c d t = 0 ↔ tp_ig t a = true ∧ tp_iw b 1 5 = true ∧ (!decide (6 ≤ t 1)) = true := by
  unfold tp_rf; rw [if_neg (by decide), if_pos rfl, tp_ro0]
theorem tp_rf3 : tp_rf 3 a b c d t = 0 ↔ (tp_im t a && tp_ig t b) = true := by
  unfold tp_rf; rw [if_neg (by decide), if_neg (by decide), if_pos rfl, tp_ro0]; simp
theorem tp_rf4 : tp_rf 4 a b c d t = 0 ↔ tp_ic t a b = true ∧ (tp_iw c 1 9 && tp_iw d 0 99) = true ∧ (!decide (8 ≤ t 2)) = true := by
  unfold tp_rf; rw [if_neg (by decide), if_neg (by decide), if_neg (by decide), if_pos rfl, tp_ro0]
theorem tp_rf5 : tp_rf 5 a b c d t = 0 ↔ tp_iw a 0 999 = true ∧ (!decide (9999 - t 4 < a)) = true := by
  unfold tp_rf; rw [if_neg (by decide), if_neg (by decide), if_neg (by decide), if_neg (by decide), if_pos rfl, tp_ro0]; simp
theorem tp_rf6 : tp_rf 6 a b c d t = 0 ↔ (tp_il t a && tp_ic t b c && !decide (6 ≤ t 8)) = true := by
  unfold tp_rf; rw [if_neg (by decide), if_neg (by decide), if_neg (by decide), if_neg (by decide), if_neg (by decide), if_pos rfl, tp_ro0]; simp
theorem tp_rf7 : tp_rf 7 a b c d t = 0 ↔ (tp_il t a && tp_iw b 1 99 && !decide (6 ≤ t 8)) = true := by
  unfold tp_rf; rw [if_neg (by decide), if_neg (by decide), if_neg (by decide), if_neg (by decide), if_neg (by decide), if_neg (by decide), if_pos rfl, tp_ro0]; simp [and_assoc]
theorem tp_rf9 : tp_rf 9 a b c d t = 0 ↔ tp_is a b = true := by
  unfold tp_rf; rw [if_neg (by decide), if_neg (by decide), if_neg (by decide), if_neg (by decide), if_neg (by decide), if_neg (by decide), if_neg (by decide), if_neg (by decide), if_pos rfl, tp_ro0]; simp
theorem tp_rf10 : tp_rf 10 a b c d t = 0 ↔ tp_iw a 1 60 = true := by
  unfold tp_rf; rw [if_neg (by decide), if_neg (by decide), if_neg (by decide), if_neg (by decide), if_neg (by decide), if_neg (by decide), if_neg (by decide), if_neg (by decide), if_neg (by decide), tp_ro0]; simp
theorem tp_st_le (h : tp_rng t) {n : Nat} (hn : n ≤ 999) : (9999 < t 4 + nI n) ↔ ¬ (!decide (9999 - t 4 < nI n)) = true := by
  obtain ⟨s, s2, s1, -⟩ := tp_xx (tp_r4 h)
  rw [s1, nI_add, tp_k9999, tp_sb s2]
  simp (disch := omega) only [tp_lt]
  simp; omega
end TPF
section TPS
variable {u : tl_S} {m : Nat} {t : tp_R}
theorem tp_tr_p {g : Bool} {q : Nat} {a b c d : Int32} (hg : g = true) (h : tp_rf q a b c d t = 0) : tp_tr g q a b c d t = (true, tp_pf q a b c d t) := by unfold tp_tr; rw [if_pos (by simp [hg, h])]
theorem tp_tr_n {g : Bool} {q : Nat} {a b c d : Int32} (h : g = false ∨ ¬ tp_rf q a b c d t = 0) : tp_tr g q a b c d t = (false, t) := by unfold tp_tr; rw [if_neg (by rcases h with h | h <;> simp [h])]
theorem tp_tt_p {q : Nat} {a b c d : Int32} (h : tp_rf q a b c d t = 0) : tp_tt q a b c d t = tp_pf q a b c d t := by unfold tp_tt; rw [if_pos h]
theorem tp_tt_n {q : Nat} {a b c d : Int32} (h : ¬ tp_rf q a b c d t = 0) : tp_tt q a b c d t = t := by unfold tp_tt; rw [if_neg h]
theorem tr_sends (h : tp_Ok t) {x y : Int32} : f10_sends m x y (tp_w u (m + 3) t) = some (tp_b01 (tp_tr true 3 x y 0 0 t).1, tp_w u (m + 3) (tp_tr true 3 x y 0 0 t).2) := by
  unfold f10_sends
  rw [tr_isMiner h.1, tp_b2S, tp_if0]
  by_cases c : tp_rf 3 x y 0 0 t = 0
  · have c' := tp_rf3.mp c
    rw [Bool.and_eq_true] at c'
    obtain ⟨n, n1, rfl⟩ := (tp_im_N h.1).mp c'.1
    have b1 := (tp_r1 h.1).2
    rw [if_pos c'.1, tr_isGallery h.1, tp_b2S, tp_if0, if_pos c'.2, tp_ite1, tp_tr_p rfl c]
    simp (disch := omega) only [tp_j24, tp_neg, false_or, tp_nleT, tp_gT, tp_cn, tp_L, tp_wu1, tp_w2, tp_wp, tp_wg]
    have : tp_pf 3 (nI n) y 0 0 t = tp_up t (24 + 4 * n) y := by
      show tp_up t (24 + 4 * tp_cl (nI n)) y = _
      unfold tp_cl
      rw [tp_cn (by omega)]
    rw [this]; rfl
  · rw [tp_tr_n (Or.inr c)]
    rcases e1 : tp_im t x with _ | _
    · rw [if_neg (by decide)]
      unfold f10_sends_p26
      rw [tp_ite0]; rfl
    · rw [if_pos rfl, tr_isGallery h.1, tp_b2S, tp_if0]
      rcases e2 : tp_ig t y with _ | _
      · rw [if_neg (by decide)]
        unfold f10_sends_p26
        rw [tp_ite0]; rfl
      · exact absurd (tp_rf3.mpr (by rw [e1, e2]; rfl)) c
theorem tp_pf10 {n : Nat} {b c d : Int32} (hn : n < 2147483648) : tp_pf 10 (nI n) b c d t = tp_hrs n t := by
  show tp_hrs (tp_cl (nI n)) t = _
  unfold tp_cl
  rw [tp_cn hn]
/-- hours, asked for in a place of its own -/
theorem tr_hrs_c (h : tp_Ok t) {n : Nat} (hn : n ≤ 1000) : f10_hoursOn (m + 3) (nI n) (tp_w u (m + 3) t) = some (tp_hrs n t 10 - t 10, tp_w u (m + 3) (tp_hrs n t)) := tr_hours h hn
theorem tr_command (h : tp_Ok t) {k v : Nat} (hk : k ≤ 9) (hv : v < 100000) : f10_command m (nI k) (nI v) (tp_w u (m + 3) t) = some (tp_b01 (tp_scr k v t).1, tp_w u (m + 3) (tp_scr k v t).2) := by
  have hc8 : (!decide (6 ≤ t 8)) = true → tp_cl (t 8) < 6 := (tp_ge_N (tp_r8 h.1).1 (by have := (tp_r8 h.1).2; omega) tp_k6 (by decide)).mp
  have nn : ¬ t 8 + 1 ≤ 0 := by have b8 := tp_r8 h.1; rw [b8.1, nI_1, tp_le0 (by omega)]; omega
  unfold f10_command
  rw [tp_L, tp_L, tp_L, tp_L, tp_L, tp_L]
  have l2 : ∀ n : Nat, n < 2147483648 → ((2 : Int32) ≤ nI n) = (2 ≤ n) := fun n hn => tp_le (by decide) hn
  have l100 : ∀ n : Nat, n < 2147483648 → ((100 : Int32) ≤ nI n) = (100 ≤ n) := fun n hn => tp_le (by decide) hn
  have z10 : ∀ n : Nat, n < 2147483648 → (nI n = 0) = (n = 0) := fun n hn => tp_eq hn (by decide)
  by_cases k1 : k = 1
  · subst k1
    rw [if_neg (by decide), if_pos (by decide), tp_scr1]
    try simp (disch := omega) only [tp_dv10000, tp_dv1000, tp_dv10, tp_dv100, tp_rn10, tp_rn100, tp_rn10000, tp_rn1000, l2, l100]
    rw [tp_in_l (y := 1) (z := 60) (Y := 1) (Z := 60) (by decide) (by decide), tp_b2S, tp_if0]
    by_cases c : tp_rf 10 (nI v) 0 0 0 t = 0
    · have c' := tp_rf10.mp c
      obtain ⟨n, n1, n2, e⟩ := tp_iw_N (L := 1) (B := 60) rfl rfl (by decide) (by decide) c'
      have e := (tp_eq (by omega) (by omega)).mp e
      obtain ⟨x, x1, x2⟩ := tp_hrs_dug v h
      rw [if_pos c', tr_hours h (by omega), tp_b2S, tp_tr_p rfl c, tp_pf10 (by omega), if_neg (by rw [x2, tp_neg (by omega)]; exact id)]; rfl
    · rw [tp_tr_n (Or.inr c), if_neg (fun z => c (tp_rf10.mpr z))]; rfl
  by_cases k2 : k = 2
  · subst k2
    rw [if_neg (by decide), if_neg (by decide), if_pos (by decide), tp_scr2]
    try simp (disch := omega) only [tp_dv10000, tp_dv1000, tp_dv10, tp_dv100, tp_rn10, tp_rn100, tp_rn10000, tp_rn1000, l2, l100]
    simp (disch := omega) only [z10]
    by_cases c0 : v % 10 = 0
    · rw [if_pos c0, tr_canHang h.1, tp_b2S, tp_if0]
      by_cases c : tp_rf 6 (nI (v / 10000)) (nI (v / 1000 % 10)) (nI (v / 10 % 100)) 0 t = 0
      · have c' := tp_rf6.mp c
        rw [if_pos c', tr_orderOn h.1 (hc8 (by rw [Bool.and_eq_true] at c'; exact c'.2)), tp_b2S, if_neg nn, tp_tr_p (by simp [c0]) c]; rfl
      · rw [if_neg (fun z => c (tp_rf6.mpr z)), tp_tr_n (Or.inr c)]; rfl
    · rw [if_neg c0, tp_tr_n (Or.inl (by simp [c0]))]; rfl
  by_cases k3 : k = 3
  · subst k3
    rw [if_neg (by decide), if_neg (by decide), if_neg (by decide), if_pos (by decide), tp_scr3]
    try simp (disch := omega) only [tp_dv10000, tp_dv1000, tp_dv10, tp_dv100, tp_rn10, tp_rn100, tp_rn10000, tp_rn1000, l2, l100]
    simp (disch := omega) only [z10]
    by_cases c0 : v % 10 = 0
    · rw [if_pos c0]
      by_cases c1 : v / 1000 % 10 = 0
      · rw [if_pos c1, tr_canFill h.1, tp_b2S, tp_if0]
        by_cases c : tp_rf 7 (nI (v / 10000)) (nI (v / 10 % 100)) 0 0 t = 0
        · have c' := tp_rf7.mp c
          rw [if_pos c', tr_orderOn h.1 (hc8 (by rw [Bool.and_eq_true] at c'; exact c'.2)), tp_b2S, if_neg nn, tp_tr_p (by simp [c0, c1]) c]; rfl
        · rw [if_neg (fun z => c (tp_rf7.mpr z)), tp_tr_n (Or.inr c)]; rfl
      · rw [if_neg c1, tp_tr_n (Or.inl (by simp [c1]))]; rfl
    · rw [if_neg c0, tp_tr_n (Or.inl (by simp [c0]))]; rfl
  by_cases k4 : k = 4
  · subst k4
    rw [if_neg (by decide), if_neg (by decide), if_neg (by decide), if_neg (by decide), if_pos (by decide), tp_scr4]
    try simp (disch := omega) only [tp_dv10000, tp_dv1000, tp_dv10, tp_dv100, tp_rn10, tp_rn100, tp_rn10000, tp_rn1000, l2, l100]
    simp (disch := omega) only [z10]
    by_cases c0 : v % 10 = 0
    · rw [if_pos c0]
      by_cases c1 : v / 1000 % 10 = 0
      · rw [if_pos c1, tr_isSetting, tp_b2S, tp_if0]
        by_cases c : tp_rf 9 (nI (v / 10000)) (nI (v / 10 % 100)) 0 0 t = 0
        · have c' := tp_rf9.mp c
          rw [if_pos c', tp_tr_p (by simp [c0, c1]) c]
          rcases tp_is_N c' with ⟨q1, -⟩ | ⟨q1, -⟩
          · have q2 : v / 10000 = 0 := (z10 _ (by omega)).mp q1
            rw [tr_change (i := 16) (by rw [q2]; rfl) (by decide), tp_b2S, if_neg (tp_pos_nn (tp_r16 h.1) (by decide)), q2]; rfl
          · have q2 : v / 10000 = 1 := (tp_eq (by omega) (by decide)).mp (q1.trans tp_k1)
            rw [tr_change (i := 17) (by rw [q2]; rfl) (by decide), tp_b2S, if_neg (tp_pos_nn (tp_r17 h.1) (by decide)), q2]; rfl
        · rw [if_neg (fun z => c (tp_rf9.mpr z)), tp_tr_n (Or.inr c)]; rfl
      · rw [if_neg c1, tp_tr_n (Or.inl (by simp [c1]))]; rfl
    · rw [if_neg c0, tp_tr_n (Or.inl (by simp [c0]))]; rfl
  by_cases k5 : k = 5
  · subst k5
    rw [if_neg (by decide), if_neg (by decide), if_neg (by decide), if_neg (by decide), if_neg (by decide), if_pos (by decide), tp_scr5]
    try simp (disch := omega) only [tp_dv10000, tp_dv1000, tp_dv10, tp_dv100, tp_rn10, tp_rn100, tp_rn10000, tp_rn1000, l2, l100]
    simp (disch := omega) only [z10]
    by_cases c0 : v % 1000 = 0
    · rw [if_pos c0, tr_sends h, tp_b2S, tp_if0, show decide (v % 1000 = 0) = true from decide_eq_true c0]
      rcases tp_tr true 3 (nI (v / 10000)) (nI (v / 1000 % 10)) 0 0 t with ⟨_ | _, r⟩ <;> rfl
    · rw [if_neg c0, tp_tr_n (Or.inl (by simp [c0]))]; rfl
  by_cases k6 : k = 6
  · subst k6
    rw [if_neg (by decide), if_neg (by decide), if_neg (by decide), if_neg (by decide), if_neg (by decide), if_neg (by decide), if_pos (by decide), tp_scr6]
    try simp (disch := omega) only [tp_dv10000, tp_dv1000, tp_dv10, tp_dv100, tp_rn10, tp_rn100, tp_rn10000, tp_rn1000, l2, l100]
    by_cases c0 : 2 ≤ v % 10000
    · rw [if_pos c0, show decide (v % 10000 < 2) = false from decide_eq_false (by omega)]; rfl
    · rw [if_neg c0, show decide (v % 10000 < 2) = true from decide_eq_true (by omega), tr_isGallery h.1, tp_b2S, tp_if0]
      rcases e : tp_ig t (nI (v / 10000)) with _ | _
      · rfl
      · obtain ⟨n, n1, e1⟩ := (tp_ig_N h.1).mp e
        have e1 := (tp_eq (by omega) (by have := (tp_r0 h.1).2; omega)).mp e1
        have b0 := (tp_r0 h.1).2
        have hg : v / 10000 < 3 := by omega
        obtain ⟨d, d2, d1, -⟩ := tp_xx (tp_rga h.1 hg)
        rw [if_pos rfl, tr_depth hg, tp_b2S, tr_isLit h.1 d1 (by omega), tp_b2S, tp_if0, tp_if1]
        have : (nI (v % 10) = 1) = (v % 10 = 1) := tp_eq (by omega) (by decide)
        simp only [this]
        by_cases c1 : v % 10 = 1
        · rw [if_pos c1, show decide (v % 10 = 1) = true from decide_eq_true c1]
          rcases tp_lit t (nI (v / 10000)) (t (18 + 2 * (v / 10000))) with _ | _ <;> rfl
        · rw [if_neg c1, show decide (v % 10 = 1) = false from decide_eq_false c1]
          rcases tp_lit t (nI (v / 10000)) (t (18 + 2 * (v / 10000))) with _ | _ <;> rfl
  by_cases k7 : k = 7
  · subst k7
    rw [if_neg (by decide), if_neg (by decide), if_neg (by decide), if_neg (by decide), if_neg (by decide), if_neg (by decide), if_neg (by decide), if_pos (by decide), tp_scr7]
    try simp (disch := omega) only [tp_dv10000, tp_dv1000, tp_dv10, tp_dv100, tp_rn10, tp_rn100, tp_rn10000, tp_rn1000, l2, l100]
    by_cases c0 : 100 ≤ v % 10000
    · rw [if_pos c0, show decide (v % 10000 < 100) = false from decide_eq_false (by omega)]; rfl
    · rw [if_neg c0, show decide (v % 10000 < 100) = true from decide_eq_true (by omega), tr_isGallery h.1, tp_b2S, tp_if0]
      rcases e : tp_ig t (nI (v / 10000)) with _ | _
      · rfl
      · obtain ⟨n, n1, e1⟩ := (tp_ig_N h.1).mp e
        have e1 := (tp_eq (by omega) (by have := (tp_r0 h.1).2; omega)).mp e1
        have b0 := (tp_r0 h.1).2
        have hg : v / 10000 < 3 := by omega
        rw [if_pos rfl, tr_depth hg, tp_b2S]
        by_cases c1 : t (18 + 2 * (v / 10000)) < nI (v % 100)
        · rw [if_pos c1, show decide (t (18 + 2 * (v / 10000)) < nI (v % 100)) = true from decide_eq_true c1]; rfl
        · rw [if_neg c1, show decide (t (18 + 2 * (v / 10000)) < nI (v % 100)) = false from decide_eq_false c1]; rfl
  by_cases k8 : k = 8
  · subst k8
    rw [if_neg (by decide), if_neg (by decide), if_neg (by decide), if_neg (by decide), if_neg (by decide), if_neg (by decide), if_neg (by decide), if_neg (by decide), if_pos (by decide), tp_scr8]
    try simp (disch := omega) only [tp_dv10000, tp_dv1000, tp_dv10, tp_dv100, tp_rn10, tp_rn100, tp_rn10000, tp_rn1000, l2, l100]
    by_cases c0 : 100 ≤ v % 10000
    · rw [if_pos c0, show decide (v % 10000 < 100) = false from decide_eq_false (by omega)]; rfl
    · rw [if_neg c0, show decide (v % 10000 < 100) = true from decide_eq_true (by omega), tr_isLamp h.1, tp_b2S, tp_if0]
      rcases e : tp_il t (nI (v / 10000)) with _ | _
      · rfl
      · obtain ⟨n, n1, e1⟩ := (tp_il_N h.1).mp e
        have e1 := (tp_eq (by omega) (by have := (tp_r2 h.1).2; omega)).mp e1
        have b0 := (tp_r2 h.1).2
        rw [if_pos rfl, tr_la1 (by omega), tp_b2S]
        by_cases c1 : t (49 + 4 * (v / 10000)) < nI (v % 100)
        · rw [if_pos c1, show decide (t (49 + 4 * (v / 10000)) < nI (v % 100)) = true from decide_eq_true c1]; rfl
        · rw [if_neg c1, show decide (t (49 + 4 * (v / 10000)) < nI (v % 100)) = false from decide_eq_false c1]; rfl
  by_cases k9 : k = 9
  · subst k9
    rw [if_neg (by decide), if_neg (by decide), if_neg (by decide), if_neg (by decide), if_neg (by decide), if_neg (by decide), if_neg (by decide), if_neg (by decide), if_neg (by decide), tp_scr9]
    try simp (disch := omega) only [tp_dv10000, tp_dv1000, tp_dv10, tp_dv100, tp_rn10, tp_rn100, tp_rn10000, tp_rn1000, l2, l100, tp_wg]
    have : (10 ≤ nI v) = (10 ≤ v) := tp_le (by decide) (by omega)
    simp only [this]
    by_cases c0 : 10 ≤ v
    · rw [if_pos c0, show decide (v < 10) = false from decide_eq_false (by omega)]; rfl
    · rw [if_neg c0, show decide (v < 10) = true from decide_eq_true (by omega)]
      by_cases c1 : nI (v % 10) < t 8
      · rw [if_pos c1, show decide (nI (v % 10) < t 8) = true from decide_eq_true c1]; rfl
      · rw [if_neg c1, show decide (nI (v % 10) < t 8) = false from decide_eq_false c1]; rfl
  · have ek : (nI k).toInt = (k : Int) := tp_ti (by omega)
    have hs : tp_scr k v t = (false, t) := by unfold tp_scr; rw [if_neg k1, if_neg k2, if_neg k3, if_neg k4, if_neg k5, if_neg k6, if_neg k7, if_neg k8, if_neg k9]
    rw [hs, if_pos (show (nI k).toInt < 1 ∨ 9 < (nI k).toInt by rw [ek]; omega)]; rfl
end TPS
