/-! Calls that are refused by their arguments. -/
section TZF
variable {a : Nat} {U : tz_U} {x y z w : Int32}
theorem rF_act {q t : Nat} {A B C D : Int32} (h : tp_rf q A B C D (U a).1 = t) (ht : t ≠ 0) : tz_o a (tz_act q A B C D (U a)) U = some (tz_an t 0, U) := by
  unfold tz_act
  rw [if_neg (by rw [h]; exact ht), h]
  exact tz_ot
theorem rF_0 (h : tp_iw x 0 255 = false) : fL_call a 0 x y z U = some (-9999002, U) := by
  rw [gc_0]
  unfold fL_tryAppend tz_append
  rw [if_neg (show ¬ tp_iw x 0 255 = true by rw [h]; decide)]
  exact tz_ot
theorem rF_2 (h : tp_iw x 0 12 = false) : fL_call a 2 x y z U = some (-9999002, U) := by
  rw [gc_2]
  unfold fL_tryAbout tz_about
  rw [if_neg (show ¬ tp_iw x 0 12 = true by rw [h]; decide)]
  exact tz_ot
theorem rF_3i (h : tp_ig (U a).1 x = false) : fL_call a 3 x y z U = some (-9999001, U) := by
  rw [gc_3]
  unfold fL_tryTold tz_told
  rw [if_neg (show ¬ tp_ig (U a).1 x = true by rw [h]; decide)]
  exact tz_ot
theorem rF_3a (h : tp_ig (U a).1 x = true) (h2 : tp_iw y 0 5 = false) : fL_call a 3 x y z U = some (-9999002, U) := by
  rw [gc_3]
  unfold fL_tryTold tz_told
  rw [if_pos h, if_neg (show ¬ tp_iw y 0 5 = true by rw [h2]; decide)]
  exact tz_ot
theorem rF_4i (h : tp_im (U a).1 x = false) : fL_call a 4 x y z U = some (-9999001, U) := by
  rw [gc_4]
  unfold fL_tryWorker tz_worker
  rw [if_neg (show ¬ tp_im (U a).1 x = true by rw [h]; decide)]
  exact tz_ot
theorem rF_4a (h : tp_im (U a).1 x = true) (h2 : tp_iw y 0 3 = false) : fL_call a 4 x y z U = some (-9999002, U) := by
  rw [gc_4]
  unfold fL_tryWorker tz_worker
  rw [if_pos h, if_neg (show ¬ tp_iw y 0 3 = true by rw [h2]; decide)]
  exact tz_ot
theorem rF_5i (h : tp_il (U a).1 x = false) : fL_call a 5 x y z U = some (-9999001, U) := by
  rw [gc_5]
  unfold fL_tryGlow tz_glow
  rw [if_neg (show ¬ tp_il (U a).1 x = true by rw [h]; decide)]
  exact tz_ot
theorem rF_5a (h : tp_il (U a).1 x = true) (h2 : tp_iw y 0 4 = false) : fL_call a 5 x y z U = some (-9999002, U) := by
  rw [gc_5]
  unfold fL_tryGlow tz_glow
  rw [if_pos h, if_neg (show ¬ tp_iw y 0 4 = true by rw [h2]; decide)]
  exact tz_ot
theorem rF_6 (h : tp_iw x 0 3 = false) : fL_call a 6 x y z U = some (-9999002, U) := by
  rw [gc_6]
  unfold fL_tryLad tz_lad
  rw [if_neg (show ¬ tp_iw x 0 3 = true by rw [h]; decide)]
  exact tz_ot
theorem rF_7i (h : tp_io (U a).1 x = false) : fL_call a 7 x y z U = some (-9999001, U) := by
  rw [gc_7]
  unfold fL_tryOrder tz_order
  rw [if_neg (show ¬ tp_io (U a).1 x = true by rw [h]; decide)]
  exact tz_ot
theorem rF_7a (h : tp_io (U a).1 x = true) (h2 : tp_iw y 0 3 = false) : fL_call a 7 x y z U = some (-9999002, U) := by
  rw [gc_7]
  unfold fL_tryOrder tz_order
  rw [if_pos h, if_neg (show ¬ tp_iw y 0 3 = true by rw [h2]; decide)]
  exact tz_ot
theorem rF_8i (h : tp_ig (U a).1 x = false) : fL_call a 8 x y z U = some (-9999001, U) := by
  rw [gc_8]
  unfold fL_tryLit tz_lit
  rw [if_neg (show ¬ tp_ig (U a).1 x = true by rw [h]; decide)]
  exact tz_ot
theorem rF_8a (h : tp_ig (U a).1 x = true) (h2 : tp_iw y 0 1 = false) : fL_call a 8 x y z U = some (-9999002, U) := by
  rw [gc_8]
  unfold fL_tryLit tz_lit
  rw [if_pos h, if_neg (show ¬ tp_iw y 0 1 = true by rw [h2]; decide)]
  exact tz_ot
theorem rF_9a (h : tp_iw x 1 60 = false) : fL_call a 9 x y z U = some (-9999002, U) := gc_9.trans (rF_act (q := 1) (t := 2) (show tp_ro true (tp_iw x 1 60) _ = 2 by rw [h]; rfl) (by decide))
theorem rF_9s (h : tp_iw x 1 60 = true) (h2 : ¬ (U a).1 0 < 3) : fL_call a 9 x y z U = some (-9999003, U) := gc_9.trans (rF_act (q := 1) (t := 3) (show tp_ro true (tp_iw x 1 60) (!decide (3 ≤ (U a).1 0)) = 3 by
  rw [h, decide_eq_true (show 3 ≤ (U a).1 0 by rw [tp_lei]; rw [tp_lti] at h2; omega)]; rfl) (by decide))
theorem rF_10i (h : tp_ig (U a).1 x = false) : fL_call a 10 x y z U = some (-9999001, U) := gc_10.trans (rF_act (q := 2) (t := 1) (show tp_ro (tp_ig (U a).1 x) _ _ = 1 by rw [h]; rfl) (by decide))
theorem rF_10a (h : tp_ig (U a).1 x = true) (h2 : tp_iw y 1 5 = false) : fL_call a 10 x y z U = some (-9999002, U) := gc_10.trans (rF_act (q := 2) (t := 2) (show tp_ro (tp_ig (U a).1 x) (tp_iw y 1 5) _ = 2 by rw [h, h2]; rfl) (by decide))
theorem rF_11 (h : (tp_im (U a).1 x && tp_ig (U a).1 y) = false) : fL_call a 11 x y z U = some (-9999001, U) := gc_11.trans (rF_act (q := 3) (t := 1) (show tp_ro (tp_im (U a).1 x && tp_ig (U a).1 y) true true = 1 by rw [h]; rfl) (by decide))
theorem rF_li (h : tp_ic (U a).1 x y = false) : fL_lamps a x y z w U = some (-9999001, U) := rF_act (q := 4) (t := 1) (show tp_ro (tp_ic (U a).1 x y) _ _ = 1 by rw [h]; rfl) (by decide)
theorem rF_la (h : tp_ic (U a).1 x y = true) (h2 : (tp_iw z 1 9 && tp_iw w 0 99) = false) : fL_lamps a x y z w U = some (-9999002, U) := rF_act (q := 4) (t := 2) (show tp_ro (tp_ic (U a).1 x y) (tp_iw z 1 9 && tp_iw w 0 99) _ = 2 by rw [h, h2]; rfl) (by decide)
theorem rF_12 (h : tp_iw x 0 999 = false) : fL_call a 12 x y z U = some (-9999002, U) := gc_12.trans (rF_act (q := 5) (t := 2) (show tp_ro true (tp_iw x 0 999) _ = 2 by rw [h]; rfl) (by decide))
theorem rF_13i (h : (tp_il (U a).1 x && tp_ic (U a).1 y z) = false) : fL_call a 13 x y z U = some (-9999001, U) := gc_13.trans (rF_act (q := 6) (t := 1) (show tp_ro (tp_il (U a).1 x && tp_ic (U a).1 y z) true _ = 1 by rw [h]; rfl) (by decide))
theorem rF_13s (h : (tp_il (U a).1 x && tp_ic (U a).1 y z) = true) (h2 : 6 ≤ (U a).1 8) : fL_call a 13 x y z U = some (-9999003, U) := gc_13.trans (rF_act (q := 6) (t := 3) (show tp_ro (tp_il (U a).1 x && tp_ic (U a).1 y z) true (!decide (6 ≤ (U a).1 8)) = 3 by rw [h, decide_eq_true h2]; rfl) (by decide))
theorem rF_14i (h : tp_il (U a).1 x = false) : fL_call a 14 x y z U = some (-9999001, U) := gc_14.trans (rF_act (q := 7) (t := 1) (show tp_ro (tp_il (U a).1 x) _ _ = 1 by rw [h]; rfl) (by decide))
theorem rF_14a (h : tp_il (U a).1 x = true) (h2 : tp_iw y 1 99 = false) : fL_call a 14 x y z U = some (-9999002, U) := gc_14.trans (rF_act (q := 7) (t := 2) (show tp_ro (tp_il (U a).1 x) (tp_iw y 1 99) _ = 2 by rw [h, h2]; rfl) (by decide))
theorem rF_14s (h : tp_il (U a).1 x = true) (h2 : tp_iw y 1 99 = true) (h3 : 6 ≤ (U a).1 8) : fL_call a 14 x y z U = some (-9999003, U) := gc_14.trans (rF_act (q := 7) (t := 3) (show tp_ro (tp_il (U a).1 x) (tp_iw y 1 99) (!decide (6 ≤ (U a).1 8)) = 3 by rw [h, h2, decide_eq_true h3]; rfl) (by decide))
theorem rF_15 (h : tp_io (U a).1 x = false) : fL_call a 15 x y z U = some (-9999001, U) := gc_15.trans (rF_act (q := 8) (t := 1) (show tp_ro (tp_io (U a).1 x) true _ = 1 by rw [h]; rfl) (by decide))
theorem rF_16 (h : tp_is x y = false) : fL_call a 16 x y z U = some (-9999002, U) := gc_16.trans (rF_act (q := 9) (t := 2) (show tp_ro true (tp_is x y) true = 2 by rw [h]; rfl) (by decide))
theorem rF_17 (h : tp_iw x 1 60 = false) : fL_call a 17 x y z U = some (-9999002, U) := gc_17.trans (rF_act (q := 10) (t := 2) (show tp_ro true (tp_iw x 1 60) true = 2 by rw [h]; rfl) (by decide))
theorem rF_19 (h : tp_ig (U a).1 x = false) : fL_call a 19 x y z U = some (-9999001, U) := by
  rw [gc_19]
  unfold fL_tryDark tz_dark
  rw [if_neg (show ¬ tp_ig (U a).1 x = true by rw [h]; decide)]
  exact tz_ot
theorem rF_20i (h : tp_ig (U a).1 x = false) : fL_call a 20 x y z U = some (-9999001, U) := by
  rw [gc_20]
  unfold fL_tryDeep tz_deep
  rw [if_neg (show ¬ tp_ig (U a).1 x = true by rw [h]; decide)]
  exact tz_ot
theorem rF_20a (h : tp_ig (U a).1 x = true) (h2 : tp_iw y 1 200 = false) : fL_call a 20 x y z U = some (-9999002, U) := by
  rw [gc_20]
  unfold fL_tryDeep tz_deep
  rw [if_pos h, if_neg (show ¬ tp_iw y 1 200 = true by rw [h2]; decide)]
  exact tz_ot
theorem rF_best {t : Nat} (h : tp_ro (tp_il (U a).1 x && tp_ig (U a).1 y) (tp_iw z 1 100) (!decide (6 ≤ (U a).1 8)) = t) (ht : t ≠ 0) : fL_call a 21 x y z U = some (tz_an t 0, U) := by
  rw [gc_21]
  unfold fL_tryBest tz_best
  rw [h, tz_ot]
  unfold tz_an
  rw [if_neg ht, if_neg ht]
theorem rF_21i (h : (tp_il (U a).1 x && tp_ig (U a).1 y) = false) : fL_call a 21 x y z U = some (-9999001, U) := rF_best (t := 1) (by rw [h]; rfl) (by decide)
theorem rF_21a (h : (tp_il (U a).1 x && tp_ig (U a).1 y) = true) (h2 : tp_iw z 1 100 = false) : fL_call a 21 x y z U = some (-9999002, U) := rF_best (t := 2) (by rw [h, h2]; rfl) (by decide)
theorem rF_21s (h : (tp_il (U a).1 x && tp_ig (U a).1 y) = true) (h2 : tp_iw z 1 100 = true) (h3 : 6 ≤ (U a).1 8) : fL_call a 21 x y z U = some (-9999003, U) := rF_best (t := 3) (by rw [h, h2, decide_eq_true h3]; rfl) (by decide)
theorem rF_22 (h : tp_iw x 0 1 = false) : fL_call a 22 x y z U = some (-9999001, U) := by
  rw [gc_22]
  unfold fL_tryKeep tz_keep
  rw [if_neg (show ¬ tp_iw x 0 1 = true by rw [h]; decide)]
  exact tz_ot
theorem rF_23 (h : tp_iw x 0 1 = false) : fL_call a 23 x y z U = some (-9999001, U) := by
  rw [gc_23]
  unfold fL_tryBack tz_back
  rw [if_neg (show ¬ tp_iw x 0 1 = true by rw [h]; decide)]
  exact tz_ot
theorem rF_w (h : (tp_ic (U a).1 x y && tp_ic (U a).1 z w) = false) : fL_ways a x y z w U = some (-9999001, U) := by
  unfold fL_ways tz_steps
  rw [if_neg (show ¬ (tp_ic (U a).1 x y && tp_ic (U a).1 z w) = true by rw [h]; decide)]
  exact tz_ot
theorem rF_sim {s : Int64} (h : tp_iw x 1 60 = false) : fL_doSimulate a s x U = some (-9999002, U) := by
  unfold fL_doSimulate tz_sim
  rw [if_neg (show ¬ tp_iw x 1 60 = true by rw [h]; decide)]
  exact tz_ot
theorem rF_scr {s : Int64} (h : x = 0 ∨ (x = 1 ∧ ¬ s < 1000000)) : fL_doScript a x s U = some (-9999002, U) := by
  unfold fL_doScript tz_script
  rw [if_pos h]
  exact tz_ot
end TZF
/-! numbers that are out of a range -/
theorem tz_iw_hi {lo : Int32} {B k : Nat} (hk : k < 2147483648) (h : B < k) : tp_iw (nI k) lo (nI B) = false := by
  unfold tp_iw
  rw [decide_eq_true (show nI B < nI k by rw [tp_lt (by omega) hk]; exact h), Bool.not_true, Bool.and_false]
theorem tz_iw_lo {x lo hi : Int32} (h : x < lo) : tp_iw x lo hi = false := by
  unfold tp_iw
  rw [decide_eq_true h]; rfl
theorem tz_iw_in {L B k : Nat} (hB : B < 2147483648) (h1 : L ≤ k) (h2 : k ≤ B) : tp_iw (nI k) (nI L) (nI B) = true := by
  unfold tp_iw
  rw [decide_eq_false (show ¬ nI k < nI L by rw [tp_lt (by omega) (by omega)]; omega), decide_eq_false (show ¬ nI B < nI k by rw [tp_lt (by omega) (by omega)]; omega)]; rfl
/-- no index of a row of M -/
def tz_nb (M : Nat) (x : Int32) : Prop := x < 0 ∨ ∃ k, M ≤ k ∧ k < 2147483648 ∧ x = nI k
theorem tz_nb_f {M : Nat} {x m : Int32} (hm : m = nI M) (hM : M < 2147483648) (h : tz_nb M x) : (!decide (x < 0) && !decide (m ≤ x)) = false := by
  rcases h with h | ⟨k, h1, h2, rfl⟩
  · rw [decide_eq_true h]; rfl
  · rw [hm, decide_eq_true (show nI M ≤ nI k by rw [tp_le hM h2]; exact h1), Bool.not_true, Bool.and_false]
theorem tz_m1k {k : Nat} (hk : k < 1000000) : (-1 : Int32) - nI k < 0 := by
  rw [tp_lti, tp_tsub (by rw [tp_m1i, tp_ti (by omega)]; omega) (by rw [tp_m1i, tp_ti (by omega)]; omega), tp_m1i, tp_ti (by omega), show (0 : Int32).toInt = 0 from rfl]
  omega
theorem tz_m1l : (-1 : Int32) < 0 := by decide
section TZG
variable {a n : Nat} {U : tz_U} {T G n1 nl K : Nat} {x7 x8 x9 : Int32}
/-- what refuses stands on -/
def tz_RF (a n : Nat) (U : tz_U) (G n1 nl K : Nat) : Prop := n < 100000 ∧ tp_Ok (U a).1 ∧ 0 < G ∧ G ≤ 3 ∧ n1 ≤ 6 ∧ nl ≤ 8 ∧ K ≤ 6 ∧ (U a).1 0 = nI G ∧ (U a).1 1 = nI n1 ∧ (U a).1 2 = nI nl ∧ (U a).1 8 = nI K ∧ tp_ic (U a).1 0 0 = true
theorem tz_q9 (n : Nat) (h : n < 100000) : nI n - nI n / 9 * 9 = nI (n % 9) := pk_rem (d := 9) (by omega) (by decide) (by decide)
theorem tz_q2 (n : Nat) (h : n < 100000) : nI n - nI n / 2 * 2 = nI (n % 2) := pk_rem (d := 2) (by omega) (by decide) (by decide)
theorem tz_q50 (n : Nat) (h : n < 100000) : nI n - nI n / 50 * 50 = nI (n % 50) := pk_rem (d := 50) (by omega) (by decide) (by decide)
theorem tz_q99 (n : Nat) (h : n < 100000) : nI n - nI n / 99 * 99 = nI (n % 99) := pk_rem (d := 99) (by omega) (by decide) (by decide)
theorem tz_ga {r : tp_R} {g : Int32} (h : tp_ic r g 0 = true) : tp_ig r g = true := by
  unfold tp_ic at h
  rw [Bool.and_eq_true] at h
  exact h.1
theorem tz_if2 {P : Option (Int32 × tz_U) → Prop} {c : Prop} [Decidable c] {x y : Option (Int32 × tz_U)} (h1 : P x) (h2 : P y) : P (if c then x else y) := by
  by_cases h : c
  · rw [if_pos h]; exact h1
  · rw [if_neg h]; exact h2
theorem tz_1161 (h : tz_RF a n U G n1 nl K) : fL_refuses_p1161 a (nI n) (nI K) U = some (1, U) := by
  obtain ⟨hn, hk, G0, G3, n6, l8, K6, e0, e1, e2, e8, ec⟩ := h
  unfold fL_refuses_p1161
  by_cases z : nI K = 0
  · rw [if_pos z]
  · rw [tp_k0, tp_eq (by omega) (by decide)] at z
    have o : tp_io (U a).1 0 = true := tz_io (g := 0) hk.1 (by rw [e8, tz_cn (by omega)]; omega)
    rw [if_neg (by rw [tp_k0, tp_eq (by omega) (by decide)]; exact z), tz_q9 n hn, show (4 : Int32) + nI (n % 9) = nI (4 + n % 9) from nI_add 4 _, rF_7a o (tz_iw_hi (B := 3) (by omega) (by omega)), tp_b2S, if_pos rfl]
theorem tz_1139 (h : tz_RF a n U G n1 nl K) : fL_refuses_p1139 a (nI n) (nI n1) (nI K) U = some (1, U) := by
  have hh := h
  obtain ⟨hn, hk, G0, G3, n6, l8, K6, e0, e1, e2, e8, ec⟩ := h
  unfold fL_refuses_p1139
  by_cases z : nI n1 = 0
  · rw [if_pos z]; exact tz_1161 hh
  · rw [tp_k0, tp_eq (by omega) (by decide)] at z
    have o : tp_im (U a).1 0 = true := tz_im (g := 0) hk.1 (by rw [e1, tz_cn (by omega)]; omega)
    rw [if_neg (by rw [tp_k0, tp_eq (by omega) (by decide)]; exact z), tz_q9 n hn, show (4 : Int32) + nI (n % 9) = nI (4 + n % 9) from nI_add 4 _, rF_4a o (tz_iw_hi (B := 3) (by omega) (by omega)), tp_b2S, if_pos rfl]
    exact tz_1161 hh
theorem tz_1115 (h : tz_RF a n U G n1 nl K) : fL_refuses_p1115 a (nI n) (nI G) (nI n1) (nI K) 1 U = some (1, U) := by
  have hh := h
  obtain ⟨hn, hk, G0, G3, n6, l8, K6, e0, e1, e2, e8, ec⟩ := h
  unfold fL_refuses_p1115
  rw [if_neg (by decide)]
  by_cases z : nI G < 3
  · rw [if_pos z]; exact tz_1139 hh
  · rw [if_neg z, rF_9s (by decide) (by rw [e0]; exact z), tp_b2S, if_pos rfl]
    exact tz_1139 hh
theorem tz_1051 (h : tz_RF a n U G n1 nl K) (hl : 0 < nl) {x6 : Int32} (h6 : tp_iw x6 1 100 = false) : fL_refuses_p1051 a (nI n) (nI G) (nI n1) (nI K) x6 0 0 21 a U = some (1, U) := by
  have hh := h
  obtain ⟨hn, hk, G0, G3, n6, l8, K6, e0, e1, e2, e8, ec⟩ := h
  have o : tp_il (U a).1 0 = true := tz_il (g := 0) hk.1 (by rw [e2, tz_cn (by omega)]; omega)
  have og : tp_ig (U a).1 0 = true := tz_ga ec
  unfold fL_refuses_p1051
  rw [rF_21a (by rw [o, og]; rfl) h6, tp_b2S, if_pos rfl]
  by_cases z : nI K < 6
  · rw [if_pos z]; exact tz_1115 hh
  · have z2 : 6 ≤ (U a).1 8 := by
      rw [e8, tp_lei]
      rw [tp_lti] at z
      omega
    rw [if_neg z, rF_13s (by rw [o, ec]; rfl) z2, tp_b2S, if_pos rfl, rF_14s o (by decide) z2, tp_b2S, if_pos rfl, rF_21s (by rw [o, og]; rfl) (by decide) z2, tp_b2S, if_pos rfl]
    exact tz_1115 hh
theorem tz_1020 (h : tz_RF a n U G n1 nl K) (hl : 0 < nl) {x6 : Int32} (h6 : tp_iw x6 1 99 = false) : fL_refuses_p1020 a (nI n) (nI G) (nI n1) (nI K) x6 0 14 a U = some (1, U) := by
  have hh := h
  obtain ⟨hn, hk, G0, G3, n6, l8, K6, e0, e1, e2, e8, ec⟩ := h
  have o : tp_il (U a).1 0 = true := tz_il (g := 0) hk.1 (by rw [e2, tz_cn (by omega)]; omega)
  unfold fL_refuses_p1020
  rw [rF_14a o h6, tp_b2S, if_pos rfl, tz_q9 n hn, show (101 : Int32) + nI (n % 9) = nI (101 + n % 9) from nI_add 101 _]
  exact tz_if2 (P := fun o => o = some (1, U)) (tz_1051 hh hl (by decide)) (tz_1051 hh hl (tz_iw_hi (B := 100) (by omega) (by omega)))
theorem tz_969 (h : tz_RF a n U G n1 nl K) : fL_refuses_p969 a (nI n) (nI G) (nI n1) (nI nl) (nI K) 1 U = some (1, U) := by
  have hh := h
  obtain ⟨hn, hk, G0, G3, n6, l8, K6, e0, e1, e2, e8, ec⟩ := h
  unfold fL_refuses_p969
  by_cases z : nI nl ≤ 0
  · rw [if_pos z]; exact tz_1115 hh
  · rw [if_neg z, if_neg (by decide)]
    rw [tp_k0, tp_le (by omega) (by decide)] at z
    have o : tp_il (U a).1 0 = true := tz_il (g := 0) hk.1 (by rw [e2, tz_cn (by omega)]; omega)
    rw [tz_q9 n hn, show (5 : Int32) + nI (n % 9) = nI (5 + n % 9) from nI_add 5 _, rF_5a o (tz_iw_hi (B := 4) (by omega) (by omega)), tp_b2S, if_pos rfl, show (100 : Int32) + nI (n % 9) = nI (100 + n % 9) from nI_add 100 _]
    exact tz_if2 (P := fun o => o = some (1, U)) (tz_1020 hh (by omega) (by decide)) (tz_1020 hh (by omega) (tz_iw_hi (B := 99) (by omega) (by omega)))
theorem tz_946 (h : tz_RF a n U G n1 nl K) : fL_refuses_p946 a (nI n) (nI G) (nI n1) (nI nl) (nI K) U = some (1, U) := by
  have hh := h
  obtain ⟨hn, hk, G0, G3, n6, l8, K6, e0, e1, e2, e8, ec⟩ := h
  unfold fL_refuses_p946
  rw [tz_q9 n hn, show (61 : Int32) + nI (n % 9) = nI (61 + n % 9) from nI_add 61 _, rF_sim (tz_iw_hi (B := 60) (by omega) (by omega)), tp_b2S, if_pos rfl]
  exact tz_969 hh
/-- no is no gallery, none no lamp, deep no cell of the gallery 0 -/
def tz_RG (a : Nat) (U : tz_U) (no none deep : Int32) : Prop := tp_ig (U a).1 no = false ∧ tp_il (U a).1 none = false ∧ tp_ic (U a).1 0 deep = false
theorem tz_ic_g {r : tp_R} {g c : Int32} (h : tp_ig r g = false) : tp_ic r g c = false := by unfold tp_ic; rw [h]; rfl
theorem tz_800 (h : tz_RF a n U G n1 nl K) (h2 : tz_RG a U x7 x8 x9) {v : Int32} (hv : tp_iw v 1 200 = false) : fL_refuses_p800 a (nI n) (nI G) (nI n1) (nI nl) (nI K) x7 x8 x9 v 0 20 a U = some (1, U) := by
  have hh := h
  obtain ⟨hn, hk, G0, G3, n6, l8, K6, e0, e1, e2, e8, ec⟩ := h
  obtain ⟨g1, g2, g3⟩ := h2
  have sc : ¬ (1000000 : Int64) + (nI n).toInt64 < 1000000 := by
    have e : (1000000 : Int64) + (nI n).toInt64 = lN (1000000 + n) := by
      rw [nI_l (by omega)]
      exact (Int64.ofNat_add _ _).symm
    rw [e, show (1000000 : Int64) = lN 1000000 from rfl, pk_lLT (by omega) (by decide)]
    omega
  unfold fL_refuses_p800
  rw [rF_20a (tz_ga ec) hv, tp_b2S, if_pos rfl, rF_21i (by rw [g2]; rfl), tp_b2S, if_pos rfl, rF_21i (by rw [g1, Bool.and_false]), tp_b2S, if_pos rfl, rF_w (by rw [tz_ic_g g1]; rfl), tp_b2S, if_pos rfl, rF_w (by rw [g3]; rfl), tp_b2S, if_pos rfl, rF_w (by rw [g3, Bool.and_false]), tp_b2S, if_pos rfl, tz_q50 n hn, show (2 : Int32) + nI (n % 50) = nI (2 + n % 50) from nI_add 2 _, rF_22 (tz_iw_hi (B := 1) (by omega) (by omega)), tp_b2S, if_pos rfl, tz_q9 n hn, rF_23 (tz_iw_lo (tz_m1k (by omega))), tp_b2S, if_pos rfl, rF_scr (Or.inl rfl), tp_b2S, if_pos rfl, rF_scr (Or.inr ⟨rfl, sc⟩), tp_b2S, if_pos rfl]
  exact tz_946 hh
theorem tz_738 (h : tz_RF a n U G n1 nl K) (h2 : tz_RG a U x7 x8 x9) {v : Int32} (hv : tp_iw v 1 60 = false) : fL_refuses_p738 a (nI n) (nI G) (nI n1) (nI nl) (nI K) x7 x8 x9 v 17 a U = some (1, U) := by
  have hn := h.1
  unfold fL_refuses_p738
  rw [rF_17 hv, tp_b2S, if_pos rfl, rF_19 h2.1, tp_b2S, if_pos rfl, rF_20i h2.1, tp_b2S, if_pos rfl, tz_q9 n hn, show (201 : Int32) + nI (n % 9) = nI (201 + n % 9) from nI_add 201 _]
  exact tz_if2 (P := fun o => o = some (1, U)) (tz_800 h h2 (by decide)) (tz_800 h h2 (tz_iw_hi (B := 200) (by omega) (by omega)))
theorem tz_690 (h : tz_RF a n U G n1 nl K) (h2 : tz_RG a U x7 x8 x9) {v : Int32} (hv : tp_iw v 0 1 = false) : fL_refuses_p690 a (nI n) (nI G) (nI n1) (nI nl) (nI K) x7 x8 x9 v 1 16 a U = some (1, U) := by
  have hn := h.1
  unfold fL_refuses_p690
  have s2 : tp_is (nI (2 + n % 9)) 0 = false := by
    unfold tp_is
    rw [if_neg (by rw [tp_k0, tp_eq (by omega) (by decide)]; omega), if_neg (by rw [tp_k1, tp_eq (by omega) (by decide)]; omega)]
  rw [rF_16 (show tp_is 1 v = false by unfold tp_is; rw [if_neg (by decide), if_pos rfl]; exact hv), tp_b2S, if_pos rfl, tz_q9 n hn, show (2 : Int32) + nI (n % 9) = nI (2 + n % 9) from nI_add 2 _, rF_16 s2, tp_b2S, if_pos rfl, show (61 : Int32) + nI (n % 9) = nI (61 + n % 9) from nI_add 61 _]
  exact tz_if2 (P := fun o => o = some (1, U)) (tz_738 h h2 (by decide)) (tz_738 h h2 (tz_iw_hi (B := 60) (by omega) (by omega)))
theorem tz_661 (h : tz_RF a n U G n1 nl K) (h2 : tz_RG a U x7 x8 x9) {v : Int32} (hv : tp_iw v 0 12 = false) : fL_refuses_p661 a (nI n) (nI G) (nI n1) (nI nl) (nI K) x7 x8 x9 v 0 16 a U = some (1, U) := by
  have hn := h.1
  unfold fL_refuses_p661
  rw [rF_16 (show tp_is 0 v = false by unfold tp_is; rw [if_pos rfl]; exact hv), tp_b2S, if_pos rfl, tz_q9 n hn, show (2 : Int32) + nI (n % 9) = nI (2 + n % 9) from nI_add 2 _]
  exact tz_if2 (P := fun o => o = some (1, U)) (tz_690 h h2 (by decide)) (tz_690 h h2 (tz_iw_hi (B := 1) (by omega) (by omega)))
theorem tz_550 (h : tz_RF a n U G n1 nl K) (h2 : tz_RG a U x7 x8 x9) {v : Int32} (hv : tp_iw v 0 999 = false) : fL_refuses_p550 a (nI n) (nI G) (nI n1) (nI nl) (nI K) x7 x8 x9 v 12 a U = some (1, U) := by
  have hh := h
  obtain ⟨hn, hk, G0, G3, n6, l8, K6, e0, e1, e2, e8, ec⟩ := h
  obtain ⟨g1, g2, g3⟩ := id h2
  have ob : tp_io (U a).1 (nI (K + n % 9)) = false := tz_nb_f e8 (by omega) (Or.inr ⟨_, by omega, by omega, rfl⟩)
  unfold fL_refuses_p550
  rw [rF_12 hv, tp_b2S, if_pos rfl, rF_13i (by rw [g2]; rfl), tp_b2S, if_pos rfl, rF_13i (by rw [tz_ic_g g1, Bool.and_false]), tp_b2S, if_pos rfl, rF_13i (by rw [g3, Bool.and_false]), tp_b2S, if_pos rfl, rF_14i g2, tp_b2S, if_pos rfl, tz_q9 n hn, nI_add, rF_15 ob, tp_b2S, if_pos rfl, show (13 : Int32) + nI (n % 9) = nI (13 + n % 9) from nI_add 13 _]
  exact tz_if2 (P := fun o => o = some (1, U)) (tz_661 hh h2 (by decide)) (tz_661 hh h2 (tz_iw_hi (B := 12) (by omega) (by omega)))
theorem tz_516 (h : tz_RF a n U G n1 nl K) (h2 : tz_RG a U x7 x8 x9) {v : Int32} (hv : tp_iw v 0 99 = false) : fL_refuses_p516 a (nI n) (nI G) (nI n1) (nI nl) (nI K) x7 x8 x9 v 5 0 0 a U = some (1, U) := by
  have hh := h
  obtain ⟨hn, hk, G0, G3, n6, l8, K6, e0, e1, e2, e8, ec⟩ := h
  unfold fL_refuses_p516
  rw [rF_la ec (by rw [hv, Bool.and_false]), tp_b2S, if_pos rfl, tz_q9 n hn, show (1000 : Int32) + nI (n % 9) = nI (1000 + n % 9) from nI_add 1000 _]
  exact tz_if2 (P := fun o => o = some (1, U)) (tz_550 hh h2 (tz_iw_lo (tz_m1k (by omega)))) (tz_550 hh h2 (tz_iw_hi (B := 999) (by omega) (by omega)))
theorem tz_486 (h : tz_RF a n U G n1 nl K) (h2 : tz_RG a U x7 x8 x9) {v : Int32} (hv : tp_iw v 1 9 = false) : fL_refuses_p486 a (nI n) (nI G) (nI n1) (nI nl) (nI K) x7 x8 x9 v 0 0 a U = some (1, U) := by
  have hh := h
  obtain ⟨hn, hk, G0, G3, n6, l8, K6, e0, e1, e2, e8, ec⟩ := h
  unfold fL_refuses_p486
  rw [rF_la ec (by rw [hv]; rfl), tp_b2S, if_pos rfl, tz_q9 n hn, show (100 : Int32) + nI (n % 9) = nI (100 + n % 9) from nI_add 100 _]
  exact tz_if2 (P := fun o => o = some (1, U)) (tz_516 hh h2 (by decide)) (tz_516 hh h2 (tz_iw_hi (B := 99) (by omega) (by omega)))
/-- and nobody is no miner -/
def tz_RH (a : Nat) (U : tz_U) (no nobody none deep : Int32) : Prop := tz_RG a U no none deep ∧ tp_im (U a).1 nobody = false
variable {xb : Int32}
theorem tz_399 (h : tz_RF a n U G n1 nl K) (h2 : tz_RH a U x7 xb x8 x9) {v : Int32} (hv : tp_iw v 1 5 = false) : fL_refuses_p399 a (nI n) (nI G) (nI n1) (nI nl) (nI K) x7 xb x8 x9 v 0 10 a U = some (1, U) := by
  have hh := h
  obtain ⟨hn, hk, G0, G3, n6, l8, K6, e0, e1, e2, e8, ec⟩ := h
  obtain ⟨h2, g4⟩ := h2
  obtain ⟨g1, g2, g3⟩ := id h2
  unfold fL_refuses_p399
  rw [rF_10a (tz_ga ec) hv, tp_b2S, if_pos rfl, rF_11 (by rw [g4]; rfl), tp_b2S, if_pos rfl, rF_11 (by rw [g1, Bool.and_false]), tp_b2S, if_pos rfl, rF_li (tz_ic_g g1), tp_b2S, if_pos rfl, rF_li g3, tp_b2S, if_pos rfl, tz_q9 n hn, show (10 : Int32) + nI (n % 9) = nI (10 + n % 9) from nI_add 10 _]
  exact tz_if2 (P := fun o => o = some (1, U)) (tz_486 hh h2 (by decide)) (tz_486 hh h2 (tz_iw_hi (B := 9) (by omega) (by omega)))
theorem tz_352 (h : tz_RF a n U G n1 nl K) (h2 : tz_RH a U x7 xb x8 x9) {v : Int32} (hv : tp_iw v 1 60 = false) : fL_refuses_p352 a (nI n) (nI G) (nI n1) (nI nl) (nI K) x7 xb x8 x9 v 9 a U = some (1, U) := by
  have hn := h.1
  unfold fL_refuses_p352
  rw [rF_9a hv, tp_b2S, if_pos rfl, rF_10i h2.1.1, tp_b2S, if_pos rfl, tz_q9 n hn, show (6 : Int32) + nI (n % 9) = nI (6 + n % 9) from nI_add 6 _]
  exact tz_if2 (P := fun o => o = some (1, U)) (tz_399 h h2 (by decide)) (tz_399 h h2 (tz_iw_hi (B := 5) (by omega) (by omega)))
theorem tz_332 (h : tz_RF a n U G n1 nl K) (h2 : tz_RH a U x7 xb x8 x9) : fL_refuses_p332 a (nI n) (nI G) (nI n1) (nI nl) (nI K) x7 xb x8 x9 U = some (1, U) := by
  have hn := h.1
  unfold fL_refuses_p332
  rw [tz_q9 n hn, show (61 : Int32) + nI (n % 9) = nI (61 + n % 9) from nI_add 61 _]
  exact tz_if2 (P := fun o => o = some (1, U)) (tz_352 h h2 (by decide)) (tz_352 h h2 (tz_iw_hi (B := 60) (by omega) (by omega)))
theorem tz_164 (h : tz_RF a n U G n1 nl K) (h2 : tz_RH a U x7 xb x8 x9) {v : Int32} (hv : tp_iw v 0 255 = false) : fL_refuses_p164 a (nI n) (nI G) (nI n1) (nI nl) (nI K) x7 xb x8 x9 v 0 a U = some (1, U) := by
  have hh := h
  have hh2 := h2
  obtain ⟨hn, hk, G0, G3, n6, l8, K6, e0, e1, e2, e8, ec⟩ := h
  obtain ⟨h2, g4⟩ := h2
  obtain ⟨g1, g2, g3⟩ := id h2
  have eg := tz_ga ec
  have ob : tp_io (U a).1 (nI (K + n % 9)) = false := tz_nb_f e8 (by omega) (Or.inr ⟨_, by omega, by omega, rfl⟩)
  unfold fL_refuses_p164
  rw [tz_q9 n hn, tz_q50 n hn, show (13 : Int32) + nI (n % 50) = nI (13 + n % 50) from nI_add 13 _, show (6 : Int32) + nI (n % 9) = nI (6 + n % 9) from nI_add 6 _, show (4 : Int32) + nI (n % 9) = nI (4 + n % 9) from nI_add 4 _, show (2 : Int32) + nI (n % 9) = nI (2 + n % 9) from nI_add 2 _, nI_add K]
  rw [rF_0 hv, tp_b2S, if_pos rfl, rF_2 (tz_iw_hi (B := 12) (by omega) (by omega)), tp_b2S, if_pos rfl, rF_3i g1, tp_b2S, if_pos rfl, rF_3a eg (tz_iw_hi (B := 5) (by omega) (by omega)), tp_b2S, if_pos rfl, rF_4i g4, tp_b2S, if_pos rfl, rF_5i g2, tp_b2S, if_pos rfl, rF_6 (tz_iw_hi (B := 3) (by omega) (by omega)), tp_b2S, if_pos rfl, rF_7i ob, tp_b2S, if_pos rfl, rF_8i g1, tp_b2S, if_pos rfl, rF_8a eg (tz_iw_hi (B := 1) (by omega) (by omega)), tp_b2S, if_pos rfl]
  exact tz_332 hh hh2
theorem tz_137 (h : tz_RF a n U G n1 nl K) (h2 : tz_RH a U x7 xb x8 x9) : fL_refuses_p137 a (nI n) (nI G) (nI n1) (nI nl) (nI K) x7 xb x8 x9 U = some (1, U) := by
  have hn := h.1
  unfold fL_refuses_p137
  rw [tz_q9 n hn, show (256 : Int32) + nI (n % 9) = nI (256 + n % 9) from nI_add 256 _]
  exact tz_if2 (P := fun o => o = some (1, U)) (tz_164 h h2 (tz_iw_lo (tz_m1k (by omega)))) (tz_164 h h2 (tz_iw_hi (B := 255) (by omega) (by omega)))
theorem tz_107 (h : tz_RF a n U G n1 nl K) (g1 : tp_ig (U a).1 x7 = false) (g4 : tp_im (U a).1 xb = false) (g2 : tp_il (U a).1 x8 = false) : fL_refuses_p107 a (nI n) (nI G) (nI n1) (nI nl) (nI K) x7 xb x8 U = some (1, U) := by
  have hh := h
  obtain ⟨hn, hk, G0, G3, n6, l8, K6, e0, e1, e2, e8, ec⟩ := h
  have hG : 0 < tp_cl ((U a).1 0) := by rw [e0, tz_cn (by omega)]; exact G0
  obtain ⟨d, d2, d1, d3⟩ := tp_xx (tp_rga hk.1 (show 0 < 3 by omega))
  have d1 : (U a).1 18 = nI d := d1
  have hc : ∀ y, tz_nb d y → tp_ic (U a).1 0 y = false := fun y hy => by
    have hb := tz_nb_f d1 (by omega) hy
    unfold tp_ic
    have e0' : tp_cl (0 : Int32) = 0 := rfl
    rw [e0']
    show (tp_ig (U a).1 0 && (!decide (y < 0) && !decide ((U a).1 18 ≤ y))) = false
    rw [hb, Bool.and_false]
  unfold fL_refuses_p107
  have e18 : fL_call a 3 0 0 0 U = some ((U a).1 (18 + 2 * 0), U) := gT_0 (g := 0) hk.1 hG
  have e18 : fL_call a 3 0 0 0 U = some (nI d, U) := by rw [e18]; exact congrArg (fun z => some (z, U)) d1
  rw [e18, tp_b2S, tz_q99 n hn, nI_add]
  exact tz_if2 (P := fun o => o = some (1, U)) (tz_137 hh ⟨⟨g1, g2, hc _ (Or.inl (tz_m1k (by omega)))⟩, g4⟩) (tz_137 hh ⟨⟨g1, g2, hc _ (Or.inr ⟨_, by omega, by omega, rfl⟩)⟩, g4⟩)
theorem tz_83 (h : tz_RF a n U G n1 nl K) (g1 : tp_ig (U a).1 x7 = false) (g4 : tp_im (U a).1 xb = false) : fL_refuses_p83 a (nI n) (nI G) (nI n1) (nI nl) (nI K) x7 xb U = some (1, U) := by
  have hh := h
  obtain ⟨hn, hk, G0, G3, n6, l8, K6, e0, e1, e2, e8, ec⟩ := h
  unfold fL_refuses_p83
  rw [tz_q99 n hn, nI_add]
  exact tz_if2 (P := fun o => o = some (1, U)) (tz_107 hh g1 g4 (tz_nb_f e2 (by omega) (Or.inl (tz_m1k (by omega))))) (tz_107 hh g1 g4 (tz_nb_f e2 (by omega) (Or.inr ⟨_, by omega, by omega, rfl⟩)))
theorem tz_60 (h : tz_RF a n U G n1 nl K) (g1 : tp_ig (U a).1 x7 = false) : fL_refuses_p60 a (nI n) (nI G) (nI n1) (nI nl) (nI K) x7 U = some (1, U) := by
  have hh := h
  obtain ⟨hn, hk, G0, G3, n6, l8, K6, e0, e1, e2, e8, ec⟩ := h
  unfold fL_refuses_p60
  rw [tz_q99 n hn, nI_add]
  exact tz_if2 (P := fun o => o = some (1, U)) (tz_83 hh g1 (tz_nb_f e1 (by omega) (Or.inl (tz_m1k (by omega))))) (tz_83 hh g1 (tz_nb_f e1 (by omega) (Or.inr ⟨_, by omega, by omega, rfl⟩)))
/-- refuses answers true, and the mine stands -/
theorem tz_refuses (hV : tz_V T (U a).1) (hn : n < 100000) : fL_refuses a (nI n) U = some (1, U) := by
  obtain ⟨⟨hk, hL, hO, hA, hC, D1, D2⟩, VG, -⟩ := hV
  have hr := hk.1
  obtain ⟨G, G2, G1, G3⟩ := tp_xx (tp_r0 hr)
  obtain ⟨n1, n12, n11, n13⟩ := tp_xx (tp_r1 hr)
  obtain ⟨nl, n2, n_1, n3⟩ := tp_xx (tp_r2 hr)
  obtain ⟨K, K2, K1, K3⟩ := tp_xx (tp_r8 hr)
  have G3 : tp_cl ((U a).1 0) = G := G3
  have hG : 0 < tp_cl ((U a).1 0) := by omega
  have gg : tp_ig (U a).1 0 = true := tz_ig (g := 0) hr hG
  obtain ⟨d, d2, d1, d3⟩ := tp_xx (tp_rga hr (show 0 < 3 by omega))
  have d3 : tz_d (U a).1 0 = d := d3
  have dp := (VG.2 0 hG).1
  have hic : tp_ic (U a).1 0 0 = true := by
    unfold tp_ic
    have e0' : tp_cl (0 : Int32) = 0 := rfl
    rw [gg, e0']
    have d1 : (U a).1 (18 + 2 * 0) = nI d := d1
    rw [d1, decide_eq_false (show ¬ (0 : Int32) < 0 by decide), decide_eq_false (show ¬ nI d ≤ 0 by rw [tp_k0, tp_le (by omega) (by decide)]; omega)]
    rfl
  have hF : tz_RF a n U G n1 nl K := ⟨hn, hk, by omega, G2, n12, n2, K2, G1, n11, n_1, K1, hic⟩
  unfold fL_refuses
  rw [gA_0, tp_b2S, gA_1, tp_b2S, gA_2, tp_b2S, gA_10, tp_b2S, G1, n11, n_1, K1, tz_q99 n hn, nI_add]
  exact tz_if2 (P := fun o => o = some (1, U)) (tz_60 hF (tz_nb_f G1 (by omega) (Or.inl (tz_m1k (by omega))))) (tz_60 hF (tz_nb_f G1 (by omega) (Or.inr ⟨_, by omega, by omega, rfl⟩)))
end TZG
