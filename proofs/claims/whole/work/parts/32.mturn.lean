/-! Turns of the reference. -/
theorem tp_1p (n : Nat) : 1 + nI n = nI (1 + n) := nI_add 1 n
theorem tp_turn0 (q : Nat) (t : tp_R) : tp_turn 0 q t = tp_tt 1 (nI (1 + q % 30)) 0 0 0 t := by unfold tp_turn; rw [if_pos rfl]
theorem tp_turn1 (q : Nat) (t : tp_R) : tp_turn 1 q t = tp_tt 2 (nI (q % 3)) (nI (1 + q / 4 % 5)) 0 0 t := by unfold tp_turn; rw [if_neg (by decide), if_pos (by decide)]
theorem tp_turn2 (q : Nat) (t : tp_R) : tp_turn 2 q t = tp_tt 2 (nI (q % 3)) (nI (1 + q / 4 % 5)) 0 0 t := by unfold tp_turn; rw [if_neg (by decide), if_pos (by decide)]
theorem tp_turn3 (q : Nat) (t : tp_R) : tp_turn 3 q t = tp_tt 4 (nI (q % 3)) (nI (q / 4 % 30)) (nI (1 + q / 128 % 9)) (nI (q / 2048 % 100)) t := by unfold tp_turn; rw [if_neg (by decide), if_neg (by decide), if_pos rfl]
theorem tp_turn4 (q : Nat) (t : tp_R) : tp_turn 4 q t = tp_tt 5 (nI (q % 200)) 0 0 0 t := by unfold tp_turn; rw [if_neg (by decide), if_neg (by decide), if_neg (by decide), if_pos rfl]
theorem tp_turn5 (q : Nat) (t : tp_R) : tp_turn 5 q t = tp_tt 6 (nI (q % 8)) (nI (q / 8 % 3)) (nI (q / 32 % 40)) 0 t := by unfold tp_turn; rw [if_neg (by decide), if_neg (by decide), if_neg (by decide), if_neg (by decide), if_pos (by decide)]
theorem tp_turn6 (q : Nat) (t : tp_R) : tp_turn 6 q t = tp_tt 6 (nI (q % 8)) (nI (q / 8 % 3)) (nI (q / 32 % 40)) 0 t := by unfold tp_turn; rw [if_neg (by decide), if_neg (by decide), if_neg (by decide), if_neg (by decide), if_pos (by decide)]
theorem tp_turn7 (q : Nat) (t : tp_R) : tp_turn 7 q t = tp_tt 7 (nI (q % 8)) (nI (1 + q / 8 % 99)) 0 0 t := by unfold tp_turn; rw [if_neg (by decide), if_neg (by decide), if_neg (by decide), if_neg (by decide), if_neg (by decide), if_pos rfl]
theorem tp_turn8 (q : Nat) (t : tp_R) : tp_turn 8 q t = if q / 16 % 2 = 0 then tp_tt 9 0 (nI (q % 13)) 0 0 t else tp_tt 9 1 (nI (q % 2)) 0 0 t := by unfold tp_turn; rw [if_neg (by decide), if_neg (by decide), if_neg (by decide), if_neg (by decide), if_neg (by decide), if_neg (by decide), if_pos rfl]
theorem tp_turn9 (q : Nat) (t : tp_R) : tp_turn 9 q t = tp_tt 3 (nI (q % 6)) (nI (q / 8 % 3)) 0 0 t := by unfold tp_turn; rw [if_neg (by decide), if_neg (by decide), if_neg (by decide), if_neg (by decide), if_neg (by decide), if_neg (by decide), if_neg (by decide), if_pos rfl]
theorem tp_turnX {k : Nat} (hk : 10 ≤ k) (q : Nat) (t : tp_R) : tp_turn k q t = tp_tt 10 (nI (1 + q % 12)) 0 0 0 t := by unfold tp_turn; rw [if_neg (by omega), if_neg (by omega), if_neg (by omega), if_neg (by omega), if_neg (by omega), if_neg (by omega), if_neg (by omega), if_neg (by omega)]
section TPU
variable {u : tl_S} {m : Nat} {t : tp_R}
theorem tr_turnT (h : tp_Ok t) {k q : Nat} (hk : k < 5) (hq : q < 134217728) : f10_turnThing m (nI k) (nI q) (tp_w u (m + 3) t) = some (tp_w u (m + 3) (tp_turn k q t)) := by
  unfold f10_turnThing
  rw [tp_L]
  have hk' : k = 0 ∨ k = 1 ∨ k = 2 ∨ k = 3 ∨ k = 4 := by omega
  rcases hk' with rfl | rfl | rfl | rfl | rfl
  · rw [if_pos (by decide), tp_turn0]
    simp (disch := omega) only [tp_dv30, tp_rn30, tp_1p, tp_wg]
    by_cases c : 3 ≤ t 0
    · rw [if_pos c, tp_tt_n (fun z => by have := (tp_rf1.mp z).2; simp [c] at this)]
    · have hc : (!decide (3 ≤ t 0)) = true := by simp [c]
      rw [if_neg c, tr_galleryOn h.1 ((tp_ge_N (tp_r0 h.1).1 (by have := (tp_r0 h.1).2; omega) tp_k3 (by decide)).mp hc), tp_b2S, tp_tt_p (tp_rf1.mpr ⟨tp_iwN (L := 1) (B := 60) rfl rfl (by omega) (by omega) (by decide), hc⟩)]; rfl
  · rw [if_neg (by decide), if_neg (by decide), tp_turn1]
    simp (disch := omega) only [tp_dv3, tp_rn3, tp_dv4, tp_dv5, tp_rn5, tp_1p]
    rw [tr_canMiner h.1, tp_b2S, tp_if0]
    rcases c : (tp_ig t (nI (q % 3)) && !decide (6 ≤ t 1)) with _ | _
    · rw [if_neg (by decide), tp_tt_n (fun z => by have := tp_rf2.mp z; rw [this.1, this.2.2] at c; cases c)]
    · rw [Bool.and_eq_true] at c
      rw [if_pos rfl, tr_minerOn h.1 ((tp_ge_N (tp_r1 h.1).1 (by have := (tp_r1 h.1).2; omega) tp_k6 (by decide)).mp c.2), tp_b2S, tp_tt_p (tp_rf2.mpr ⟨c.1, tp_iwN (L := 1) (B := 5) rfl rfl (by omega) (by omega) (by decide), c.2⟩)]; rfl
  · rw [if_neg (by decide), if_neg (by decide), tp_turn2]
    simp (disch := omega) only [tp_dv3, tp_rn3, tp_dv4, tp_dv5, tp_rn5, tp_1p]
    rw [tr_canMiner h.1, tp_b2S, tp_if0]
    rcases c : (tp_ig t (nI (q % 3)) && !decide (6 ≤ t 1)) with _ | _
    · rw [if_neg (by decide), tp_tt_n (fun z => by have := tp_rf2.mp z; rw [this.1, this.2.2] at c; cases c)]
    · rw [Bool.and_eq_true] at c
      rw [if_pos rfl, tr_minerOn h.1 ((tp_ge_N (tp_r1 h.1).1 (by have := (tp_r1 h.1).2; omega) tp_k6 (by decide)).mp c.2), tp_b2S, tp_tt_p (tp_rf2.mpr ⟨c.1, tp_iwN (L := 1) (B := 5) rfl rfl (by omega) (by omega) (by decide), c.2⟩)]; rfl
  · rw [if_neg (by decide), if_pos (by decide), if_pos (by decide), tp_turn3]
    simp (disch := omega) only [tp_dv3, tp_rn3, tp_dv4, tp_dv30, tp_rn30, tp_dv128, tp_dv9, tp_rn9, tp_dv2048, tp_dv100, tp_rn100, tp_1p]
    rw [tr_canLamp h.1, tp_b2S, tp_if0]
    rcases c : (tp_ic t (nI (q % 3)) (nI (q / 4 % 30)) && !decide (8 ≤ t 2)) with _ | _
    · rw [if_neg (by decide), tp_tt_n (fun z => by have := tp_rf4.mp z; rw [this.1, this.2.2] at c; cases c)]
    · rw [Bool.and_eq_true] at c
      rw [if_pos rfl, tr_lampOn h.1 ((tp_ge_N (tp_r2 h.1).1 (by have := (tp_r2 h.1).2; omega) tp_k8 (by decide)).mp c.2), tp_b2S, tp_tt_p (tp_rf4.mpr ⟨c.1, by rw [tp_iwN (l := 1) (h := 9) (L := 1) (B := 9) rfl rfl (by omega) (by omega) (by decide), tp_iwN (l := 0) (h := 99) (L := 0) (B := 99) rfl rfl (by omega) (by omega) (by decide)]; rfl, c.2⟩)]; rfl
  · rw [if_neg (by decide), if_pos (by decide), if_neg (by decide), tp_turn4]
    simp (disch := omega) only [tp_dv200, tp_rn200, tp_wg]
    have hs := tp_st_le h.1 (show q % 200 ≤ 999 by omega)
    by_cases c : 9999 < t 4 + nI (q % 200)
    · rw [if_pos c, tp_tt_n (fun z => (hs.mp c) (tp_rf5.mp z).2)]
    · rw [if_neg c, tr_storeOn, tp_b2S, tp_tt_p (tp_rf5.mpr ⟨tp_iwN (L := 0) (B := 999) rfl rfl (by omega) (by omega) (by decide), Decidable.not_not.mp (fun z => c (hs.mpr z))⟩)]; rfl
theorem tr_turnO (h : tp_Ok t) {k q : Nat} (hk : 5 ≤ k ∧ k < 10) (hq : q < 134217728) : f10_turnOrder m (nI k) (nI q) (tp_w u (m + 3) t) = some (tp_w u (m + 3) (tp_turn k q t)) := by
  have hc8 : (!decide (6 ≤ t 8)) = true → tp_cl (t 8) < 6 := (tp_ge_N (tp_r8 h.1).1 (by have := (tp_r8 h.1).2; omega) tp_k6 (by decide)).mp
  unfold f10_turnOrder
  have hk' : k = 5 ∨ k = 6 ∨ k = 7 ∨ k = 8 ∨ k = 9 := by omega
  rcases hk' with rfl | rfl | rfl | rfl | rfl
  · rw [if_neg (by decide), tp_turn5]
    simp (disch := omega) only [tp_dv8, tp_rn8, tp_dv3, tp_rn3, tp_dv32, tp_dv40, tp_rn40]
    rw [tr_canHang h.1, tp_b2S, tp_if0]
    by_cases c : tp_rf 6 (nI (q % 8)) (nI (q / 8 % 3)) (nI (q / 32 % 40)) 0 t = 0
    · have c' := tp_rf6.mp c
      rw [if_pos c', tr_orderOn h.1 (hc8 (by rw [Bool.and_eq_true] at c'; exact c'.2)), tp_b2S, tp_tt_p c]; rfl
    · rw [if_neg (fun z => c (tp_rf6.mpr z)), tp_tt_n c]
  · rw [if_neg (by decide), tp_turn6]
    simp (disch := omega) only [tp_dv8, tp_rn8, tp_dv3, tp_rn3, tp_dv32, tp_dv40, tp_rn40]
    rw [tr_canHang h.1, tp_b2S, tp_if0]
    by_cases c : tp_rf 6 (nI (q % 8)) (nI (q / 8 % 3)) (nI (q / 32 % 40)) 0 t = 0
    · have c' := tp_rf6.mp c
      rw [if_pos c', tr_orderOn h.1 (hc8 (by rw [Bool.and_eq_true] at c'; exact c'.2)), tp_b2S, tp_tt_p c]; rfl
    · rw [if_neg (fun z => c (tp_rf6.mpr z)), tp_tt_n c]
  · rw [if_pos (by decide), if_pos (by decide), tp_turn7]
    simp (disch := omega) only [tp_dv8, tp_rn8, tp_dv99, tp_rn99, tp_1p]
    rw [tr_canFill h.1, tp_b2S, tp_if0]
    by_cases c : tp_rf 7 (nI (q % 8)) (nI (1 + q / 8 % 99)) 0 0 t = 0
    · have c' := tp_rf7.mp c
      rw [if_pos c', tr_orderOn h.1 (hc8 (by rw [Bool.and_eq_true] at c'; exact c'.2)), tp_b2S, tp_tt_p c]; rfl
    · rw [if_neg (fun z => c (tp_rf7.mpr z)), tp_tt_n c]
  · rw [if_pos (by decide), if_neg (by decide), if_pos (by decide), tp_turn8]
    unfold f10_turnOrder_p152
    simp (disch := omega) only [tp_dv16, tp_dv2, tp_rn2, tp_dv13, tp_rn13, tp_wg]
    have z0 : (nI (q / 16 % 2) = 0) = (q / 16 % 2 = 0) := tp_eq (by omega) (by decide)
    simp only [z0]
    have g16 : ¬ ((16 : Int32) < 0 ∨ 104 ≤ (16 : Int32).toNatClampNeg) := by decide
    have e16 : (16 : Int32).toNatClampNeg = 16 := by decide
    by_cases c : q / 16 % 2 = 0
    · have hr : tp_rf 9 0 (nI (q % 13)) 0 0 t = 0 := tp_rf9.mpr (by unfold tp_is; rw [if_pos rfl]; exact tp_iwN (L := 0) (B := 12) rfl rfl (by omega) (by omega) (by decide))
      simp only [if_pos c]
      rw [tl_gs g16, e16, tp_L, tp_wu, tp_L, tp_wu, tp_wg, tp_ui, tp_tt_p hr]; rfl
    · have hr : tp_rf 9 1 (nI (q % 2)) 0 0 t = 0 := tp_rf9.mpr (by unfold tp_is; rw [if_neg (by decide), if_pos rfl]; exact tp_iwN (L := 0) (B := 1) rfl rfl (by omega) (by omega) (by decide))
      simp only [if_neg c]
      rw [tl_gs g16, e16, tp_L, tp_wu, tp_ui, tp_L, tp_wu, tp_tt_p hr]; rfl
  · rw [if_pos (by decide), if_neg (by decide), if_neg (by decide), tp_turn9]
    simp (disch := omega) only [tp_dv6, tp_rn6, tp_dv8, tp_dv3, tp_rn3]
    rw [tr_sends h, tp_b2S]
    congr 2
    unfold tp_tr tp_tt
    by_cases c : tp_rf 3 (nI (q % 6)) (nI (q / 8 % 3)) 0 0 t = 0
    · rw [if_pos (by simp [c]), if_pos c]
    · rw [if_neg (by simp [c]), if_neg c]
end TPU
