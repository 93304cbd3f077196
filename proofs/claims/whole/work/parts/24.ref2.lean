/-! What the reference's functions compute over its rows: the lad. -/
section TPQ
variable {u : tl_S} {b : Nat} {r : tp_R}
theorem tr_hard {g c : Int32} {w : tl_S} : f10_hard g c w = some (tp_hd g c, w) := rfl
theorem tr_between {g c g2 c2 : Int32} {w : tl_S} : f10_between g c g2 c2 w = some (tp_bt g c g2 c2, w) := by
  unfold f10_between tp_bt
  split
  · split <;> rfl
  · rfl
theorem tr_toMouth : f10_toMouth b (tp_w u b r) = some (tp_b01 (!decide (r 80 = 0) && decide (r 15 = 0)), tp_w u b r) := by
  unfold f10_toMouth
  rw [tr_or0, tp_b2S, tp_wg]
  by_cases c : r 80 = 0
  · rw [if_pos c]; simp [c]; rfl
  · rw [if_neg c]
    by_cases d : r 15 = 0
    · rw [if_pos d]; simp [c, d]; rfl
    · rw [if_neg d]; simp [c, d]; rfl
theorem tr_toTarget : f10_toTarget b (tp_w u b r) = some (tp_b01 (decide (r 80 = 0) && !decide (r 13 = -1)), tp_w u b r) := by
  unfold f10_toTarget
  rw [tr_or0, tp_b2S, tp_wg]
  by_cases c : r 80 = 0
  · rw [if_pos c]
    by_cases d : r 13 = -1
    · rw [if_pos d]; simp [c, d]; rfl
    · rw [if_neg d]; simp [c, d]; rfl
  · rw [if_neg c]; simp [c]; rfl
theorem tr_gg {l : Nat} (hl : l < 8) (e : r 81 = nI l) : f10_goalGallery b (tp_w u b r) = some (tp_gg r, tp_w u b r) := by
  unfold f10_goalGallery
  rw [tr_toMouth, tp_b2S, tp_if0]
  unfold tp_gg tp_cl
  rw [e, tp_cn (by omega)]
  by_cases c : r 80 = 0
  · rw [if_neg (by simp [c]), tr_toTarget, tp_b2S, tp_if0, if_pos c]
    by_cases d : r 13 = -1
    · rw [if_neg (by simp [d]), tr_or1, tp_b2S, e, tr_la2 hl, tp_b2S, if_pos d]
    · rw [if_pos (by simp [c, d]), tr_or2, tp_b2S, if_neg d]
  · rw [if_neg c]
    by_cases d : r 15 = 0
    · rw [if_pos (by simp [c, d]), if_pos d, tp_wg]
    · rw [if_neg (by simp [d]), tr_toTarget, tp_b2S, tp_if0, if_neg (by simp [c]), tr_or1, tp_b2S, e, tr_la2 hl, tp_b2S, if_neg d]
theorem tr_gc {l : Nat} (hl : l < 8) (e : r 81 = nI l) : f10_goalCell b (tp_w u b r) = some (tp_gc r, tp_w u b r) := by
  unfold f10_goalCell
  rw [tr_toMouth, tp_b2S, tp_if0]
  unfold tp_gc tp_cl
  rw [e, tp_cn (by omega)]
  by_cases c : r 80 = 0
  · rw [if_neg (by simp [c]), tr_toTarget, tp_b2S, tp_if0, if_pos c]
    by_cases d : r 13 = -1
    · rw [if_neg (by simp [d]), tr_or1, tp_b2S, e, tr_la3 hl, tp_b2S, if_pos d]
    · rw [if_pos (by simp [c, d]), tr_or3, tp_b2S, if_neg d]
  · rw [if_neg c]
    by_cases d : r 15 = 0
    · rw [if_pos (by simp [c, d]), if_pos d]
    · rw [if_neg (by simp [d]), tr_toTarget, tp_b2S, tp_if0, if_neg (by simp [c]), tr_or1, tp_b2S, e, tr_la3 hl, tp_b2S, if_neg d]
def tp_od' (k i : Nat) (r : tp_R) : tp_R := fun j => if 80 + 4 * k ≤ j ∧ j < i then r (j + 4) else r j
theorem tr_od_l {k n : Nat} {r0 : tp_R} (h8 : r0 8 = nI n) (hn : n ≤ 5) (hk : k ≤ 5) : ∀ (f i : Nat), 80 + 4 * k ≤ i → i ≤ 80 + 4 * n → 80 + 4 * n - i < f → f10_orderDone_p15 f b (nI i) (tp_w u b (tp_od' k i r0)) = some (tp_w u b (tp_od' k (80 + 4 * n) r0))
  | 0, _, _, _, h => absurd h (Nat.not_lt_zero _)
  | f + 1, i, h1, h2, h3 => by
    unfold f10_orderDone_p15
    have e8 : tp_od' k i r0 8 = nI n := by unfold tp_od'; rw [if_neg (by omega)]; exact h8
    simp (disch := omega) only [tp_wg, e8, tp_j80, tp_le]
    by_cases c : 80 + 4 * n ≤ i
    · rw [if_pos c, show i = 80 + 4 * n by omega]
    · rw [if_neg c]
      simp (disch := omega) only [tp_p4, tp_neg, false_or, tp_nleT, tp_gT, tp_cn, tp_L, tp_wu1, tp_w2, tp_wp, tp_wg, nI_1]
      have : tp_up (tp_od' k i r0) i (tp_od' k i r0 (i + 4)) = tp_od' k (i + 1) r0 := by
        funext j
        unfold tp_up tp_od'
        by_cases d : j = i
        · subst d
          rw [if_pos rfl, if_neg (by omega), if_pos (by omega)]
        · rw [if_neg d]
          by_cases e : 80 + 4 * k ≤ j ∧ j < i
          · rw [if_pos e, if_pos (by omega)]
          · rw [if_neg e, if_neg (by omega)]
      rw [this]
      exact tr_od_l h8 hn hk f (i + 1) (by omega) (by omega) (by omega)
theorem tr_od (h : tp_rng r) {k : Nat} (ho : k < tp_cl (r 8)) : f10_orderDone b (nI k) (tp_w u b r) = some (tp_w u b (tp_od k r)) := by
  obtain ⟨n, n2, n1, n3⟩ := tp_xx (tp_r8 h)
  unfold tp_cl at ho
  rw [n3] at ho
  unfold f10_orderDone
  have e8 : tp_up r 8 (nI (n - 1)) 8 = nI (n - 1) := tp_us _ _ _
  rw [tp_L, tp_wg, n1, tp_k1, tp_sb (by omega), tp_wu, tp_L, tp_j80]
  have e0 : tp_up r 8 (nI (n - 1)) = tp_od' k (80 + 4 * k) (tp_up r 8 (nI (n - 1))) := by
    funext j
    unfold tp_od'
    rw [if_neg (by omega)]
  rw [e0, tr_od_l e8 (by omega) (by omega) tl_F (80 + 4 * k) (by omega) (by omega) (by unfold tl_F; omega)]
  congr 2
  funext j
  unfold tp_od' tp_od tp_cl
  rw [n3, n1, tp_k1, tp_sb (by omega)]
  by_cases d : 80 + 4 * k ≤ j ∧ j < 80 + 4 * (n - 1)
  · rw [if_pos d, if_pos d, tp_un (by omega)]
  · rw [if_neg d, if_neg d]
theorem tr_pour {l : Nat} (hl : l < 8) : f10_pour b (nI l) (tp_w u b r) = some (tp_w u b (tp_pour l r)) := by
  unfold f10_pour tp_pour tp_pr1
  simp (disch := omega) only [tp_j48, tp_p1, tp_q48_1, tp_neg, false_or, tp_nleT, tp_gT, tp_cn, tp_L, tp_wu1, tp_w2, tp_wp, tp_wg, tp_us]
  by_cases c : r (49 + 4 * l) + r 14 ≤ 99
  · rw [if_pos c, if_pos c]
    unfold f10_pour_p37 tp_pr2
    simp (disch := omega) only [tp_neg, false_or, tp_nleT, tp_gT, tp_cn, tp_L, tp_wu1, tp_w2, tp_wp, tp_wg, tp_us, tp_un]
  · rw [if_neg c, if_neg c]
    unfold f10_pour_p37 tp_pr2
    simp (disch := omega) only [tp_neg, false_or, tp_nleT, tp_gT, tp_cn, tp_L, tp_wu1, tp_w2, tp_wp, tp_wg, tp_us, tp_un]
theorem tr_take : f10_takeOil b (tp_w u b r) = some (tp_w u b (tp_take r)) := by
  unfold f10_takeOil tp_take tp_tk1
  rw [tr_or2, tp_b2S, tp_wg]
  by_cases c : r 4 ≤ r 82
  · rw [if_pos c, if_pos c]
    unfold f10_takeOil_p24
    simp (disch := omega) only [tp_L, tp_wu1, tp_w2, tp_wp, tp_wg]
  · rw [if_neg c, if_neg c, tr_or2, tp_b2S]
    unfold f10_takeOil_p24
    simp (disch := omega) only [tp_L, tp_wu1, tp_w2, tp_wp, tp_wg]
theorem tr_handle (h : tp_Ok r) (ho : 0 < tp_cl (r 8)) : f10_handle b (tp_w u b r) = some (tp_w u b (tp_han r)) := by
  obtain ⟨⟨l, l2, l1, l3⟩, b1, b2, b3, b4, b5⟩ := (tp_Ok_ord h ho).imp_left tp_xx
  have b2' := (tp_r2 h.1).2
  obtain ⟨q1, -, -, -⟩ := tp_goal h ho
  unfold tp_cl at b1
  rw [l3] at b1
  have hl : l < 8 := by omega
  unfold f10_handle
  rw [tr_or1, tp_b2S, l1, tp_j48, tp_L, tr_toMouth, tp_b2S, tp_if0]
  unfold tp_han
  rw [show tp_cl (r 81) = l from l3]
  by_cases c : r 80 = 0
  · rw [if_neg (by simp [c]), tr_gg hl l1, tp_b2S, tp_L, tp_wu, tr_or0, tp_b2S, tp_un (by decide), if_pos c, tp_wg, tp_un (by decide), if_pos c]
    have eg : tp_gg r = if r 13 = -1 then r (50 + 4 * l) else r 82 := by unfold tp_gg; rw [if_pos c, show tp_cl (r 81) = l from l3]
    by_cases d : r 13 = -1
    · rw [if_pos d] at eg
      rw [if_pos d, if_pos d, eg, l1]
      simp (disch := omega) only [tp_p2, tp_p3, tp_q48_2, tp_q48_3, tp_neg, false_or, tp_nleT, tp_gT, tp_cn, tp_L, tp_wu1, tp_w2, tp_wp, tp_wg]
    · rw [if_neg d] at eg
      rw [if_neg d, if_neg d, eg]
      simp (disch := omega) only [tp_p2, tp_p3, tp_q48_2, tp_q48_3, tp_neg, false_or, tp_nleT, tp_gT, tp_cn, tp_L, tp_wu1, tp_w2, tp_wp, tp_wg, tr_or2, tr_or3, tp_b2S, tp_un]
      have rx : tp_rng (tp_up (tp_up (tp_up (tp_up r 11 (r 82)) (50 + 4 * l) (r 82)) (51 + 4 * l) (r 83)) 13 (-1)) := by
        have g1 := tp_row h.1 (show 0 < 6 by decide)
        have g2 := (tp_roc h.1 (show 0 < 6 by decide)).resolve_left (b2 c).2
        exact tp_rng_up (tp_rng_up (tp_rng_up (tp_rng_up h.1 (tp_inN rfl g1.1 (b2 c).1)) (tp_inM (tp_kd_lg l hl) g1.1 (b2 c).1)) (tp_inM (tp_kd_lc l hl) g2.1 g2.2)) (tp_inm1 rfl)
      rw [show (0 : Int32) = nI 0 from rfl, tr_od rx (by simp (disch := omega) only [tp_un]; exact ho), tp_bS]
  · by_cases d : r 15 = 0
    · rw [if_pos (by simp [c, d]), if_neg c, if_pos d, tr_take, tp_bS]
    · have eg : tp_gg r = r (50 + 4 * l) := by unfold tp_gg; rw [if_neg c, if_neg d, show tp_cl (r 81) = l from l3]
      rw [if_neg (by simp [d]), tr_gg hl l1, tp_b2S, tp_L, tp_wu, tr_or0, tp_b2S, tp_un (by decide), if_neg c, if_neg c, if_neg d, tr_pour hl, tp_bS, eg]
      have rx : tp_rng (tp_pour l (tp_up r 11 (r (50 + 4 * l)))) := by
        obtain ⟨o, o2, o1, o3⟩ := tp_xx (tp_rlo h.1 hl)
        obtain ⟨w, w2, w1, w3⟩ := tp_xx (tp_r14 h.1)
        rw [eg] at q1
        have A1 : tp_rng (tp_up r 11 (r (50 + 4 * l))) := tp_rng_up h.1 (tp_inN rfl q1.1 q1.2)
        unfold tp_pour tp_pr1 tp_pr2
        simp (disch := omega) only [tp_us, tp_un]
        rw [o1, w1, nI_add]
        simp (disch := omega) only [tp_le, tp_k99, tp_uu]
        split
        · refine tp_rng_up (tp_rng_up (tp_rng_up (tp_rng_up A1 (tp_inN (n := o + w) (tp_kd_lo l hl) ?_ (by omega))) (tp_in_any rfl)) (tp_inN (n := 0) rfl rfl (by decide))) (tp_inN (n := 0) rfl rfl (by decide))
          rw [tp_k0, tp_sb (by omega)]; rfl
        · refine tp_rng_up (tp_rng_up (tp_rng_up (tp_rng_up A1 (tp_inN (n := 99) (tp_kd_lo l hl) ?_ (by omega))) (tp_in_any rfl)) (tp_inN (n := 0) rfl rfl (by decide))) (tp_inN (n := 0) rfl rfl (by decide))
          rw [tp_sb (by omega), tp_sb (by omega)]; congr 1; omega
      have e8 : tp_pour l (tp_up r 11 (r (50 + 4 * l))) 8 = r 8 := by
        unfold tp_pour tp_pr1 tp_pr2
        split <;> simp (disch := omega) only [tp_un]
      rw [show (0 : Int32) = nI 0 from rfl, tr_od rx (by rw [e8]; exact ho), tp_bS]
theorem tr_ha : ∀ (n f : Nat) {r : tp_R}, tp_Ok r → tp_pot r ≤ n → n < f → f10_handleAll_p0 f b (tp_w u b r) = some (tp_w u b (tp_ha n r))
  | _, 0, _, _, _, h => absurd h (Nat.not_lt_zero _)
  | n, f + 1, r, h, hp, hf => by
    unfold f10_handleAll_p0
    rw [tp_wg]
    by_cases c : r 8 ≤ 0
    · rw [if_pos c]
      cases n with
      | zero => rfl
      | succ n => unfold tp_ha; rw [if_pos c]
    · have ho := (tp_pos h).mp c
      obtain ⟨⟨l, l2, l1, l3⟩, -⟩ := (tp_Ok_ord h ho).imp_left tp_xx
      have k := tp_Ok_han h ho
      rw [if_neg c, tr_gg (by omega) l1, tp_b2S, tr_gc (by omega) l1, tp_b2S, tr_between, tp_b2S]
      cases n with
      | zero => omega
      | succ n =>
        unfold tp_ha
        rw [if_neg c]
        by_cases d : tp_bt (r 11) (r 12) (tp_gg r) (tp_gc r) = 0
        · rw [if_pos d, if_pos (by unfold tp_at; rw [d]; rfl), tr_handle h ho, tp_bS, tr_ha n f k.1 (by omega) (by omega)]
        · rw [if_neg d, if_neg (by unfold tp_at; simp [d])]
theorem tr_handleAll (h : tp_Ok r) : f10_handleAll b (tp_w u b r) = some (tp_w u b (tp_hal r)) :=
  tr_ha 12 tl_F h (tp_pot_le h) (by unfold tl_F; omega)
theorem tr_step (h : tp_Ok r) (ho : 0 < tp_cl (r 8)) : f10_step b (tp_w u b r) = some (tp_w u b (tp_st r)) := by
  obtain ⟨⟨l, l2, l1, l3⟩, -⟩ := (tp_Ok_ord h ho).imp_left tp_xx
  unfold f10_step tp_st
  rw [tr_gg (by omega) l1, tp_b2S, tp_wg]
  by_cases c : tp_gg r = r 11
  · rw [if_pos c, if_pos c, tr_gc (by omega) l1, tp_b2S, tp_wg]
    by_cases d : tp_gc r ≤ r 12
    · rw [if_pos d, if_pos d, tp_L]
      rw [tp_wu]
    · rw [if_neg d, if_neg d, tp_L]
      rw [tp_wu]
  · rw [if_neg c, if_neg c]
    by_cases d : r 12 ≤ 0
    · rw [if_pos d, if_pos d, tp_L, tp_L]
      rw [tp_wu, tp_wu]
    · rw [if_neg d, if_neg d, tp_L]
      rw [tp_wu]
theorem tr_goes_l {s : Nat} (hs : s ≤ 12) : ∀ (f i : Nat) {r : tp_R}, tp_Os r → r 16 = nI s → i ≤ s → s - i < f → f10_ladGoes_p6 f b (nI i) (tp_w u b r) = some (tp_w u b (tp_gs (s - i) r))
  | 0, _, _, _, _, _, h => absurd h (Nat.not_lt_zero _)
  | f + 1, i, r, h, h16, hi, hf => by
    unfold f10_ladGoes_p6
    simp (disch := omega) only [tp_wg, h16, tp_le]
    by_cases c : s ≤ i
    · rw [if_pos c, show s - i = 0 by omega]; rfl
    · rw [if_neg c, show s - i = (s - (i + 1)) + 1 by omega]
      unfold tp_gs
      by_cases d : r 8 ≤ 0
      · rw [if_pos d, if_pos d]
      · have hk := tp_Os_st h d
        rw [if_neg d, if_neg d, tr_step h.1 ((tp_pos h.1).mp d), tp_bS, tr_handleAll hk, tp_bS, tp_L, nI_1]
        refine tr_goes_l hs f (i + 1) (tp_Os_hal hk) ?_ (by omega) (by omega)
        rw [tp_hal_n (by decide) (by decide) (by decide) (by decide) (by decide) (by decide) (by decide) (by decide), tp_st_n (by decide) (by decide)]
        exact h16
theorem tr_ladGoes (h : tp_Ok r) : f10_ladGoes b (tp_w u b r) = some (tp_w u b (tp_goes r)) := by
  obtain ⟨s, s2, s1, s3⟩ := tp_xx (tp_r16 h.1)
  unfold f10_ladGoes tp_goes tp_cl
  rw [tr_handleAll h, tp_bS, s3]
  refine tr_goes_l s2 tl_F 0 (tp_Os_hal h) ?_ (by omega) (by unfold tl_F; omega)
  rw [tp_hal_n (by decide) (by decide) (by decide) (by decide) (by decide) (by decide) (by decide) (by decide)]
  exact s1
end TPQ
