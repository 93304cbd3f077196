/-! What the reference's functions compute over its rows: an hour. -/
theorem tp_nf_keep {f : Nat → tp_R → tp_R} {i : Nat} (hf : ∀ k r, f k r i = r i) : ∀ (n : Nat) (r : tp_R), tp_nf f n r i = r i
  | 0, _ => rfl
  | n + 1, r => (hf n _).trans (tp_nf_keep hf n r)
theorem tp_bu1_n {l i : Nat} {r : tp_R} (h : i < 48) (h5 : i ≠ 5) : tp_bu1 l r i = r i := by
  unfold tp_bu1
  split
  · rfl
  · simp (disch := omega) only [tp_un]
theorem tp_dig_n {G : Int32} {g i : Nat} (h10 : i ≠ 10) (h1 : i ≠ 18 + 2 * g) (h2 : i ≠ 19 + 2 * g) : ∀ (n : Nat) (r : tp_R), tp_dig G (18 + 2 * g) n r i = r i
  | 0, _ => rfl
  | n + 1, r => by
    unfold tp_dig
    split
    · rfl
    · split
      · rfl
      · rw [tp_dig_n h10 h1 h2 n]
        simp (disch := omega) only [tp_un]
theorem tp_mi1_n {m i : Nat} {r : tp_R} (hm : m < 6) (hr : tp_rng r) (h : i < 18 ∨ 48 ≤ i) (h10 : i ≠ 10) (h9 : i ≠ 9) : tp_mi1 m r i = r i := by
  have hg := (tp_rmg hr hm).2
  unfold tp_mi1
  split
  · rfl
  · split
    · rw [tp_dig_n h10 (by omega) (by omega)]
      simp (disch := omega) only [tp_un]
    · simp (disch := omega) only [tp_un]
theorem tp_mi1_o {m k : Nat} {r : tp_R} (hm : m < 6) (hr : tp_rng r) : tp_mi1 m r (24 + 4 * k) = r (24 + 4 * k) := by
  have hg := (tp_rmg hr hm).2
  unfold tp_mi1
  split
  · rfl
  · split
    · rw [tp_dig_n (by omega) (by omega) (by omega)]
      simp (disch := omega) only [tp_un]
    · simp (disch := omega) only [tp_un]
section TPH
variable {u : tl_S} {b : Nat} {r : tp_R}
theorem tr_dig {g : Nat} (hg : g < 3) : ∀ (n f : Nat) {r : tp_R}, tp_Ok r → 60 - tp_cl (r (18 + 2 * g)) < n → n ≤ f → f10_mine_p90 f b (nI g) (nI (18 + 2 * g)) (tp_w u b r) = some (tp_w u b (tp_dig (nI g) (18 + 2 * g) n r))
  | 0, _, _, _, h, _ => absurd h (Nat.not_lt_zero _)
  | n + 1, 0, _, _, _, h => absurd h (by omega)
  | n + 1, f + 1, r, h, hn, hf => by
    unfold f10_mine_p90 tp_dig
    obtain ⟨d, d2, d1, d3⟩ := tp_xx (tp_rga h.1 hg)
    unfold tp_cl at hn
    rw [d3] at hn
    simp (disch := omega) only [tp_p1, tp_neg, false_or, tp_nleT, tp_gT, tp_cn, tp_L, tp_wu1, tp_w2, tp_wp, tp_wg, tr_hard, tp_b2S]
    by_cases c : 60 ≤ r (18 + 2 * g)
    · rw [if_pos c, if_pos c]
    · rw [if_neg c, if_neg c]
      by_cases e : r (18 + 2 * g + 1) < tp_hd (nI g) (r (18 + 2 * g))
      · rw [if_pos e, if_pos e]
      · rw [if_neg e, if_neg e]
        have c' := c
        rw [d1, tp_k60, tp_le (by omega) (by omega)] at c'
        have K : tp_Ok (tp_up (tp_up (tp_up r (18 + 2 * g + 1) (r (18 + 2 * g + 1) - tp_hd (nI g) (r (18 + 2 * g)))) (18 + 2 * g) (r (18 + 2 * g) + 1)) 10 (r 10 + 1)) := by
          refine tp_Ok_up (tp_Ok_up (tp_Ok_up h (tp_in_any ?_) (by unfold tp_fr; omega)) (tp_inN (n := d + 1) (tp_kd_ga g hg) ?_ (by omega)) (by unfold tp_fr; omega)) (tp_in_any rfl) (by unfold tp_fr; omega)
          · rw [show 18 + 2 * g + 1 = 19 + 2 * g by omega]; exact tp_kd_gs g hg
          · rw [d1, nI_1]
        have e1 : tp_up r (18 + 2 * g + 1) (r (18 + 2 * g + 1) - tp_hd (nI g) (r (18 + 2 * g))) (18 + 2 * g) = r (18 + 2 * g) := tp_un (by omega)
        have e2 : tp_up (tp_up r (18 + 2 * g + 1) (r (18 + 2 * g + 1) - tp_hd (nI g) (r (18 + 2 * g)))) (18 + 2 * g) (r (18 + 2 * g) + 1) 10 = r 10 := by simp (disch := omega) only [tp_un]
        simp only [e1, e2]
        refine tr_dig hg n f K ?_ (by omega)
        rw [tp_un (by omega), tp_us, d1, nI_1]
        unfold tp_cl
        rw [tp_cn (by omega)]; omega
theorem tr_mine (h : tp_Ok r) {m : Nat} (hm : m < tp_cl (r 1)) : f10_mine b (nI m) (tp_w u b r) = some (tp_w u b (tp_mi1 m r)) := by
  have b1 := (tp_r1 h.1).2
  have hm6 : m < 6 := by omega
  obtain ⟨g, g2, g1, g3⟩ := tp_xx (tp_rmg h.1 hm6)
  have hg : g < 3 := by omega
  obtain ⟨d, d2, d1, d3⟩ := tp_xx (tp_rga h.1 hg)
  unfold f10_mine tp_mi1
  rw [tr_mi0 hm6, tp_b2S]
  unfold tp_cl
  rw [g3, g1]
  simp (disch := omega) only [tp_j18, tp_j24, tp_p1, tp_p2, tp_p3, tp_q18_1, tp_q24_2, tp_q24_3, tp_neg, false_or, tp_nleT, tp_gT, tp_cn, tp_L, tp_wu1, tp_w2, tp_wp, tp_wg, tr_mi1 hm6, tp_b2S]
  by_cases c : 60 ≤ r (18 + 2 * g)
  · have c' := c
    rw [d1, tp_k60, tp_le (by omega) (by omega)] at c'
    rw [if_pos (by rw [d1, show d = 60 by omega]; rfl), if_pos c]
  · have c' := c
    rw [d1, tp_k60, tp_le (by omega) (by omega)] at c'
    rw [if_neg (by rw [d1, tp_k60, tp_eq (by omega) (by omega)]; omega), if_neg c, tr_isLit h.1 d1 (by omega), tp_b2S, tp_if0]
    rcases e : tp_lit r (nI g) (r (18 + 2 * g)) with _ | _
    · have e9 : tp_up r (27 + 4 * m) (r (27 + 4 * m) + 1) 9 = r 9 := tp_un (by omega)
      rw [if_neg (by decide), if_neg (by decide)]
      simp (disch := omega) only [tp_j18, tp_j24, tp_p1, tp_p2, tp_p3, tp_q18_1, tp_q24_2, tp_q24_3, tp_neg, false_or, tp_nleT, tp_gT, tp_cn, tp_L, tp_wu1, tp_w2, tp_wp, tp_wg, tr_mi1 hm6, tp_b2S, e9]
    · have e1 : tp_up r (26 + 4 * m) (r (26 + 4 * m) + r (25 + 4 * m)) (19 + 2 * g) = r (19 + 2 * g) := tp_un (by omega)
      have e2 : tp_up r (26 + 4 * m) (r (26 + 4 * m) + r (25 + 4 * m)) (25 + 4 * m) = r (25 + 4 * m) := tp_un (by omega)
      rw [if_pos rfl, if_pos rfl]
      simp (disch := omega) only [tp_j18, tp_j24, tp_p1, tp_p2, tp_p3, tp_q18_1, tp_q24_2, tp_q24_3, tp_neg, false_or, tp_nleT, tp_gT, tp_cn, tp_L, tp_wu1, tp_w2, tp_wp, tp_wg, tr_mi1 hm6, tp_b2S, e1, e2]
      refine tr_dig hg 61 tl_F (tp_Ok_up (tp_Ok_up h (tp_in_any (tp_kd_ms m hm6)) (by unfold tp_fr; omega)) (tp_in_any (tp_kd_gs _ hg)) (by unfold tp_fr; omega)) (by omega) (by unfold tl_F; omega)
theorem tr_burn_l (h : tp_Ok r) : ∀ (f i : Nat), i ≤ tp_cl (r 2) → tp_cl (r 2) - i < f → f10_burn_p2 f b (nI i) (tp_w u b (tp_nf tp_bu1 i r)) = some (tp_w u b (tp_ho2 r))
  | 0, _, _, h2 => absurd h2 (Nat.not_lt_zero _)
  | f + 1, i, h1, h2 => by
    obtain ⟨n, n2, n1, n3⟩ := tp_xx (tp_r2 h.1)
    unfold tp_cl at h1 h2
    rw [n3] at h1 h2
    unfold f10_burn_p2
    have e2 : tp_nf tp_bu1 i r 2 = nI n := (tp_nf_keep (fun k r => tp_bu1_n (by decide) (by decide)) i r).trans n1
    simp (disch := omega) only [tp_wg, e2, tp_le]
    by_cases c : n ≤ i
    · rw [if_pos c, show i = n by omega]
      unfold tp_ho2 tp_cl
      rw [n3]
    · rw [if_neg c, tr_la1 (by omega), tp_b2S]
      have ih := tr_burn_l h f (i + 1) (by unfold tp_cl; omega) (by unfold tp_cl; omega)
      have hs : tp_nf tp_bu1 (i + 1) r = tp_bu1 i (tp_nf tp_bu1 i r) := rfl
      rw [hs] at ih
      generalize tp_nf tp_bu1 i r = y at ih e2 ⊢
      unfold tp_bu1 at ih
      by_cases d : y (49 + 4 * i) ≤ 0
      · rw [if_pos d] at ih
        rw [if_pos d, tp_L, nI_1]
        exact ih
      · rw [if_neg d] at ih
        have e5 : tp_up y (49 + 4 * i) (y (49 + 4 * i) - 1) 5 = y 5 := tp_un (by omega)
        rw [if_neg d]
        simp (disch := omega) only [tp_j48, tp_p1, tp_q48_1, tp_neg, false_or, tp_nleT, tp_gT, tp_cn, tp_L, tp_wu1, tp_w2, tp_wp, tp_wg, e5]
        exact ih
theorem tr_burn (h : tp_Ok r) : f10_burn b (tp_w u b r) = some (tp_w u b (tp_ho2 r)) :=
  tr_burn_l h tl_F 0 (Nat.zero_le _) (by have := (tp_r2 h.1).2; unfold tl_F; omega)
theorem tp_ite0 {α : Type} (x y : α) : (if (0 : Int32) = 0 then x else y) = x := if_pos rfl
theorem tp_ite1 {α : Type} (x y : α) : (if (1 : Int32) = 0 then x else y) = y := if_neg (by decide)
theorem tr_forward_l (h : tp_rng r) {g : Nat} (hg : g < 3) : ∀ (f i : Nat), i ≤ tp_cl (r 2) → tp_cl (r 2) - i < f → f10_forward_p4 f b (nI g) (tp_fw r g i) (nI i) (tp_w u b r) = some (tp_fw r g (tp_cl (r 2)), tp_w u b r)
  | 0, _, _, h2 => absurd h2 (Nat.not_lt_zero _)
  | f + 1, i, h1, h2 => by
    obtain ⟨n, n2, n1, n3⟩ := tp_xx (tp_r2 h)
    have ih : i + 1 ≤ tp_cl (r 2) → f10_forward_p4 f b (nI g) (tp_fw r g (i + 1)) (nI (i + 1)) (tp_w u b r) = some (tp_fw r g (tp_cl (r 2)), tp_w u b r) := fun q => tr_forward_l h hg f (i + 1) q (by omega)
    unfold tp_cl at h1 h2 ih ⊢
    rw [n3] at h1 h2 ih ⊢
    unfold f10_forward_p4
    simp (disch := omega) only [tp_wg, n1, tp_le]
    by_cases c : n ≤ i
    · rw [if_pos c, show i = n by omega]
    · have ih := ih (by omega)
      have hl : i < 8 := by omega
      rw [if_neg c]
      simp only [tr_la2 hl, tr_la1 hl, tr_la3 hl, tr_depth hg, tp_b2S, tp_L, tp_ite0, tp_ite1, nI_1]
      have hs : tp_fw r g (i + 1) = if tp_fwc r g (tp_fw r g i) i then nI i else tp_fw r g i := rfl
      rw [hs] at ih
      unfold tp_fwc at ih
      by_cases c1 : r (50 + 4 * i) = nI g
      · rw [if_pos c1]
        by_cases c2 : r (49 + 4 * i) ≤ 0
        · rw [if_pos c2]
          simpa [c2] using ih
        · rw [if_neg c2]
          by_cases c3 : r (18 + 2 * g) - 1 ≤ r (51 + 4 * i)
          · rw [if_pos c3]
            simpa [c3] using ih
          · rw [if_neg c3]
            rcases tp_fw_N (r := r) g i with e | ⟨l, l1, l2, -⟩
            · rw [if_pos e]
              simpa [c1, c2, c3, e] using ih
            · have e : ¬ tp_fw r g i = -1 := by rw [l2]; exact fun z => (tp_m1n (by omega)).mp z
              rw [if_neg e, l2, tr_la1 (show l < 8 by omega), tp_b2S]
              rw [l2] at ih e
              unfold tp_cl at ih
              rw [tp_cn (by omega)] at ih
              by_cases c4 : r (49 + 4 * i) ≤ r (49 + 4 * l)
              · rw [if_pos c4]
                simpa [c1, c2, c3, c4, e] using ih
              · rw [if_neg c4]
                simpa [c1, c2, c3, c4, e] using ih
      · rw [if_neg c1]
        simpa [c1] using ih
theorem tr_forward (h : tp_rng r) {g : Nat} (hg : g < 3) : f10_forward b (nI g) (tp_w u b r) = some (tp_fw r g (tp_cl (r 2)), tp_w u b r) :=
  tr_forward_l h hg tl_F 0 (Nat.zero_le _) (by have := (tp_r2 h).2; unfold tl_F; omega)
theorem tr_worked_l (h : tp_rng r) {g : Nat} : ∀ (f i : Nat), i ≤ tp_cl (r 1) → tp_cl (r 1) - i < f → tp_any (tp_isg r g) i = false → f10_isWorked_p2 f b (nI g) (nI i) (tp_w u b r) = some (tp_b01 (tp_wk r g), tp_w u b r)
  | 0, _, _, h2, _ => absurd h2 (Nat.not_lt_zero _)
  | f + 1, i, h1, h2, h3 => by
    obtain ⟨n, n2, n1, n3⟩ := tp_xx (tp_r1 h)
    have ih : i + 1 ≤ tp_cl (r 1) → tp_any (tp_isg r g) (i + 1) = false → f10_isWorked_p2 f b (nI g) (nI (i + 1)) (tp_w u b r) = some (tp_b01 (tp_wk r g), tp_w u b r) := fun q z => tr_worked_l h f (i + 1) q (by omega) z
    unfold tp_wk at ih ⊢
    unfold tp_cl at h1 h2 ih ⊢
    rw [n3] at h1 h2 ih ⊢
    unfold f10_isWorked_p2
    simp (disch := omega) only [tp_wg, n1, tp_le]
    by_cases e : n ≤ i
    · rw [if_pos e, show n = i by omega, h3]; rfl
    · rw [if_neg e, tr_mi0 (by omega), tp_b2S]
      by_cases c : r (24 + 4 * i) = nI g
      · rw [if_pos c, tp_any_t (show i < n by omega) (by unfold tp_isg; simp [c])]; rfl
      · rw [if_neg c, tp_L, nI_1]
        exact ih (by omega) (by rw [show tp_any (tp_isg r g) (i + 1) = (tp_any (tp_isg r g) i || tp_isg r g i) from rfl, h3]; unfold tp_isg; simp [c])
theorem tr_worked (h : tp_rng r) {g : Nat} : f10_isWorked b (nI g) (tp_w u b r) = some (tp_b01 (tp_wk r g), tp_w u b r) :=
  tr_worked_l h tl_F 0 (Nat.zero_le _) (by have := (tp_r1 h).2; unfold tl_F; omega) rfl
theorem tr_orderOn (h : tp_rng r) (ho : tp_cl (r 8) < 6) {q l w c : Int32} : f10_orderOn b q l w c (tp_w u b r) = some (r 8 + 1, tp_w u b (tp_oo r q l w c)) := by
  obtain ⟨n, n2, n1, n3⟩ := tp_xx (tp_r8 h)
  unfold tp_cl at ho
  rw [n3] at ho
  unfold f10_orderOn tp_oo tp_cl
  rw [n3, tp_wg, n1]
  simp (disch := omega) only [tp_j80, tp_p1, tp_p2, tp_p3, tp_q80_1, tp_q80_2, tp_q80_3, tp_neg, false_or, tp_nleT, tp_gT, tp_cn, tp_L, tp_wu1, tp_w2, tp_wp, tp_wg, tp_us, tp_un, n1]
theorem tr_looks_l (h : tp_Ok r) (ho : tp_cl (r 8) = 0) : ∀ (f i : Nat), i ≤ tp_cl (r 0) → tp_cl (r 0) - i < f → f10_looksHimself_p2 f b (nI i) (tp_w u b r) = some (tp_w u b (tp_se r (tp_cl (r 0) - i) i))
  | 0, _, _, h2 => absurd h2 (Nat.not_lt_zero _)
  | f + 1, i, h1, h2 => by
    obtain ⟨n, n2, n1, n3⟩ := tp_xx (tp_r0 h.1)
    have ih : i + 1 ≤ tp_cl (r 0) → f10_looksHimself_p2 f b (nI (i + 1)) (tp_w u b r) = some (tp_w u b (tp_se r (tp_cl (r 0) - (i + 1)) (i + 1))) := fun q => tr_looks_l h ho f (i + 1) q (by omega)
    have h1' := h1
    unfold tp_cl at h1 h2
    rw [n3] at h1 h2
    unfold f10_looksHimself_p2
    simp (disch := omega) only [tp_wg, n1, tp_le]
    by_cases c : n ≤ i
    · rw [if_pos c, show tp_cl (nI n) - i = 0 by unfold tp_cl; rw [tp_cn (by omega)]; omega]; rfl
    · have hg : i < 3 := by omega
      have ih := ih (by unfold tp_cl; omega)
      obtain ⟨d, d2, d1, d3⟩ := tp_xx (tp_rga h.1 hg)
      have en : tp_cl (nI n) - i = (tp_cl (r 0) - (i + 1)) + 1 := by unfold tp_cl; rw [n3, tp_cn (by omega)]; omega
      rw [if_neg c, en]
      unfold tp_se tp_dk
      simp only [tr_worked h.1, tr_depth hg, tr_forward h.1 hg, tp_b2S, tp_L, tp_ite0, tp_ite1, nI_1, tp_if0, tr_isLit h.1 d1 (show d ≤ 1000 by omega), tp_in_l (x := r (18 + 2 * i)) (y := 2) (z := 59) (Y := 2) (Z := 59) (by decide) (by decide)]
      have ew : tp_iw (r (18 + 2 * i)) 2 59 = (!decide (r (18 + 2 * i) ≤ 1) && !decide (60 ≤ r (18 + 2 * i))) := by
        unfold tp_iw
        rw [d1]
        simp (disch := omega) only [tp_k2, tp_k59, tp_k1, tp_k60, tp_lt, tp_le]
        congr 2
        · apply decide_eq_decide.mpr; omega
      rw [ew]
      rcases a1 : tp_wk r i with _ | _
      · simpa [a1] using ih
      · rcases a2 : (!decide (r (18 + 2 * i) ≤ 1)) with _ | _
        · simpa [a1, a2] using ih
        · rcases a3 : (!decide (60 ≤ r (18 + 2 * i))) with _ | _
          · simpa [a1, a2, a3] using ih
          · rcases a4 : tp_lit r (nI i) (r (18 + 2 * i)) with _ | _
            · by_cases a5 : tp_fw r i (tp_cl (r 2)) = -1
              · simpa [a1, a2, a3, a4, a5] using ih
              · simp only [Bool.and_true, Bool.not_false, if_true, decide_eq_false a5]
                rw [if_neg a5, tr_orderOn h.1 (by omega), tp_b2S, if_neg (by decide)]
            · simpa [a1, a2, a3, a4] using ih
theorem tr_looks (h : tp_Ok r) (ho : r 8 = 0) : f10_looksHimself b (tp_w u b r) = some (tp_w u b (tp_sees r)) :=
  tr_looks_l h (by rw [ho]; rfl) tl_F 0 (Nat.zero_le _) (by have := (tp_r0 h.1).2; unfold tl_F; omega)
theorem tp_nf_mi (h : tp_Ok r) (i : Nat) (hi : i ≤ tp_cl (r 1)) : tp_Ok (tp_nf tp_mi1 i r) ∧ tp_nf tp_mi1 i r 1 = r 1 := by
  have b1 := (tp_r1 h.1).2
  refine tp_nf_inv (P := fun x => tp_Ok x ∧ x 1 = r 1) i (fun k x hk hx => ⟨tp_Ok_mi1 (by omega) hx.1, ?_⟩) ⟨h, rfl⟩
  rw [tp_mi1_n (by omega) hx.1.1 (by omega) (by decide) (by decide)]
  exact hx.2
theorem tr_hour_l (h : tp_Ok r) : ∀ (f i : Nat), i ≤ tp_cl (r 1) → tp_cl (r 1) - i < f → f10_hour_p9 f b (nI i) (tp_w u b (tp_nf tp_mi1 i r)) = some (tp_w u b (tp_ho3 (tp_goes (tp_ho2 (tp_ho1 r)))))
  | 0, _, _, h2 => absurd h2 (Nat.not_lt_zero _)
  | f + 1, i, h1, h2 => by
    obtain ⟨n, n2, n1, n3⟩ := tp_xx (tp_r1 h.1)
    obtain ⟨k1, k2⟩ := tp_nf_mi h i h1
    have h1' := h1
    unfold tp_cl at h1 h2
    rw [n3] at h1 h2
    unfold f10_hour_p9
    simp (disch := omega) only [tp_wg, k2, n1, tp_le]
    by_cases c : n ≤ i
    · have e : tp_ho1 r = tp_nf tp_mi1 i r := by
        unfold tp_ho1 tp_cl
        rw [n3, show n = i by omega]
      rw [if_pos c, ← e, tr_burn (tp_Ok_ho1 h), tp_bS, tr_ladGoes (tp_Ok_ho2 (tp_Ok_ho1 h)), tp_bS, tp_wg]
      have K := tp_Ok_goes (tp_Ok_ho2 (tp_Ok_ho1 h))
      generalize tp_goes (tp_ho2 (tp_ho1 r)) = x at K ⊢
      unfold tp_ho3
      by_cases c1 : x 17 = 1
      · rw [if_pos c1, if_pos c1]
        by_cases c2 : x 8 = 0
        · rw [if_pos c2, if_pos c2, tr_looks K c2, tp_bS]
        · rw [if_neg c2, if_neg c2]
      · rw [if_neg c1, if_neg c1]
    · rw [if_neg c, tr_mine k1 (by unfold tp_cl; rw [k2, n3]; omega), tp_bS, tp_L, nI_1]
      exact tr_hour_l h f (i + 1) (by unfold tp_cl; omega) (by unfold tp_cl; omega)
theorem tr_hour (h : tp_Ok r) : f10_hour b (tp_w u b r) = some (tp_w u b (tp_hour r)) := by
  unfold f10_hour
  rw [tp_L, tp_wu, tp_wg]
  exact tr_hour_l (tp_Ok_up h (tp_in_any rfl) (by unfold tp_fr; omega)) tl_F 0 (Nat.zero_le _) (by have := (tp_r1 h.1).2; rw [tp_un (by decide)]; unfold tl_F; omega)
theorem tp_nf_s (f : Nat → tp_R → tp_R) (n : Nat) (r : tp_R) : tp_nf f (n + 1) r = f n (tp_nf f n r) := rfl
theorem tp_hrs_s (n : Nat) (r : tp_R) : tp_hrs (n + 1) r = tp_hour (tp_hrs n r) := by
  unfold tp_hrs
  rw [tp_nf_s]
theorem tr_hours_l (h : tp_Ok r) {n : Nat} (hn : n ≤ 1000) {x : Int32} : ∀ (f i : Nat), i ≤ n → n - i < f → f10_hoursOn_p7 f b (nI n) x (nI i) (tp_w u b (tp_hrs i r)) = some (tp_hrs n r 10 - x, tp_w u b (tp_hrs n r))
  | 0, _, _, h2 => absurd h2 (Nat.not_lt_zero _)
  | f + 1, i, h1, h2 => by
    unfold f10_hoursOn_p7
    simp (disch := omega) only [tp_wg, tp_le]
    by_cases c : n ≤ i
    · rw [if_pos c, show i = n by omega]
    · rw [if_neg c, tr_hour (tp_Ok_hrs i h), tp_bS, tp_L, nI_1, ← tp_hrs_s]
      exact tr_hours_l h hn f (i + 1) (by omega) (by omega)
theorem tr_hours (h : tp_Ok r) {n : Nat} (hn : n ≤ 1000) : f10_hoursOn b (nI n) (tp_w u b r) = some (tp_hrs n r 10 - r 10, tp_w u b (tp_hrs n r)) := by
  unfold f10_hoursOn
  rw [tp_L, tp_wg]
  exact tr_hours_l h hn tl_F 0 (Nat.zero_le _) (by unfold tl_F; omega)
end TPH
