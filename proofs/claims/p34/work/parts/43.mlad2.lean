/-! What the lad of the class does, on. -/
section TPM
variable {α : Type} {a : Nat} {r : tp_R} {u0 u : tl_S} {f : tl_S → Option α} {Q : α → Prop}
theorem tc_pours (h : tp_P u0 a r u) (hk : tp_Ok r) (ho : 0 < tp_cl (r 8)) (c1 : ¬ r 80 = 0) (c2 : ¬ r 15 = 0) {l : Nat} (hl : l = tp_cl (r 81)) : tp_T (f5_poursOil a ((a + 3) + (18 + l)) u) (tp_HQ u0 a r) := by
  obtain ⟨⟨w1, w2⟩, w3, -, -, w4, w5⟩ := tp_Ok_ord hk ho
  have hl8 : l < 8 := by omega
  have egg : tp_gg r = r (50 + 4 * l) := by unfold tp_gg; rw [if_neg c1, if_neg c2, hl]
  have egc : tp_gc r = r (51 + 4 * l) := by unfold tp_gc; rw [if_neg c1, if_neg c2, hl]
  obtain ⟨q1, -, -, -⟩ := tp_goal hk ho
  obtain ⟨g, g2, g1, -⟩ := tp_xx q1
  obtain ⟨p, p2, p1, p3⟩ := tp_xx (tp_rlo hk.1 hl8)
  obtain ⟨q, q2, q1, q3⟩ := tp_xx (tp_r14 hk.1)
  unfold f5_poursOil
  rw [tq_gL2 h hl8, tq_gL3 h hl8, ← egg, ← egc, tc_isAt h hk ho, tp_b2S, tp_if0]
  rcases e : tp_at r with _ | _
  · rw [if_neg (by decide)]
    exact tp_ret (tp_HQn h e)
  · rw [if_pos rfl, tq_gL1 h hl8, tq_g14 h, p1, q1]
    obtain ⟨x, hx, hx1, hx0, hx2, hx3⟩ : ∃ x : Nat, (if 99 - nI p < nI q then 99 - nI p else nI q) = nI x ∧ x ≤ q ∧ p + x ≤ 99 ∧ (p + q ≤ 99 → x = q) ∧ (99 < p + q → x = 99 - p) := by
      rw [tp_k99, tp_sb (by omega)]
      simp (disch := omega) only [tp_lt]
      by_cases z : 99 - p < q
      · rw [if_pos z]; exact ⟨_, rfl, by omega, by omega, by omega, by omega⟩
      · rw [if_neg z]; exact ⟨_, rfl, by omega, by omega, by omega, by omega⟩
    rw [hx, tp_L]
    refine tq_w h (i := 11) (by decide) (by decide) rfl rfl (tq_gL2 h hl8) (fun v ev hv => ?_)
    have e49 : v.1 ((a + 3) + (18 + l)) 3 + nI x = nI (p + x) := by
      rw [tq_gL1 hv hl8, tp_un (by omega), p1, nI_add]
    refine tq_wL hv hl8 (j := 3) (by decide) rfl e49 (fun v ev2 (hv : tp_P u0 a (tp_up _ (49 + 4 * l) _) v) => ?_)
    have e6 : v.1 a 10 + (v.1 (a + 4) 5 - nI x) = r 6 + nI (q - x) := by
      rw [tq_g6 hv, tq_g14 hv, tp_un (by omega), tp_un (by decide), tp_un (by omega), tp_un (by decide), q1, tp_sb (by omega)]
    refine tq_w hv (i := 6) (by decide) (by decide) rfl rfl e6 (fun v ev2 hv => ?_)
    refine tq_w hv (i := 14) (by decide) (by decide) rfl rfl rfl (fun v ev2 hv => ?_)
    have hg := tp_rng_up (tp_rng_up (tp_rng_up (tp_rng_up hk.1 (i := 11) (x := r (50 + 4 * l)) (tp_inN rfl (egg.symm.trans g1) (by omega))) (i := 49 + 4 * l) (x := nI (p + x)) (tp_inN (tp_kd_lo l hl8) rfl (by omega))) (i := 6) (x := r 6 + nI (q - x)) (tp_in_any rfl)) (i := 14) (x := 0) (tp_inN (n := 0) rfl rfl (by omega))
    refine tp_b2 (tc_rem0 hv hg (by rw [tp_un (by decide), tp_un (by decide), tp_un (by omega), tp_un (by decide)]; exact ho)) (fun y v hv => tp_ret (tp_HQy e hv ?_))
    rw [tp_od_15]
    unfold tp_han
    rw [if_neg c1, if_neg c2, ← hl]
    congr 1
    unfold tp_pour
    rw [tp_un (i := 11) (j := 49 + 4 * l) (by omega), tp_un (i := 11) (j := 14) (by decide), p1, q1, nI_add]
    unfold tp_pr1
    rw [tp_us, tp_k99]
    simp (disch := omega) only [tp_le]
    by_cases z : p + q ≤ 99
    · rw [if_pos z]
      unfold tp_pr2
      rw [tp_us, tp_uu, tp_un (i := 49 + 4 * l) (j := 6) (by omega), tp_un (i := 11) (j := 6) (by decide), hx2 z, Nat.sub_self, tp_k0, tp_sb (by omega), Nat.sub_zero]
    · rw [if_neg z]
      unfold tp_pr2
      rw [tp_us, tp_uu, tp_un (i := 49 + 4 * l) (j := 6) (by omega), tp_un (i := 11) (j := 6) (by decide), hx3 (by omega), tp_sb (by omega), tp_sb (by omega), show p + (99 - p) = p + q - (p + q - 99) by omega, show q - (99 - p) = p + q - 99 by omega]
theorem tc_does (h : tp_P u0 a r u) (hk : tp_Ok r) (ho : 0 < tp_cl (r 8)) : tp_T (f5_doesWhatNeedsNoStep a u) (tp_HQ u0 a r) := by
  obtain ⟨⟨w1, w2⟩, w3, -, -, w4, w5⟩ := tp_Ok_ord hk ho
  obtain ⟨l, l2, l1, l3⟩ := tp_xx ⟨w1, w2⟩
  have l3' : tp_cl (r 81) = l := l3
  have hr2 := (tp_r2 hk.1).2
  have h8 : ¬ r 8 = 0 := by
    obtain ⟨q, q2, q1, q3⟩ := tp_xx (tp_r8 hk.1)
    unfold tp_cl at ho
    rw [q1, tp_k0, tp_eq (by omega) (by omega)]
    omega
  unfold f5_doesWhatNeedsNoStep
  rw [tl_gs (tq_o h (by decide)), tq_g8 h, if_neg h8, tc_hasLamp h, tp_b2S, tp_if0]
  have hil : tp_il r (u.1 (u.2.1 ((a + 4) + 1) 0) 1) = true := by
    rw [tq_o1 h ho]
    exact (tp_il_N hk.1).mpr ⟨l, by omega, l1⟩
  rw [if_pos hil]
  have ho1 := tq_o1 h ho
  rw [l1] at ho1
  rw [ho1, tl_gs (tp_ix (by omega) (by omega)), tp_cn (by omega), tq_o0 h ho, tq_g13 h, tq_g15 h]
  have fin : ∀ x v, tp_HQ u0 a r (x, v) → tp_T (tl_g (x = 0 ∨ x = 1) (some (x, v))) (tp_HQ u0 a r) := by
    intro x v q
    refine tp_g ?_ (tp_ret q)
    have e : x = tp_b01 (tp_at r) := q.1
    rw [e]; exact tp_b01_c _
  by_cases c1 : r 80 = 0
  · rw [if_pos c1]
    by_cases c2 : r 13 = -1
    · rw [if_pos c2]
      exact tp_b2 (tc_takes h hk ho c1 c2 l3'.symm rfl) fin
    · rw [if_neg c2]
      exact tp_b2 (tc_hangs h hk ho c1 c2 l3'.symm rfl) fin
  · rw [if_neg c1]
    by_cases c2 : r 15 = 0
    · rw [if_pos c2]
      exact tp_b2 (tc_fetches h hk ho c1 c2 rfl) fin
    · rw [if_neg c2]
      exact tp_b2 (tc_pours h hk ho c1 c2 l3'.symm) fin
theorem tc_makes (h : tp_P u0 a r u) (hk : tp_Ok r) (ho : 0 < tp_cl (r 8)) (ha : tp_at r = false) : tp_T (f5_makesStep a u) (tp_P u0 a (tp_st r)) := by
  obtain ⟨⟨w1, w2⟩, w3, w6, -, w4, w5⟩ := tp_Ok_ord hk ho
  obtain ⟨l, l2, l1, l3⟩ := tp_xx ⟨w1, w2⟩
  have l3' : tp_cl (r 81) = l := l3
  have hr2 := (tp_r2 hk.1).2
  have hil : tp_il r (u.1 (u.2.1 ((a + 4) + 1) 0) 1) = true := by
    rw [tq_o1 h ho]
    exact (tp_il_N hk.1).mpr ⟨l, by omega, l1⟩
  have ho1 := tq_o1 h ho
  rw [l1] at ho1
  have go := tc_step h hk ho ha
  have go2 : tp_T (tl_b (f3_stepTowards (a + 4) (tp_gg r) (tp_gc r) u) (fun u11 => some u11)) (tp_P u0 a (tp_st r)) := tp_b go (fun v hv => tp_ret hv)
  have p82 : tp_gg r = r (50 + 4 * l) → tp_gc r = r (51 + 4 * l) → tp_T (f5_makesStep_p82 a (u.2.1 ((a + 4) + 1) 0) u) (tp_P u0 a (tp_st r)) := by
    intro e1 e2
    unfold f5_makesStep_p82
    rw [tc_hasLamp h, tp_b2S, tp_if0, if_pos hil, ho1, tl_gs (tp_ix (by omega) (by omega)), tl_gs (tp_ix (by omega) (by omega)), tp_cn (by omega), tq_gL2 h (by omega), tq_gL3 h (by omega), ← e1, ← e2]
    exact go2
  have p46 : (r 80 ≠ 0 → r 15 ≠ 0) → tp_T (f5_makesStep_p46 a (u.2.1 ((a + 4) + 1) 0) u) (tp_P u0 a (tp_st r)) := by
    intro q
    unfold f5_makesStep_p46
    rw [tq_o0 h ho, tq_g13 h]
    by_cases c1 : r 80 = 0
    · rw [if_pos c1]
      by_cases c2 : r 13 = -1
      · rw [if_pos c2]
        exact p82 (by unfold tp_gg; rw [if_pos c1, if_pos c2, l3']) (by unfold tp_gc; rw [if_pos c1, if_pos c2, l3'])
      · rw [if_neg c2, tq_o2 h ho c1, tq_o3 h ho c1]
        have e1 : tp_gg r = r 82 := by unfold tp_gg; rw [if_pos c1, if_neg c2]
        have e2 : tp_gc r = r 83 := by unfold tp_gc; rw [if_pos c1, if_neg c2]
        rw [← e1, ← e2]
        exact go2
    · rw [if_neg c1]
      exact p82 (by unfold tp_gg; rw [if_neg c1, if_neg (q c1), l3']) (by unfold tp_gc; rw [if_neg c1, if_neg (q c1), l3'])
  unfold f5_makesStep
  rw [tl_gs (tq_o h (by decide)), tq_o0 h ho, tq_g15 h]
  by_cases c : r 80 = 1
  · have c1 : ¬ r 80 = 0 := by rw [c]; decide
    rw [if_pos c]
    by_cases d : r 15 = 0
    · have e1 : tp_gg r = r 11 := by unfold tp_gg; rw [if_neg c1, if_pos d]
      have e2 : tp_gc r = 0 := by unfold tp_gc; rw [if_neg c1, if_pos d]
      rw [if_pos d, tq_g11 h, ← e1, ← e2]
      exact go2
    · rw [if_neg d]
      exact p46 (fun _ => d)
  · rw [if_neg c]
    refine p46 (fun q => absurd ?_ c)
    obtain ⟨n, n2, n1, -⟩ := tp_xx (tp_rok hk.1 (k := 0) (by decide))
    have n1 : r 80 = nI n := n1
    rw [n1] at q ⊢
    rw [tp_k0, Ne, tp_eq (by omega) (by omega)] at q
    rw [show n = 1 by omega]; rfl
theorem tp_pot_hal_at {q : tp_R} (hk : tp_Ok q) (c : ¬ q 8 ≤ 0) (e : tp_at q = true) : tp_hal (tp_han q) = tp_hal q := by
  have ho := (tp_pos hk).mp c
  obtain ⟨h1, h2⟩ := tp_Ok_han hk ho
  have hp := tp_pot_le hk
  have : tp_hal q = tp_ha 11 (tp_han q) := by
    show tp_ha (11 + 1) q = _
    unfold tp_ha
    rw [if_neg c, if_pos e]
    rfl
  rw [this]
  exact tp_ha_more 11 12 h1 (by omega) (by decide)
theorem tp_hal_n8 {q : tp_R} (c : q 8 ≤ 0) : tp_hal q = q := by
  show tp_ha (11 + 1) q = q
  unfold tp_ha
  rw [if_pos c]
theorem tp_hal_na {q : tp_R} (e : tp_at q = false) : tp_hal q = q := by
  show tp_ha (11 + 1) q = q
  unfold tp_ha
  rw [e]
  split <;> rfl
theorem tp_gs_n8 {q : tp_R} (c : q 8 ≤ 0) : ∀ n, tp_gs n q = q ∧ tp_gn n q = 0
  | 0 => ⟨rfl, rfl⟩
  | n + 1 => by unfold tp_gs tp_gn; rw [if_pos c, if_pos c]; exact ⟨rfl, rfl⟩
theorem tc_works_l {m : Nat} (hm : m ≤ 1440) : ∀ (f s i : Nat) (q : tp_R) (v : tl_S), tp_P u0 a q v → tp_Ok q → s ≤ m → i + tp_pot q ≤ s + 12 → (m - s) + tp_pot q < f →
    tp_T (f5_ladWorks_p4 f a (nI m) (nI s) (nI i) v) (fun p => p.1 = nI (s + tp_gn (m - s) (tp_hal q)) ∧ tp_P u0 a (tp_gs (m - s) (tp_hal q)) p.2)
  | 0, _, _, _, _, _, _, _, _, h => absurd h (Nat.not_lt_zero _)
  | f + 1, s, i, q, v, h, hk, hs, hi, hf => by
    unfold f5_ladWorks_p4
    have e1 : (nI m + 12 < nI i) = False := by
      rw [tp_k12, nI_add, tp_lt (by omega) (by omega)]
      exact eq_false (by omega)
    simp only [e1]
    rw [if_neg id, tq_g8 h]
    by_cases c : q 8 ≤ 0
    · rw [if_pos c, tp_hal_n8 c, (tp_gs_n8 c _).1, (tp_gs_n8 c _).2]
      exact tp_ret ⟨rfl, h⟩
    · have ho := (tp_pos hk).mp c
      rw [if_neg c]
      refine tp_b2 (tc_does h hk ho) (fun x w hw => ?_)
      obtain ⟨hx, hw⟩ := hw
      have hx : x = tp_b01 (tp_at q) := hx
      rw [hx, tp_if0]
      rcases e : tp_at q with _ | _
      · rw [e] at hw
        have hw : tp_P u0 a q w := hw
        rw [if_neg (by decide)]
        have es : (nI s = nI m) = (s = m) := tp_eq (by omega) (by omega)
        simp only [es]
        rw [tp_hal_na e]
        by_cases d : s = m
        · rw [if_pos d, d, Nat.sub_self]
          exact tp_ret ⟨rfl, hw⟩
        · rw [if_neg d]
          refine tp_b (tc_makes hw hk ho e) (fun w hw => ?_)
          rw [tp_L, tp_L, nI_1, nI_1]
          refine tp_mono (tc_works_l hm f (s + 1) (i + 1) _ w hw (tp_Ok_st hk ho e) (by omega) (by rw [tp_pot_st]; omega) (by rw [tp_pot_st]; omega)) (fun p hp => ?_)
          obtain ⟨k, hk⟩ : ∃ k, m - s = k + 1 := ⟨m - s - 1, by omega⟩
          have hk2 : m - (s + 1) = k := by omega
          rw [hk2] at hp
          rw [hk]
          unfold tp_gs tp_gn
          rw [if_neg c, if_neg c, show s + (tp_gn k (tp_hal (tp_st q)) + 1) = s + 1 + tp_gn k (tp_hal (tp_st q)) by omega]
          exact hp
      · rw [e] at hw
        have hw : tp_P u0 a (tp_han q) w := hw
        obtain ⟨k1, k2⟩ := tp_Ok_han hk ho
        rw [if_pos rfl, tp_L, nI_1, ← tp_pot_hal_at hk c e]
        exact tc_works_l hm f s (i + 1) _ w hw k1 hs (by omega) (by omega)
theorem tc_works (h : tp_P u0 a r u) (hk : tp_Ok r) {m : Nat} (hm : m ≤ 1440) : tp_T (f5_ladWorks a (nI m) u) (fun p => p.1 = nI (tp_gn m (tp_hal r)) ∧ tp_P u0 a (tp_gs m (tp_hal r)) p.2) := by
  have hp := tp_pot_le hk
  have := tc_works_l hm tl_F 0 0 r u h hk (Nat.zero_le _) (by omega) (by unfold tl_F; omega)
  rw [Nat.zero_add, Nat.sub_zero] at this
  exact this
theorem tc_goes (h : tp_P u0 a r u) (hk : tp_Ok r) : tp_T (f5_ladWorks a (u.1 a 14) u) (fun p => tp_P u0 a (tp_goes r) p.2) := by
  obtain ⟨n, n2, n1, n3⟩ := tp_xx (tp_r16 hk.1)
  rw [tq_g16 h, n1]
  refine tp_mono (tc_works h hk (by omega)) (fun p hp => ?_)
  unfold tp_goes tp_cl
  rw [n3]
  exact hp.2
end TPM
