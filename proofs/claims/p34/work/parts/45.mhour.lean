/-! An hour of the class's mine. -/
section TPU
variable {α : Type} {a : Nat} {r : tp_R} {u0 u : tl_S} {f : tl_S → Option α} {Q : α → Prop}
theorem tc_miners_l (hr : tp_Ok r) {n : Nat} (hn : tp_cl (r 1) = n) : ∀ (f m : Nat) (v : tl_S), m ≤ n → n - m < f → tp_P u0 a (tp_nf tp_mi1 m r) v → tp_T (f5_minersWork_p2 f a (nI m) v) (fun w => tp_P u0 a (tp_ho1 r) w)
  | 0, _, _, _, h, _ => absurd h (Nat.not_lt_zero _)
  | f + 1, m, v, hm, hf, h => by
    have hn6 : n ≤ 6 := hn ▸ (tp_r1 hr.1).2
    obtain ⟨hq, hq1⟩ := tp_nf_mi hr m (by omega)
    generalize hqq : tp_nf tp_mi1 m r = q at h hq hq1
    unfold f5_minersWork_p2
    have ele : (nI n ≤ nI m) = (n ≤ m) := tp_le (by omega) (by omega)
    rw [tq_g1 h, hq1, (tp_r1 hr.1).1, hn]
    by_cases c : n ≤ m
    · have hmn : m = n := by omega
      rw [if_pos (ele.mpr c)]
      refine tp_ret ?_
      unfold tp_ho1
      rw [hn, ← hmn, hqq]
      exact h
    · have hm6 : m < 6 := by omega
      rw [if_neg (fun z => c (ele.mp z)), tl_gs (tp_ix hm6 (by omega)), tp_cn (by omega), tp_L, tq_gM0 h hm6, nI_1]
      obtain ⟨g, g2, g1, g3⟩ := tp_xx (tp_rmg hq.1 hm6)
      have g3' : tp_cl (q (24 + 4 * m)) = g := g3
      have hgl : g < tp_cl (q 0) := by
        have := hq.2.1 m (by rw [hq1, hn]; omega)
        rw [g3'] at this; exact this
      have hg3 : g < 3 := by omega
      obtain ⟨d, d2, d1, d3⟩ := tp_xx (tp_rga hq.1 hg3)
      have next : ∀ w, tp_P u0 a (tp_mi1 m q) w → tp_T (f5_minersWork_p2 f a (nI (m + 1)) w) (fun w => tp_P u0 a (tp_ho1 r) w) := by
        intro w hw
        refine tc_miners_l hr hn f (m + 1) w (by omega) (by omega) ?_
        show tp_P u0 a (tp_mi1 m (tp_nf tp_mi1 m r)) w
        rw [hqq]; exact hw
      rw [tc_hasGallery h, tp_b2S, tp_if0, g1, (tp_ig_N hq.1).mpr ⟨g, hgl, rfl⟩, if_pos rfl, tl_gs (tp_ix hg3 (by omega)), tp_cn (by omega), tq_gG0 h hg3]
      have emi : tp_mi1 m q = if 60 ≤ q (18 + 2 * g) then q else if tp_lit q (nI g) (q (18 + 2 * g)) then tp_dig (nI g) (18 + 2 * g) 61 (tp_up (tp_up q (26 + 4 * m) (q (26 + 4 * m) + q (25 + 4 * m))) (19 + 2 * g) (q (19 + 2 * g) + q (25 + 4 * m))) else tp_up (tp_up q (27 + 4 * m) (q (27 + 4 * m) + 1)) 9 (q 9 + 1) := by
        unfold tp_mi1
        rw [g3', g1]
      by_cases c2 : 60 ≤ q (18 + 2 * g)
      · rw [if_pos c2, tp_L]
        rw [if_pos c2] at emi
        exact next v (by rw [emi]; exact h)
      · rw [if_neg c2, tl_gs (tp_ixn hg3 (by omega)), tc_isLit h hq.1, tp_b2S, tp_if0]
        rw [if_neg c2] at emi
        rcases e : tp_lit q (nI g) (q (18 + 2 * g)) with _ | _
        · rw [e, if_neg (by decide)] at emi
          rw [if_neg (by decide)]
          refine tq_pM3 h hm6 (fun v1 h1 => ?_)
          rw [tq_gM3 h hm6] at h1
          refine tq_p9 h1 (fun v2 h2 => ?_)
          rw [tq_g9 h1, tp_un (by omega)] at h2
          rw [tp_L]
          exact next v2 (emi ▸ h2)
        · rw [e, if_pos rfl] at emi
          rw [if_pos rfl]
          refine tq_pM2 h hm6 (fun v1 h1 => ?_)
          rw [tq_gM2 h hm6, tq_gM1 h hm6] at h1
          rw [tl_gs (tp_ixn hg3 (by omega)), tq_gM1 h1 hm6, tq_g10 h1, tp_un (by omega), tp_un (by omega)]
          refine tp_b2 (tc_strike h1 hg3 (d := d) (by rw [tp_un (by omega)]; exact d1) d2) (fun x v2 hv2 => ?_)
          obtain ⟨e1, h2⟩ := hv2
          have e1 : _ + x = _ := e1
          rw [tp_un (i := 26 + 4 * m) (j := 10) (by omega), tp_un (i := 26 + 4 * m) (j := 19 + 2 * g) (by omega), ← emi] at e1
          rw [tp_un (i := 26 + 4 * m) (j := 10) (by omega), tp_un (i := 26 + 4 * m) (j := 19 + 2 * g) (by omega), ← emi] at h2
          rw [e1]
          refine tq_p10 h2 (fun v3 h3 => ?_)
          rw [tp_uu, tp_ui] at h3
          rw [tp_L]
          exact next v3 h3
theorem tc_miners (h : tp_P u0 a r u) (hr : tp_Ok r) : tp_T (f5_minersWork a u) (tp_P u0 a (tp_ho1 r)) := by
  have := (tp_r1 hr.1).2
  exact tc_miners_l hr rfl tl_F 0 u (Nat.zero_le _) (by unfold tl_F; omega) h
theorem tc_burn_l (hr : tp_Ok r) {n : Nat} (hn : tp_cl (r 2) = n) : ∀ (f m : Nat) (v : tl_S), m ≤ n → n - m < f → tp_P u0 a (tp_nf tp_bu1 m r) v → tp_T (f5_lampsBurn_p2 f a (nI m) v) (fun w => tp_P u0 a (tp_ho2 r) w)
  | 0, _, _, _, h, _ => absurd h (Nat.not_lt_zero _)
  | f + 1, m, v, hm, hf, h => by
    have hn6 : n ≤ 8 := hn ▸ (tp_r2 hr.1).2
    have key : ∀ k, k ≤ m → tp_nf tp_bu1 k r 2 = r 2 := by
      intro k
      induction k with
      | zero => exact fun _ => rfl
      | succ k ih =>
        intro hk
        show tp_bu1 k (tp_nf tp_bu1 k r) 2 = r 2
        unfold tp_bu1
        split
        · exact ih (by omega)
        · rw [tp_un (by decide), tp_un (by omega)]; exact ih (by omega)
    have hq1 := key m (Nat.le_refl m)
    generalize hqq : tp_nf tp_bu1 m r = q at h hq1
    unfold f5_lampsBurn_p2
    have ele : (nI n ≤ nI m) = (n ≤ m) := tp_le (by omega) (by omega)
    rw [tq_g2 h, hq1, (tp_r2 hr.1).1, hn]
    by_cases c : n ≤ m
    · have hmn : m = n := by omega
      rw [if_pos (ele.mpr c)]
      refine tp_ret ?_
      unfold tp_ho2
      rw [hn, ← hmn, hqq]
      exact h
    · have hm6 : m < 8 := by omega
      have next : ∀ w, tp_P u0 a (tp_bu1 m q) w → tp_T (f5_lampsBurn_p2 f a (nI (m + 1)) w) (fun w => tp_P u0 a (tp_ho2 r) w) := by
        intro w hw
        refine tc_burn_l hr hn f (m + 1) w (by omega) (by omega) ?_
        show tp_P u0 a (tp_bu1 m (tp_nf tp_bu1 m r)) w
        rw [hqq]; exact hw
      rw [if_neg (fun z => c (ele.mp z)), tl_gs (tp_ix hm6 (by omega)), tp_cn (by omega), tq_gL1 h hm6, nI_1]
      by_cases c2 : q (49 + 4 * m) ≤ 0
      · rw [if_pos c2, tp_L]
        refine next v ?_
        unfold tp_bu1
        rw [if_pos c2]; exact h
      · rw [if_neg c2, tl_gs (tp_ixn hm6 (by omega))]
        refine tq_pL1 h hm6 (fun v1 h1 => ?_)
        refine tq_p5 h1 (fun v2 h2 => ?_)
        rw [tq_g5 h1, tp_un (by omega)] at h2
        rw [tp_L]
        refine next v2 ?_
        unfold tp_bu1
        rw [if_neg c2]; exact h2
theorem tc_burn (h : tp_P u0 a r u) (hr : tp_Ok r) : tp_T (f5_lampsBurn a u) (tp_P u0 a (tp_ho2 r)) := by
  have := (tp_r2 hr.1).2
  exact tc_burn_l hr rfl tl_F 0 u (Nat.zero_le _) (by unfold tl_F; omega) h
theorem tc_sees_l (hr : tp_Ok r) (ho : tp_cl (r 8) < 6) (h : tp_P u0 a r u) {N : Nat} (hN : tp_cl (r 0) = N) : ∀ (f g n : Nat), g + n = N → n < f → tp_T (f5_ladSeesTheDark_p2 f a (nI g) u) (tp_P u0 a (tp_se r n g))
  | 0, _, _, _, h => absurd h (Nat.not_lt_zero _)
  | f + 1, g, n, hg, hf => by
    have hN3 : N ≤ 3 := hN ▸ (tp_r0 hr.1).2
    unfold f5_ladSeesTheDark_p2
    have ele : (nI N ≤ nI g) = (N ≤ g) := tp_le (by omega) (by omega)
    rw [tq_g0 h, (tp_r0 hr.1).1, hN]
    rcases n with _ | n
    · rw [if_pos (ele.mpr (by omega))]
      exact tp_ret h
    · have g3 : g < 3 := by omega
      rw [if_neg (fun z => by have := ele.mp z; omega), tl_gs (tp_ix g3 (by omega)), tp_cn (by omega), tp_L, tq_gG0 h g3, nI_1]
      have ih := tc_sees_l hr ho h hN f (g + 1) n (by omega) (by omega)
      unfold tp_se
      have skip : tp_dk r g = false → tp_T (f5_ladSeesTheDark_p2 f a (nI (g + 1)) u) (tp_P u0 a (if (tp_dk r g && !decide (tp_fw r g (tp_cl (r 2)) = -1)) = true then tp_oo r 0 (tp_fw r g (tp_cl (r 2))) (nI g) (r (18 + 2 * g) - 1) else tp_se r n (g + 1))) := by
        intro e
        rw [e, Bool.false_and, if_neg (by decide)]
        exact ih
      have edk : tp_dk r g = (tp_wk r g && (!decide (r (18 + 2 * g) ≤ 1) && (!decide (60 ≤ r (18 + 2 * g)) && !tp_lit r (nI g) (r (18 + 2 * g))))) := rfl
      by_cases c1 : r (18 + 2 * g) ≤ 1
      · rw [if_pos c1, tp_L]
        refine skip ?_
        rw [edk, decide_eq_true c1]; simp
      · rw [if_neg c1]
        by_cases c2 : 60 ≤ r (18 + 2 * g)
        · rw [if_pos c2, tp_L]
          refine skip ?_
          rw [edk, decide_eq_true c2]; simp
        · rw [if_neg c2, tc_minersIn h hr.1, tp_b2S]
          have hle := tp_cnt_le (p := tp_isg r g) (tp_cl (r 1))
          have b1 := (tp_r1 hr.1).2
          have h0 := tp_cnt0 (p := tp_isg r g) (tp_cl (r 1))
          have ec : (nI (tp_cnt (tp_isg r g) (tp_cl (r 1))) ≤ 0) = (tp_cnt (tp_isg r g) (tp_cl (r 1)) = 0) := by rw [tp_k0, tp_le (by omega) (by omega)]; exact propext ⟨fun z => by omega, fun z => by omega⟩
          by_cases c3 : tp_cnt (tp_isg r g) (tp_cl (r 1)) = 0
          · rw [if_pos (ec.mpr c3), tp_L]
            refine skip ?_
            have : tp_wk r g = false := h0.mp c3
            rw [edk, this]; rfl
          · have hwk : tp_wk r g = true := by
              rcases e : tp_wk r g with _ | _
              · exact absurd (h0.mpr e) c3
              · rfl
            rw [if_neg (fun z => c3 (ec.mp z)), tc_isLit h hr.1, tp_b2S, tp_if0]
            rcases e : tp_lit r (nI g) (r (18 + 2 * g)) with _ | _
            · rw [if_neg (by decide), tc_fullest h hr.1 g3, tp_b2S]
              have hdk : tp_dk r g = true := by
                rw [edk, hwk, e, decide_eq_false c1, decide_eq_false c2]; rfl
              rw [hdk, Bool.true_and]
              by_cases c4 : tp_fw r g (tp_cl (r 2)) = -1
              · rw [if_pos c4, decide_eq_true c4, if_neg (by decide), tp_L]
                exact ih
              · rw [if_neg c4, decide_eq_false c4, if_pos (show (!false) = true from rfl)]
                exact tp_b2 (tc_addHang h hr.1 ho) (fun _ _ q => tp_ret q.2)
            · rw [if_pos rfl, tp_L]
              refine skip ?_
              rw [edk, e, hwk]; simp
theorem tc_sees (h : tp_P u0 a r u) (hr : tp_Ok r) (ho : tp_cl (r 8) < 6) : tp_T (f5_ladSeesTheDark a u) (tp_P u0 a (tp_sees r)) := by
  have := (tp_r0 hr.1).2
  exact tc_sees_l hr ho h rfl tl_F 0 _ (Nat.zero_add _) (by unfold tl_F; omega)
theorem tp_hrs_r : ∀ (n : Nat) (q : tp_R), tp_hrs (n + 1) q = tp_hrs n (tp_hour q)
  | 0, _ => rfl
  | n + 1, q => by
    rw [tp_hrs_s (n + 1), tp_hrs_r n q, ← tp_hrs_s]
theorem tc_hours_l {n : Nat} (hn : n ≤ 1000) {x : Int32} : ∀ (f i : Nat) (q : tp_R) (v : tl_S), tp_P u0 a q v → tp_Ok q → i ≤ n → n - i < f →
    tp_T (f5_letHoursGo_p7 f a (nI n) x (nI i) v) (fun p => p.1 = tp_hrs (n - i) q 10 - x ∧ tp_P u0 a (tp_hrs (n - i) q) p.2)
  | 0, _, _, _, _, _, _, h => absurd h (Nat.not_lt_zero _)
  | f + 1, i, q, v, h, hk, hi, hf => by
    unfold f5_letHoursGo_p7
    have ele : (nI n ≤ nI i) = (n ≤ i) := tp_le (by omega) (by omega)
    rw [tq_g10 h]
    by_cases c : n ≤ i
    · rw [if_pos (ele.mpr c), show n - i = 0 by omega]
      exact tp_ret ⟨rfl, h⟩
    · rw [if_neg (fun z => c (ele.mp z))]
      refine tq_p3 h (fun v1 h1 => ?_)
      rw [tq_g3 h] at h1
      have k1 : tp_Ok (tp_up q 3 (q 3 + 1)) := tp_Ok_up hk (tp_in_any rfl) (by unfold tp_fr; omega)
      refine tp_b (tc_miners h1 k1) (fun v2 h2 => ?_)
      have k2 := tp_Ok_ho1 k1
      refine tp_b (tc_burn h2 k2) (fun v3 h3 => ?_)
      have k3 := tp_Ok_ho2 k2
      refine tp_b2 (tc_goes h3 k3) (fun x4 v4 h4 => ?_)
      have k4 := tp_Ok_goes k3
      have h4 : tp_P u0 a _ v4 := h4
      have next : ∀ w, tp_P u0 a (tp_hour q) w → tp_T (tl_let (nI i + 1) (fun y => f5_letHoursGo_p7 f a (nI n) x y w)) (fun p => p.1 = tp_hrs (n - i) q 10 - x ∧ tp_P u0 a (tp_hrs (n - i) q) p.2) := by
        intro w hw
        rw [tp_L, nI_1]
        obtain ⟨k, hk3⟩ : ∃ k, n - i = k + 1 := ⟨n - i - 1, by omega⟩
        have := tc_hours_l (x := x) hn f (i + 1) _ w hw (tp_Ok_hour hk) (by omega) (by omega)
        rw [show n - (i + 1) = k by omega] at this
        rw [hk3, tp_hrs_r]
        exact this
      have eh : tp_hour q = tp_ho3 (tp_goes (tp_ho2 (tp_ho1 (tp_up q 3 (q 3 + 1))))) := rfl
      rw [tq_g17 h4, tq_g8 h4]
      generalize tp_goes (tp_ho2 (tp_ho1 (tp_up q 3 (q 3 + 1)))) = R at h4 k4 eh
      unfold tp_ho3 at eh
      by_cases d : R 17 = 1
      · rw [if_pos d] at eh
        rw [if_pos d]
        by_cases e : R 8 = 0
        · rw [if_pos e] at eh
          rw [if_pos e]
          refine tp_b (tc_sees h4 k4 ?_) (fun w hw => next w (eh ▸ hw))
          rw [e]; decide
        · rw [if_neg e] at eh
          rw [if_neg e]
          exact next _ (eh ▸ h4)
      · rw [if_neg d] at eh
        rw [if_neg d]
        exact next _ (eh ▸ h4)
theorem tc_hours (h : tp_P u0 a r u) (hk : tp_Ok r) {n : Nat} (hn : n ≤ 1000) : tp_T (f5_letHoursGo a (nI n) u) (fun p => p.1 = tp_hrs n r 10 - r 10 ∧ tp_P u0 a (tp_hrs n r) p.2) := by
  unfold f5_letHoursGo
  rw [tp_L, tq_g10 h]
  exact tc_hours_l hn tl_F 0 r u h hk (Nat.zero_le _) (by unfold tl_F; omega)
end TPU
