/-! What the lad of the class does. -/
section TPL
variable {α : Type} {a : Nat} {r : tp_R} {u0 u : tl_S} {f : tl_S → Option α} {Q : α → Prop}
theorem tq_w {i A F : Nat} {x y : Int32} (h : tp_P u0 a r u) (hi : i < 80) (h8 : i ≠ 8) (hA : A = a + tp_of i) (hF : F = tp_fld i) (hx : x = y) (k : ∀ v, v.2 = u.2 → tp_P u0 a (tp_up r i y) v → tp_T (f v) Q) : tp_T (tl_let ((tl_u u.1 A F x, u.2) : tl_S) f) Q := by
  subst hx
  exact k _ rfl (tp_put h hi h8 hA hF)
theorem tq_wL {x y : Int32} {l j B : Nat} (h : tp_P u0 a r u) (hl : l < 8) (hj : j < 4) (hB : B = (a + 3) + (18 + l)) (hx : x = y) (k : ∀ v, v.2 = u.2 → tp_P u0 a (tp_up r ((if j = 2 then 48 else if j = 3 then 49 else if j = 0 then 50 else 51) + 4 * l) y) v → tp_T (f v) Q) : tp_T (tl_let ((tl_u u.1 B j x, u.2) : tl_S) f) Q := by
  subst hB
  have o := tp_of_l l hl
  have e : (a + 3) + (18 + l) = a + (21 + l) := by omega
  refine tq_w h (i := (if j = 2 then 48 else if j = 3 then 49 else if j = 0 then 50 else 51) + 4 * l) ?_ ?_ ?_ ?_ hx k
  · split <;> (try split) <;> (try split) <;> omega
  · split <;> (try split) <;> (try split) <;> omega
  · split
    · rw [o.1.1, e]
    · split
      · rw [o.2.1.1, e]
      · split
        · rw [o.2.2.1.1, e]
        · rw [o.2.2.2.1, e]
  · split
    · rw [o.1.2]; assumption
    · split
      · rw [o.2.1.2]; assumption
      · split
        · rw [o.2.2.1.2]; assumption
        · rw [o.2.2.2.2]; omega
theorem tq_o (h : tp_P u0 a r u) {k : Nat} (hk : k < 6) : (a + 4) + 1 < u.2.1 ((a + 4) + 1) k ∧ u.2.1 ((a + 4) + 1) k < (a + 4) + 1 + 7 := h.1.2.1.1 k hk
theorem tq_o0 (h : tp_P u0 a r u) (ho : 0 < tp_cl (r 8)) : u.1 (u.2.1 ((a + 4) + 1) 0) 0 = r 80 := (h.1.2.2 0 (by decide) ho).1
theorem tq_o1 (h : tp_P u0 a r u) (ho : 0 < tp_cl (r 8)) : u.1 (u.2.1 ((a + 4) + 1) 0) 1 = r 81 := (h.1.2.2 0 (by decide) ho).2.1
theorem tq_o2 (h : tp_P u0 a r u) (ho : 0 < tp_cl (r 8)) (c : r 80 = 0) : u.1 (u.2.1 ((a + 4) + 1) 0) 2 = r 82 := ((h.1.2.2 0 (by decide) ho).2.2.1 c).1
theorem tq_o3 (h : tp_P u0 a r u) (ho : 0 < tp_cl (r 8)) (c : r 80 = 0) : u.1 (u.2.1 ((a + 4) + 1) 0) 3 = r 83 := ((h.1.2.2 0 (by decide) ho).2.2.1 c).2
theorem tq_o4 (h : tp_P u0 a r u) (ho : 0 < tp_cl (r 8)) (c : r 80 ≠ 0) : u.1 (u.2.1 ((a + 4) + 1) 0) 4 = r 82 := (h.1.2.2 0 (by decide) ho).2.2.2 c
theorem tc_isAt (h : tp_P u0 a r u) (hk : tp_Ok r) (ho : 0 < tp_cl (r 8)) : f3_isAt (a + 4) (tp_gg r) (tp_gc r) u = some (tp_b01 (tp_at r), u) := by
  have hat := tp_at_iff hk ho
  obtain ⟨q1, q2, -, -⟩ := tp_goal hk ho
  obtain ⟨p, p2, p1, p3⟩ := tp_xx q1
  obtain ⟨b, b2, b1, b3⟩ := tp_xx q2
  obtain ⟨c, c2, c1, c3⟩ := tp_xx (tp_r11 hk.1)
  obtain ⟨d, d2, d1, d3⟩ := tp_xx (tp_r12 hk.1)
  unfold tp_cl at hat
  rw [p3, b3, c3, d3] at hat
  unfold f3_isAt
  rw [tq_g12 h, tq_g11 h, p1, b1, c1, d1]
  rw [tp_k0]
  simp (disch := omega) only [tp_eq]
  rcases e : tp_at r with _ | _
  · rw [e] at hat
    by_cases c1 : d = b
    · rw [if_pos c1]
      by_cases c2 : b = 0
      · exact absurd (hat.mpr ⟨c1, Or.inl c2⟩) (by decide)
      · rw [if_neg c2]
        by_cases c3 : c = p
        · exact absurd (hat.mpr ⟨c1, Or.inr c3⟩) (by decide)
        · rw [if_neg c3]; rfl
    · rw [if_neg c1]; rfl
  · obtain ⟨e1, e2⟩ := hat.mp e
    rw [if_pos e1]
    by_cases c2 : b = 0
    · rw [if_pos c2]; rfl
    · rw [if_neg c2, if_pos (e2.resolve_left c2)]; rfl
theorem tc_step (h : tp_P u0 a r u) (hk : tp_Ok r) (ho : 0 < tp_cl (r 8)) (ha : tp_at r = false) : tp_T (f3_stepTowards (a + 4) (tp_gg r) (tp_gc r) u) (tp_P u0 a (tp_st r)) := by
  have hn : ¬ tp_at r = true := by rw [ha]; decide
  rw [tp_at_iff hk ho] at hn
  obtain ⟨q1, q2, -, -⟩ := tp_goal hk ho
  obtain ⟨p, p2, p1, p3⟩ := tp_xx q1
  obtain ⟨b, b2, b1, b3⟩ := tp_xx q2
  obtain ⟨c, c2, c1, c3⟩ := tp_xx (tp_r11 hk.1)
  obtain ⟨d, d2, d1, d3⟩ := tp_xx (tp_r12 hk.1)
  unfold tp_cl at hn
  rw [p3, b3, c3, d3] at hn
  have em : ∀ x : Int32, x - 1 = x + (-1) := fun x => Int32.sub_eq_add_neg x 1
  have hst : tp_st r = if c = p then (if b ≤ d then tp_up r 12 (nI (d - 1)) else tp_up r 12 (nI (d + 1))) else if d = 0 then tp_up (tp_up r 11 (nI p)) 12 1 else tp_up r 12 (nI (d - 1)) := by
    unfold tp_st
    rw [p1, b1, c1, d1]
    simp (disch := omega) only [tp_eq, tp_le, tp_k0]
    by_cases z1 : p = c
    · rw [if_pos z1, if_pos z1.symm]
      by_cases z2 : b ≤ d
      · rw [if_pos z2, if_pos z2, sb_m1 (by omega)]
      · rw [if_neg z2, if_neg z2, nI_1]
    · rw [if_neg z1, if_neg (show ¬ c = p from fun z => z1 z.symm)]
      by_cases z2 : d = 0
      · rw [if_pos (by omega), if_pos z2]
      · rw [if_neg (by omega), if_neg z2, tp_k1, tp_sb (by omega)]
  rw [hst]
  have p32 : tp_T (f3_stepTowards_p32 (a + 4) (nI p) (nI b) u) (tp_P u0 a (if c = p then (if b ≤ d then (if d = 0 then r else tp_up r 12 (nI (d - 1))) else tp_up r 12 (nI (d + 1))) else (if d = 0 then r else tp_up r 12 (nI (d - 1))))) := by
    unfold f3_stepTowards_p32
    rw [tq_g11 h, tq_g12 h, c1, d1]
    simp (disch := omega) only [tp_eq, tp_le, tp_k0]
    have dn : tp_T (if d ≤ 0 then some u else tl_let ((tl_u u.1 (a + 4) 3 (nI d - 1), u.2) : tl_S) (fun u8 => some u8)) (tp_P u0 a (if d = 0 then r else tp_up r 12 (nI (d - 1)))) := by
      by_cases z : d = 0
      · rw [if_pos (by omega), if_pos z]; exact tp_ret h
      · rw [if_neg (by omega), if_neg z]
        refine tq_w h (i := 12) (by decide) (by decide) rfl rfl (by rw [tp_k1, tp_sb (by omega)]) (fun v _ hv => tp_ret hv)
    by_cases z1 : c = p
    · rw [if_pos z1, if_pos z1]
      by_cases z2 : b ≤ d
      · rw [if_pos z2, if_pos z2]; exact dn
      · rw [if_neg z2, if_neg z2]
        refine tq_w h (i := 12) (by decide) (by decide) rfl rfl (by rw [nI_1]) (fun v _ hv => tp_ret hv)
    · rw [if_neg z1, if_neg z1]; exact dn
  unfold f3_stepTowards
  rw [tq_g11 h, tq_g12 h, c1, d1, p1, b1]
  simp (disch := omega) only [tp_eq, tp_le, tp_k0]
  by_cases z1 : c = p
  · rw [if_pos z1, if_pos z1]
    rw [if_pos z1] at p32
    by_cases z2 : b ≤ d
    · rw [if_pos z2, if_neg (show ¬ d = 0 by omega)] at p32
      rw [if_pos z2]; exact p32
    · rw [if_neg z2] at p32
      rw [if_neg z2]; exact p32
  · rw [if_neg z1, if_neg z1]
    rw [if_neg z1] at p32
    by_cases z2 : d = 0
    · rw [if_pos z2, if_pos z2, if_neg (show ¬ b ≤ 0 by omega)]
      refine tq_w h (i := 11) (by decide) (by decide) rfl rfl rfl (fun v _ hv => ?_)
      refine tq_w hv (i := 12) (by decide) (by decide) rfl rfl rfl (fun v _ hv => tp_ret hv)
    · rw [if_neg z2] at p32
      rw [if_neg z2, if_neg z2]; exact p32
def tp_HQ (u0 : tl_S) (a : Nat) (r : tp_R) (p : Int32 × tl_S) : Prop := p.1 = tp_b01 (tp_at r) ∧ tp_P u0 a (if tp_at r then tp_han r else r) p.2
theorem tp_HQn (h : tp_P u0 a r u) (e : tp_at r = false) : tp_HQ u0 a r (0, u) := by
  unfold tp_HQ
  rw [e]
  exact ⟨rfl, h⟩
theorem tp_HQy {q : tp_R} (e : tp_at r = true) (h : tp_P u0 a q u) (hq : q = tp_han r) : tp_HQ u0 a r (1, u) := by
  unfold tp_HQ
  rw [e, ← hq]
  exact ⟨rfl, h⟩
theorem tc_takes (h : tp_P u0 a r u) (hk : tp_Ok r) (ho : 0 < tp_cl (r 8)) (c1 : r 80 = 0) (c2 : r 13 = -1) {o l : Nat} (hl : l = tp_cl (r 81)) (hoo : o = u.2.1 ((a + 4) + 1) 0) : tp_T (f5_takesLamp a o ((a + 3) + (18 + l)) u) (tp_HQ u0 a r) := by
  obtain ⟨⟨w1, w2⟩, w3, -, -, -, -⟩ := tp_Ok_ord hk ho
  have hl8 : l < 8 := by omega
  have egg : tp_gg r = r (50 + 4 * l) := by unfold tp_gg; rw [if_pos c1, if_pos c2, hl]
  have egc : tp_gc r = r (51 + 4 * l) := by unfold tp_gc; rw [if_pos c1, if_pos c2, hl]
  unfold f5_takesLamp
  rw [tq_gL2 h hl8, tq_gL3 h hl8, ← egg, ← egc, tc_isAt h hk ho, tp_b2S, tp_if0]
  rcases e : tp_at r with _ | _
  · rw [if_neg (by decide)]
    exact tp_ret (tp_HQn h e)
  · rw [if_pos rfl]
    refine tq_w h (i := 11) (by decide) (by decide) rfl rfl (tq_gL2 h hl8) (fun v ev hv => ?_)
    have o1 : v.1 o 1 = r 81 := by
      rw [hoo, show u.2.1 ((a + 4) + 1) 0 = v.2.1 ((a + 4) + 1) 0 by rw [ev], tq_o1 hv (by rw [tp_un (by decide)]; exact ho), tp_un (by decide)]
    refine tq_w hv (i := 13) (by decide) (by decide) rfl rfl o1 (fun v _ hv => ?_)
    refine tq_wL hv hl8 (j := 0) (by decide) rfl rfl (fun v _ (hv : tp_P u0 a (tp_up _ (50 + 4 * l) _) v) => ?_)
    refine tq_wL hv hl8 (j := 1) (by decide) rfl rfl (fun v _ (hv : tp_P u0 a (tp_up _ (51 + 4 * l) _) v) => ?_)
    refine tp_ret (tp_HQy e hv ?_)
    unfold tp_han
    rw [if_pos c1, if_pos c2, hl]
theorem tp_od15 {q : tp_R} (h : q 15 = 0) : tp_up (tp_od 0 q) 15 0 = tp_od 0 q := by
  have e : tp_od 0 q 15 = 0 := (tp_od_n (by decide) (by decide)).trans h
  have := tp_ui (tp_od 0 q) 15
  rw [e] at this
  exact this
theorem tc_rem0 (h : tp_P u0 a r u) (hr : tp_rng r) (ho : 0 < tp_cl (r 8)) : tp_T (f3_removeOrder (a + 4) 0 u) (fun p => tp_P u0 a (tp_up (tp_od 0 r) 15 0) p.2) :=
  tp_mono (tc_remove (k := 0) h hr ho) (fun _ q => q.2)
theorem tc_hangs (h : tp_P u0 a r u) (hk : tp_Ok r) (ho : 0 < tp_cl (r 8)) (c1 : r 80 = 0) (c2 : ¬ r 13 = -1) {o l : Nat} (hl : l = tp_cl (r 81)) (hoo : o = u.2.1 ((a + 4) + 1) 0) : tp_T (f5_hangsLamp a o ((a + 3) + (18 + l)) u) (tp_HQ u0 a r) := by
  obtain ⟨⟨w1, w2⟩, w3, w4, -, -, w5⟩ := tp_Ok_ord hk ho
  obtain ⟨w6, w7⟩ := w4 c1
  obtain ⟨n2, x2, y2, z2⟩ := tp_xx (tp_row hk.1 (k := 0) (by decide))
  have y2 : r 82 = nI n2 := y2
  have z2 : tp_cl (r 82) = n2 := z2
  obtain ⟨n3, x3, y3, z3⟩ := tp_xx ((tp_roc hk.1 (k := 0) (by decide)).resolve_left w7)
  have y3 : r 83 = nI n3 := y3
  have hl8 : l < 8 := by omega
  have egg : tp_gg r = r 82 := by unfold tp_gg; rw [if_pos c1, if_neg c2]
  have egc : tp_gc r = r 83 := by unfold tp_gc; rw [if_pos c1, if_neg c2]
  have ou : ∀ v : tl_S, v.2 = u.2 → o = v.2.1 ((a + 4) + 1) 0 := fun v ev => by rw [hoo, ev]
  unfold f5_hangsLamp
  rw [hoo, tq_o2 h ho c1, tq_o3 h ho c1, ← hoo, ← egg, ← egc, tc_isAt h hk ho, tp_b2S, tp_if0]
  rcases e : tp_at r with _ | _
  · rw [if_neg (by decide)]
    exact tp_ret (tp_HQn h e)
  · rw [if_pos rfl]
    refine tq_w h (i := 11) (by decide) (by decide) rfl rfl (show u.1 o 2 = r 82 by rw [hoo]; exact tq_o2 h ho c1) (fun v ev hv => ?_)
    refine tq_w hv (i := 13) (by decide) (by decide) rfl rfl rfl (fun v ev2 hv => ?_)
    have o2 : v.1 o 2 = r 82 := by
      rw [ou v (ev2.trans ev), tq_o2 hv (by rw [tp_un (by decide), tp_un (by decide)]; exact ho) (by rw [tp_un (by decide), tp_un (by decide)]; exact c1), tp_un (by decide), tp_un (by decide)]
    refine tq_wL hv hl8 (j := 0) (by decide) rfl o2 (fun v ev3 (hv : tp_P u0 a (tp_up _ (50 + 4 * l) _) v) => ?_)
    have o3 : v.1 o 3 = r 83 := by
      rw [ou v (ev3.trans (ev2.trans ev)), tq_o3 hv (by rw [tp_un (by omega), tp_un (by decide), tp_un (by decide)]; exact ho) (by rw [tp_un (by omega), tp_un (by decide), tp_un (by decide)]; exact c1), tp_un (by omega), tp_un (by decide), tp_un (by decide)]
    refine tq_wL hv hl8 (j := 1) (by decide) rfl o3 (fun v ev3 (hv : tp_P u0 a (tp_up _ (51 + 4 * l) _) v) => ?_)
    have hg := tp_rng_up (tp_rng_up (tp_rng_up (tp_rng_up hk.1 (i := 11) (x := r 82) (tp_inN rfl y2 (by omega))) (i := 13) (x := -1) (tp_inm1 rfl)) (i := 50 + 4 * l) (x := r 82) (tp_inM (tp_kd_lg l hl8) y2 (by omega))) (i := 51 + 4 * l) (x := r 83) (tp_inM (tp_kd_lc l hl8) y3 x3)
    refine tp_b2 (tc_rem0 hv hg (by rw [tp_un (by omega), tp_un (by omega), tp_un (by decide), tp_un (by decide)]; exact ho)) (fun x v hv => tp_ret (tp_HQy e hv ?_))
    have h15 : tp_up (tp_up (tp_up (tp_up r 11 (r 82)) 13 (-1)) (50 + 4 * l) (r 82)) (51 + 4 * l) (r 83) 15 = 0 := by
      rw [tp_un (by omega), tp_un (by omega), tp_un (by decide), tp_un (by decide)]
      exact w5 c1
    refine (tp_od15 h15).trans ?_
    unfold tp_han
    rw [if_pos c1, if_neg c2, ← hl, tp_uc (r := tp_up r 11 (r 82)) (i := 13) (j := 50 + 4 * l) (by omega), tp_uc (i := 13) (j := 51 + 4 * l) (by omega)]
theorem tc_fetches (h : tp_P u0 a r u) (hk : tp_Ok r) (ho : 0 < tp_cl (r 8)) (c1 : ¬ r 80 = 0) (c2 : r 15 = 0) {o : Nat} (hoo : o = u.2.1 ((a + 4) + 1) 0) : tp_T (f5_fetchesOil a o u) (tp_HQ u0 a r) := by
  have hat := tp_at_iff hk ho
  have egg : tp_gg r = r 11 := by unfold tp_gg; rw [if_neg c1, if_pos c2]
  have egc : tp_gc r = 0 := by unfold tp_gc; rw [if_neg c1, if_pos c2]
  rw [egg, egc, tp_cl0] at hat
  obtain ⟨d, d2, d1, d3⟩ := tp_xx (tp_r12 hk.1)
  unfold tp_cl at hat
  rw [d3] at hat
  have o4 : u.1 o 4 = r 82 := by rw [hoo]; exact tq_o4 h ho c1
  unfold f5_fetchesOil
  rw [tq_g12 h, d1, tp_k0]
  simp (disch := omega) only [tp_eq]
  rcases e : tp_at r with _ | _
  · rw [e] at hat
    rw [if_neg (fun z => absurd (hat.mpr ⟨z, Or.inl rfl⟩) (by decide))]
    exact tp_ret (tp_HQn h e)
  · rw [if_pos (hat.mp e).1, tq_g4 h, o4]
    have key : ∀ x : Int32, tp_T (tl_let ((tl_u u.1 (a + 4) 5 x, u.2) : tl_S) (fun u4 => tl_let ((tl_u u4.1 (a + 4) 6 1, u4.2) : tl_S) (fun u5 => tl_let ((tl_u u5.1 a 8 ((u5.1 a 8) - (u5.1 (a + 4) 5)), u5.2) : tl_S) (fun u6 => some ((1 : Int32), u6))))) (fun p => p.1 = 1 ∧ tp_P u0 a (tp_tk1 x r) p.2) := by
      intro x
      refine tq_w h (i := 14) (by decide) (by decide) rfl rfl rfl (fun v _ hv => ?_)
      refine tq_w hv (i := 15) (by decide) (by decide) rfl rfl rfl (fun v _ hv => ?_)
      refine tq_w hv (i := 4) (y := r 4 - x) (by decide) (by decide) rfl rfl ?_ (fun v _ hv => ?_)
      · rw [tq_g4 hv, tq_g14 hv, tp_un (by decide), tp_un (by decide), tp_un (by decide), tp_us]
      · refine tp_ret ⟨rfl, tp_P_eq hv ?_⟩
        unfold tp_tk1
        rw [tp_uc (r := tp_up r 14 x) (i := 15) (j := 4) (by decide), tp_uc (i := 14) (j := 4) (by decide)]
    have fin : (if r 4 < r 82 then tp_tk1 (r 4) r else tp_tk1 (r 82) r) = tp_han r := by
      unfold tp_han tp_take
      rw [if_neg c1, if_pos c2]
      obtain ⟨p, p2, p1, p3⟩ := tp_xx (tp_r4 hk.1)
      obtain ⟨n2, x2, y2, z2⟩ := tp_xx (tp_row hk.1 (k := 0) (by decide))
      have y2 : r 82 = nI n2 := y2
      rw [p1, y2]
      simp (disch := omega) only [tp_lt, tp_le]
      by_cases z : p < n2
      · rw [if_pos z, if_pos (by omega)]
      · rw [if_neg z]
        by_cases w : p = n2
        · rw [w, if_pos (by omega)]
        · rw [if_neg (by omega)]
    by_cases z : r 4 < r 82
    · rw [if_pos z] at fin ⊢
      refine tp_mono (key _) (fun p hp => ?_)
      obtain ⟨p1, p2⟩ := p
      obtain ⟨rfl, hp⟩ := hp
      exact tp_HQy e hp fin
    · rw [if_neg z] at fin ⊢
      refine tp_mono (key _) (fun p hp => ?_)
      obtain ⟨p1, p2⟩ := p
      obtain ⟨rfl, hp⟩ := hp
      exact tp_HQy e hp fin
end TPL
