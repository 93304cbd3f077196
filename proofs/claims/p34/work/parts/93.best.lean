/-! The best cell is the best one. -/
section TZX
variable {T : Nat} {s s1 : tz_S} {a b g l n : Nat} {U : tz_U} {r : tp_R}
theorem tz_ic {c : Nat} (hr : tp_rng r) (hg : g < tp_cl (r 0)) (hc : c < tz_d r g) : tp_ic r (nI g) (nI c) = true := by
  have b0 := (tp_r0 hr).2
  obtain ⟨d, d2, d1, d3⟩ := tp_xx (tp_rga hr (show g < 3 by omega))
  have d3 : tz_d r g = d := d3
  unfold tp_ic
  rw [tz_ig hr hg, tz_cn (by omega), d1, decide_eq_false (show ¬ nI c < 0 by rw [tp_k0, tp_lt (by omega) (by decide)]; omega), decide_eq_false (show ¬ nI d ≤ nI c by rw [tp_le (by omega) (by omega)]; omega)]
  rfl
theorem tz_rf6 {c : Nat} (hr : tp_rng r) (hl : l < tp_cl (r 2)) (hg : g < tp_cl (r 0)) (hc : c < tz_d r g) (h8 : ¬ 6 ≤ r 8) : tp_rf 6 (nI l) (nI g) (nI c) 0 r = 0 := by
  refine tp_rf6.mpr ?_
  rw [tz_il hr hl, tz_ic hr hg hc, decide_eq_false h8]
  rfl
theorem tz_Ok_oo {c : Nat} (hk : tp_Ok r) (hl : l < tp_cl (r 2)) (hg : g < tp_cl (r 0)) (hc : c < tz_d r g) (h8 : ¬ 6 ≤ r 8) : tp_Ok (tp_oo r 0 (nI l) (nI g) (nI c)) :=
  tp_Ok_pf (q := 6) (a := nI l) (b := nI g) (c := nI c) (d := 0) hk (tz_rf6 hk.1 hl hg hc h8)
theorem tz_bd {c : Nat} (hk : tp_Ok r) (hl : l < tp_cl (r 2)) (hg : g < tp_cl (r 0)) (hc : c < tz_d r g) (h8 : ¬ 6 ≤ r 8) : ∃ k, k ≤ 180 ∧ tp_bd r l g n c = nI k := tp_hrs_dug n (tz_Ok_oo hk hl hg hc h8)
theorem tz_bc (hk : tp_Ok r) (hl : l < tp_cl (r 2)) (hg : g < tp_cl (r 0)) (h8 : ¬ 6 ≤ r 8) : ∀ c, c < tz_d r g → ∃ m, m ≤ c ∧ tp_bc r l g n (c + 1) = (nI m, tp_bd r l g n m) ∧ ∀ j, j ≤ c → (tp_bd r l g n j).toInt < (tp_bd r l g n m).toInt ∨ ((tp_bd r l g n j).toInt = (tp_bd r l g n m).toInt ∧ j ≤ m)
  | 0, hc => by
    obtain ⟨k, k1, k2⟩ := tz_bd (n := n) hk hl hg hc h8
    refine ⟨0, Nat.le_refl _, ?_, fun j hj => Or.inr ⟨by rw [show j = 0 by omega], by omega⟩⟩
    show (if tp_bd r l g n 0 < 0 then _ else _) = _
    rw [if_neg (by rw [k2, tp_k0, tp_lt (by omega) (by decide)]; omega)]
  | c + 1, hc => by
    obtain ⟨m, m1, m2, m3⟩ := tz_bc hk hl hg h8 c (by omega)
    unfold tp_bc
    rw [m2]
    dsimp only
    by_cases h : tp_bd r l g n (c + 1) < tp_bd r l g n m
    · rw [if_pos h]
      refine ⟨m, by omega, rfl, fun j hj => ?_⟩
      by_cases e : j = c + 1
      · rw [e]
        rw [tp_lti] at h
        exact Or.inl h
      · exact m3 j (by omega)
    · rw [if_neg h]
      refine ⟨c + 1, Nat.le_refl _, rfl, fun j hj => ?_⟩
      rw [tp_lti] at h
      by_cases e : j = c + 1
      · rw [e]; exact Or.inr ⟨rfl, Nat.le_refl _⟩
      · have := m3 j (by omega)
        omega
theorem tz_hang2 {c : Nat} (h : tz_P a b s U) (hab : a ≠ b) (hf : tp_rf 6 (nI l) (nI g) (nI c) 0 s.1 = 0) : ∃ U1 U2 s', fL_call a 13 (nI l) (nI g) (nI c) U = some (s.1 8 + 1, U1) ∧ fL_call b 13 (nI l) (nI g) (nI c) U1 = some (s.1 8 + 1, U2) ∧ tz_P a b s' U2 ∧ s'.1 = tp_oo s.1 0 (nI l) (nI g) (nI c) ∧ ∀ k s0, tz_B k s0 s → k + 1 ≤ 14 → tz_B (k + 1) s0 s' := by
  obtain ⟨U1, U2, e1, e2, e3, e4, -⟩ := tz_2 (f := fun a U => fL_call a 13 (nI l) (nI g) (nI c) U) (F := tz_act 6 (nI l) (nI g) (nI c) 0) h hab (fun a U => gc_13)
  have ea : tz_an (tz_act 6 (nI l) (nI g) (nI c) 0 s).1 (tz_act 6 (nI l) (nI g) (nI c) 0 s).2.1 = s.1 8 + 1 := by
    rw [tz_act_0 hf]; rfl
  rw [ea] at e1 e2
  refine ⟨U1, U2, _, e1, e2, e3, ?_, fun k s0 hb hk => tz_B_act hb hk hf⟩
  rw [tz_act_0 hf]; rfl
theorem tz_k328 {s0 : tz_S} (hP : tz_P a b s U) (hab : a ≠ b) (hB : tz_B 2 s0 s) : ∃ U' s', fL_best_p328 a b U = some (1, U') ∧ tz_P a b s' U' ∧ tz_B 0 s0 s' := by
  obtain ⟨U1, U2, s2, d, e1, e2, e3, e4, e5⟩ := tz_undo2 hP hab hB
  have hB2 := e5 _ _ hB
  obtain ⟨U3, U4, s4, f, f1, f2, f3, f4, f5⟩ := tz_undo2 e4 hab hB2
  refine ⟨U4, s4, ?_, f4, f5 _ _ hB2⟩
  unfold fL_best_p328
  rw [e1, tp_b2S, tz_thrown e3, tp_b2S, if_pos rfl, e2, tp_b2S, tz_thrown e3, tp_b2S, if_pos rfl, f1, tp_b2S, tz_thrown f3, tp_b2S, if_pos rfl, f2, tp_b2S, tz_thrown f3, tp_b2S, if_pos rfl]
theorem tz_k238 {m o : Nat} {most : Int32} (hV : tz_V T s.1) (hP : tz_P a b s1 U) (hab : a ≠ b) (hB : tz_B 0 s s1) (hl : l < tp_cl (s.1 2)) (hg : g < tp_cl (s.1 0)) (h8 : ¬ 6 ≤ s.1 8) (n1 : 1 ≤ n) (n2 : n ≤ 60) (ho : o < tz_d s.1 g) (hm : m < 1000) (hmo : most = tp_bd s.1 l g n m)
    (hb : (tp_bd s.1 l g n o).toInt < (tp_bd s.1 l g n m).toInt ∨ ((tp_bd s.1 l g n o).toInt = (tp_bd s.1 l g n m).toInt ∧ o ≤ m)) : ∃ U' s', fL_best_p238 a b (nI g) (nI l) (nI n) (nI m) (nI o) most U = some (1, U') ∧ tz_P a b s' U' ∧ tz_B 0 s s' := by
  have e1 := tz_B_now hB
  have hk := hV.1.1
  have d60 := (tp_rga hk.1 (show g < 3 by have := (tp_r0 hk.1).2; omega)).2
  have d60 : tz_d s.1 g ≤ 60 := d60
  obtain ⟨U1, U2, s2, a1, a2, a3, a4, a5⟩ := tz_hang2 (c := o) hP hab (by rw [e1]; exact tz_rf6 hk.1 hl hg ho h8)
  have B1 := a5 _ _ hB (by decide)
  rw [e1] at a1 a2 a4
  obtain ⟨U3, U4, s4, d, c1, c2, c3, c4, c5, c6, -, c7⟩ := tz_hours a3 hab (by rw [a4]; exact tz_Ok_oo hk hl hg ho h8) n1 n2
  have B2 := c7 _ _ B1 (by decide)
  obtain ⟨U', s', u1, u2, u3⟩ := tz_k328 c3 hab B2
  refine ⟨U', s', ?_, u2, u3⟩
  have ed : tp_bd s.1 l g n o = nI d := by rw [← c6, a4]; rfl
  obtain ⟨q, q2, q1, q3⟩ := tp_xx (tp_r8 hk.1)
  have p8 : ¬ s.1 8 + 1 ≤ 0 := by rw [q1, nI_1, tp_k0, tp_le (by omega) (by decide)]; omega
  unfold fL_best_p238
  rw [a1, tp_b2S, if_neg p8, a2, tp_b2S, if_neg p8]
  unfold fL_best_p273
  rw [c1, tp_b2S, if_neg (by decide), c2, tp_b2S, if_pos rfl, hmo, ← ed]
  by_cases lt : tp_bd s.1 l g n o < tp_bd s.1 l g n m
  · rw [if_pos lt]; exact u1
  · rw [if_neg lt]
    rw [tp_lti] at lt
    rcases hb with hb | ⟨hb, hb2⟩
    · exact absurd hb lt
    · rw [if_pos (Int32.toInt_inj.mp hb), if_neg (by rw [tp_lt (by omega) (by omega)]; omega)]
      exact u1
/-- best -/
theorem tz_best_ok2 {x : Nat} (hJ : tz_J T s) (hP : tz_P a b s U) (hab : a ≠ b) (hx : x < 2147483648) : ∃ U' s', fL_best a b (nI x) U = some (1, U') ∧ tz_P a b s' U' ∧ tz_B 0 s s' := by
  have hV := hJ.2.1
  have hk := hV.1.1
  have hr := hk.1
  have hG := hV.2.1.1
  obtain ⟨G, G2, G1, G3⟩ := tp_xx (tp_r0 hr)
  obtain ⟨N, N2, N1, N3⟩ := tp_xx (tp_r2 hr)
  obtain ⟨q, q2, q1, q3⟩ := tp_xx (tp_r8 hr)
  have G3 : tp_cl (s.1 0) = G := G3
  have N3 : tp_cl (s.1 2) = N := N3
  unfold fL_best
  rw [gA_2, tp_b2S, hP.1]
  by_cases z2 : s.1 2 = 0
  · rw [if_pos z2]
    exact ⟨U, s, rfl, hP, tz_B_0 hJ.1⟩
  · rw [if_neg z2, gA_10, tp_b2S, hP.1]
    by_cases z8 : s.1 8 = 6
    · rw [if_pos z8]
      exact ⟨U, s, rfl, hP, tz_B_0 hJ.1⟩
    · have h8 : ¬ 6 ≤ s.1 8 := by
        rw [q1, tp_k6, tp_le (by decide) (by omega)]
        rw [q1, tp_k6, tp_eq (by omega) (by decide)] at z8
        omega
      rw [G3] at hG
      have hN : 0 < N := by rw [N1, tp_k0, tp_eq (by omega) (by decide)] at z2; omega
      have hg : x % G < tp_cl (s.1 0) := by rw [G3]; exact Nat.mod_lt _ hG
      have hl : x / 3 % N < tp_cl (s.1 2) := by rw [N3]; exact Nat.mod_lt _ hN
      have eg : nI x - nI x / nI G * nI G = nI (x % G) := pk_rem (by omega) hG (by omega)
      have e3 : nI x / 3 = nI (x / 3) := pk_div (d := 3) hx (by decide) (by decide)
      have el : nI (x / 3) - nI (x / 3) / nI N * nI N = nI (x / 3 % N) := pk_rem (by omega) hN (by omega)
      have e24 : nI x / 24 = nI (x / 24) := pk_div (d := 24) hx (by decide) (by decide)
      have e30 : nI (x / 24) - nI (x / 24) / 30 * 30 = nI (x / 24 % 30) := pk_rem (d := 30) (by omega) (by decide) (by decide)
      have en : (1 : Int32) + nI (x / 24 % 30) = nI (1 + x / 24 % 30) := nI_add 1 _
      have e720 : nI x / 720 = nI (x / 720) := pk_div (d := 720) hx (by decide) (by decide)
      have g0 : ¬ nI G = 0 := by rw [tp_k0, tp_eq (by omega) (by decide)]; omega
      have l0 : ¬ nI N = 0 := by rw [tp_k0, tp_eq (by omega) (by decide)]; omega
      generalize hg2 : x % G = g at hg eg
      generalize hl2 : x / 3 % N = l at hl el
      generalize hn2 : 1 + x / 24 % 30 = n at en
      have g3 : g < 3 := by omega
      obtain ⟨D, D2, D1, D3⟩ := tp_xx (tp_rga hr g3)
      have D3 : tz_d s.1 g = D := D3
      have hD := (hV.2.1.2 g hg).1
      rw [D3] at hD
      have eo : nI (x / 720) - nI (x / 720) / nI D * nI D = nI (x / 720 % D) := pk_rem (by omega) hD (by omega)
      have ho : x / 720 % D < tz_d s.1 g := by rw [D3]; exact Nat.mod_lt _ hD
      generalize x / 720 % D = o at eo ho
      obtain ⟨m, m1, m2, m3⟩ := tz_bc (n := n) hk hl hg h8 (D - 1) (by omega)
      rw [show D - 1 + 1 = D by omega] at m2
      have hm : m < tz_d s.1 g := by omega
      have a21 : fL_call a 21 (nI l) (nI g) (nI n) U = some (nI m, U) := by
        rw [gc_21]
        unfold fL_tryBest tz_best
        have e0 : tp_ro (tp_il s.1 (nI l) && tp_ig s.1 (nI g)) (tp_iw (nI n) 1 100) (!decide (6 ≤ s.1 8)) = 0 := by
          rw [tz_il hr hl, tz_ig hr hg, show tp_iw (nI n) 1 100 = true from tz_iw_in (L := 1) (B := 100) (by decide) (by omega) (by omega), decide_eq_false h8]
          rfl
        rw [hP.1, e0, ← hP.1, tz_o0, hP.1, tz_cn (by omega), tz_cn (by omega), tz_cn (by omega), D1, tz_cn (by omega), m2]
      have a3 : fL_call a 3 (nI g) 0 0 U = some (nI D, U) := by
        rw [tz_gT0 (n := 0) hV hg hP.1 rfl]
        exact congrArg (fun z => some (z, U)) D1
      obtain ⟨U1, U2, s2, b1, b2, b3, b4, b5⟩ := tz_hang2 (c := m) hP hab (tz_rf6 hr hl hg hm h8)
      have B1 := b5 _ _ (tz_B_0 hJ.1) (by decide)
      obtain ⟨U3, U4, s4, d, c1, c2, c3, c4, c5, c6, -, c7⟩ := tz_hours (p := n) b3 hab (by rw [b4]; exact tz_Ok_oo hk hl hg hm h8) (by omega) (by omega)
      have B2 := c7 _ _ B1 (by decide)
      have ed : tp_bd s.1 l g n m = nI d := by rw [← c6, b4]; rfl
      obtain ⟨U5, U6, s6, f, f1, f2, f3, f4, f5⟩ := tz_undo2 c3 hab B2
      have B3 := f5 _ _ B2
      obtain ⟨U7, U8, s8, h, h1, h2, h3, h4, h5⟩ := tz_undo2 f4 hab B3
      have B4 := h5 _ _ B3
      obtain ⟨U', s', u1, u2, u3⟩ := tz_k238 (o := o) (m := m) (n := n) (most := nI d) hV h4 hab B4 hl hg h8 (by omega) (by omega) ho (by omega) ed.symm (m3 o (by omega))
      refine ⟨U', s', ?_, u2, u3⟩
      have p8 : ¬ s.1 8 + 1 ≤ 0 := by rw [q1, nI_1, tp_k0, tp_le (by omega) (by decide)]; omega
      rw [if_neg z8, gA_0, tp_b2S, hP.1, G1, tl_gs g0, tp_L, eg, N1, tl_gs l0, tp_L, e3, el, e24, e30, en, tp_L, a21, tp_b2S, a3, tp_b2S, tl_gs (show ¬ nI D = 0 by rw [tp_k0, tp_eq (by omega) (by decide)]; omega), tp_L, e720, eo, if_neg (show ¬ nI m < 0 by rw [tp_k0, tp_lt (by omega) (by decide)]; omega), a3, tp_b2S, if_neg (show ¬ nI D ≤ nI m by rw [tp_le (by omega) (by omega)]; omega), b1, tp_b2S, if_neg p8, b2, tp_b2S, if_neg p8]
      unfold fL_best_p144
      rw [c1, tp_b2S, if_neg (by decide), c2, tp_b2S, if_pos rfl, f1, tp_b2S, tz_thrown f3, tp_b2S, if_pos rfl, f2, tp_b2S, tz_thrown f3, tp_b2S, if_pos rfl, h1, tp_b2S, tz_thrown h3, tp_b2S, if_pos rfl, h2, tp_b2S, tz_thrown h3, tp_b2S, if_pos rfl]
      exact u1
end TZX
