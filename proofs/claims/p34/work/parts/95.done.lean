/-! The lad has done his orders when that was told. -/
section TZDN
variable {T : Nat} {s s1 s3 : tz_S} {a b : Nat} {U : tz_U} {r : tp_R}
theorem tz_lay2 {x y : Int32} (h : tz_P a b s U) (hab : a ≠ b) (hf : tp_is x y = true) : ∃ U1 U2 s', fL_call a 16 x y 0 U = some (tp_pa 9 x y s.1, U1) ∧ fL_call b 16 x y 0 U1 = some (tp_pa 9 x y s.1, U2) ∧ tz_P a b s' U2 ∧ s'.1 = tp_sg x y s.1 ∧ U1 b = s ∧ ∀ k s0, tz_B k s0 s → k + 1 ≤ 14 → tz_B (k + 1) s0 s' := by
  obtain ⟨U1, U2, e1, e2, e3, e4, e5⟩ := tz_2 (f := fun a U => fL_call a 16 x y 0 U) (F := tz_act 9 x y 0 0) h hab (fun a U => gc_16)
  have c : tp_rf 9 x y 0 0 s.1 = 0 := by
    show tp_ro true (tp_is x y) true = 0
    rw [hf]; rfl
  have ea : tz_an (tz_act 9 x y 0 0 s).1 (tz_act 9 x y 0 0 s).2.1 = tp_pa 9 x y s.1 := by rw [tz_act_0 c]; rfl
  rw [ea] at e1 e2
  refine ⟨U1, U2, _, e1, e2, e3, ?_, e5, fun k s0 hb hk => tz_B_act hb hk c⟩
  rw [tz_act_0 c]; rfl
theorem tz_r17 (h : tp_rng r) : ∃ w, w ≤ 1 ∧ r 17 = nI w ∧ tp_cl (r 17) = w := tz_nat (i := 17) (b := 1) h rfl (by decide)
theorem tz_r16 (h : tp_rng r) : ∃ w, w ≤ 12 ∧ r 16 = nI w ∧ tp_cl (r 16) = w := tz_nat (i := 16) (b := 12) h rfl (by decide)
theorem tz_k295 (hV : tz_V T s.1) (hP : tz_P a b s3 U) (hab : a ≠ b) (hB : tz_B 1 s s3) : ∃ U' s', fL_done_p295 a b (s.1 17) 1 U = some (1, U') ∧ tz_P a b s' U' ∧ tz_B 0 s s' := by
  obtain ⟨w, w1, w2, -⟩ := tz_r17 hV.1.1.1
  obtain ⟨U1, U2, s4, d, e1, e2, e3, e4, e5⟩ := tz_undo2 hP hab hB
  have B4 := e5 _ _ hB
  have n4 := tz_B_now B4
  obtain ⟨U3, U4, s5, f1, f2, f3, f4, f5, f6⟩ := tz_lay2 (x := 1) (y := s.1 17) e4 hab (by
    unfold tp_is
    rw [if_neg (by decide), if_pos rfl, w2]
    exact tz_iw_in (L := 0) (B := 1) (by decide) (by omega) w1)
  have B5 := f6 _ _ B4 (by decide)
  have ea : tp_pa 9 1 (s.1 17) s4.1 = s.1 17 := by rw [n4]; rfl
  rw [ea] at f1 f2
  obtain ⟨U5, U6, s6, g, g1, g2, g3, g4, g5⟩ := tz_undo2 f3 hab B5
  refine ⟨U6, s6, ?_, g4, g5 _ _ B5⟩
  unfold fL_done_p295
  rw [if_neg (by decide), e1, tp_b2S, tz_thrown e3, tp_b2S, if_pos rfl, e2, tp_b2S, tz_thrown e3, tp_b2S, if_pos rfl, f1, tp_b2S, if_pos rfl, f2, tp_b2S, if_pos rfl, g1, tp_b2S, tz_thrown g3, tp_b2S, if_pos rfl, g2, tp_b2S, tz_thrown g3, tp_b2S, if_pos rfl]
  rfl
theorem tz_k222 {N : Int32} (hV : tz_V T s.1) (hP : tz_P a b s3 U) (hab : a ≠ b) (hB : tz_B 1 s s3) (hk : tp_Ok s3.1) (hN : N ≤ 0 ∨ ∃ j, 0 < j ∧ j ≤ 200 ∧ N = nI j ∧ tp_hrs j s3.1 8 = 0) : ∃ U' s', fL_done_p222 a b N (s.1 17) 1 U = some (1, U') ∧ tz_P a b s' U' ∧ tz_B 0 s s' := by
  rcases hN with hN | ⟨j, j0, j2, hN, h8⟩
  · obtain ⟨U', s', h1, h2⟩ := tz_k295 hV hP hab hB
    refine ⟨U', s', ?_, h2⟩
    unfold fL_done_p222
    rw [if_pos hN]
    exact h1
  · obtain ⟨U2, s2, w1, w2, w3, w4⟩ := tz_waits (n := j) hP hab hk (by omega)
    have B2 := w4 1 s hB (by omega)
    obtain ⟨U4, s4, u1, u2, u3⟩ := tz_undoes (n := j) (s0 := s3) w2 hab (by
      have := w4 0 s3 ⟨Nat.zero_le _, hB.2.1, 0, rfl, fun _ _ => rfl, rfl⟩ (by omega)
      rw [Nat.zero_add] at this
      exact this) (by omega)
    obtain ⟨U', s', h1, h2⟩ := tz_k295 hV u2 hab (u3 1 s B2)
    refine ⟨U', s', ?_, h2⟩
    have k2 : tp_Ok s2.1 := by rw [w3]; exact tp_Ok_hrs j hk
    have e8 : s2.1 8 = 0 := by rw [w3]; exact h8
    have c8 : tp_cl (s2.1 8) = 0 := by rw [e8]; rfl
    have e13 : s2.1 13 = -1 := by
      by_cases c : s2.1 13 = -1
      · exact c
      · have := (k2.2.2.2.2.1 c).1; omega
    have e14 : s2.1 14 = 0 := by
      refine k2.2.2.2.2.2.2 ?_
      by_cases c : s2.1 15 = 0
      · exact c
      · have := (k2.2.2.2.2.2.1 c).1; omega
    unfold fL_done_p222
    rw [if_neg (by rw [hN, tp_k0, tp_le (by omega) (by decide)]; omega), if_neg (by decide), hN, w1, tp_b2S, if_neg (by decide), gA_10, tp_b2S, w2.1, e8, if_pos rfl, gD_2, tp_b2S, w2.1, e13, if_pos rfl, gA_6, tp_b2S, w2.1, e14, if_pos rfl, u1, tp_b2S, if_neg (by decide)]
    exact h1
theorem tz_dv {S P : Nat} (hS : S ≤ 1440) (hP : P ≤ 12) (h0 : 0 < P) : (nI S + nI P - 1) / nI P = nI ((S + P - 1) / P) := by
  rw [nI_add, tp_k1, tp_sb (by omega), pk_div (by omega) h0 (by omega)]
theorem tz_k138 {N : Int32} {P : Nat} (hV : tz_V T s.1) (hP : tz_P a b s3 U) (hab : a ≠ b) (hB : tz_B 1 s s3) (hk : tp_Ok s3.1) (h16 : s3.1 16 = nI P) (hP12 : P ≤ 12) (h17 : s3.1 17 = 0) (hN : N = tp_dnn 201 0 s3.1) : ∃ U' s', fL_done_p138 a b N (nI (tz_stp s3.1)) (nI P) (s.1 17) 1 (if s3.1 8 ≤ 0 then 0 else 1) U = some (1, U') ∧ tz_P a b s' U' ∧ tz_B 0 s s' := by
  have hS : tz_stp s3.1 ≤ 1440 := tz_stp_b
  have hat := tz_lad_at hk (show P < 1000 by omega) h16 h17
  generalize tz_stp s3.1 = S at hS hat
  obtain ⟨K, K2, K1, K3⟩ := tp_xx (tp_r8 hk.1)
  have hD := tz_dnn 201 0 s3.1
  rw [← hN] at hD
  unfold fL_done_p138
  rw [if_neg (by decide)]
  by_cases c8 : s3.1 8 = 0
  · have hN0 : N = 0 := by
      rcases hD with ⟨-, h⟩ | ⟨j, j1, j2, j3, j4⟩
      · exact absurd c8 (h 0 (by decide))
      · by_cases j0 : j = 0
        · rw [j2, j0]; rfl
        · exact absurd c8 (j3 0 (by omega))
    obtain ⟨U', s', h1, h2⟩ := tz_k222 (N := N) hV hP hab hB hk (Or.inl (by rw [hN0]; decide))
    refine ⟨U', s', ?_, h2⟩
    rw [if_pos (show s3.1 8 ≤ 0 by rw [c8]; decide), if_pos rfl, if_pos hN0]
    exact h1
  · have c8' : ¬ s3.1 8 ≤ 0 := by
      rw [K1, tp_k0, tp_le (by omega) (by decide)]
      rw [K1, tp_k0, tp_eq (by omega) (by decide)] at c8
      omega
    rw [if_neg c8', if_neg (show ¬ (1 : Int32) = 0 by decide)]
    have hj : (N = -1 ∧ ∀ i, i < 200 → ¬ S ≤ (i + 1) * P) ∨ ∃ i, i < 200 ∧ N = nI (i + 1) ∧ S ≤ (i + 1) * P ∧ (∀ m, m < i → ¬ S ≤ (m + 1) * P) ∧ tp_hrs (i + 1) s3.1 8 = 0 := by
      rcases hD with ⟨h, hn⟩ | ⟨j, j1, j2, j3, j4⟩
      · exact Or.inl ⟨h, fun i hi w => hn (i + 1) (by omega) ((hat i).mpr w)⟩
      · cases j with
        | zero => exact absurd j4 c8
        | succ i => exact Or.inr ⟨i, by omega, by rw [j2, Nat.zero_add], (hat i).mp j4, fun m hm w => j3 (m + 1) (by omega) ((hat m).mpr w), j4⟩
    have fin : ∃ U' s', fL_done_p222 a b N (s.1 17) 1 U = some (1, U') ∧ tz_P a b s' U' ∧ tz_B 0 s s' := by
      refine tz_k222 hV hP hab hB hk ?_
      rcases hj with ⟨h, -⟩ | ⟨i, i1, i2, -, -, i5⟩
      · exact Or.inl (by rw [h]; decide)
      · exact Or.inr ⟨i + 1, by omega, by omega, i2, i5⟩
    obtain ⟨U', s', h1, h2⟩ := fin
    refine ⟨U', s', ?_, h2⟩
    have e0S : (nI S = 0) = (S = 0) := by rw [tp_k0, tp_eq (by omega) (by decide)]
    have e0P : (nI P = 0) = (P = 0) := by rw [tp_k0, tp_eq (by omega) (by decide)]
    by_cases p0 : P = 0
    · subst p0
      rw [if_pos (show nI 0 = 0 from rfl)]
      by_cases s0 : S = 0
      · rw [if_pos (e0S ▸ s0)]
        have : N = 1 := by
          rcases hj with ⟨h, hn⟩ | ⟨i, i1, i2, i3, i4, i5⟩
          · exact absurd (show S ≤ (0 + 1) * 0 by omega) (hn 0 (by decide))
          · by_cases i0 : i = 0
            · rw [i2, i0]; rfl
            · exact absurd (show S ≤ (0 + 1) * 0 by omega) (i4 0 (by omega))
        unfold fL_done_p172
        rw [if_pos this]
        exact h1
      · rw [if_neg (show ¬ nI S = 0 by rw [e0S]; exact s0)]
        have : N = -1 := by
          rcases hj with ⟨h, hn⟩ | ⟨i, i1, i2, i3, i4, i5⟩
          · exact h
          · rw [Nat.mul_zero] at i3; omega
        unfold fL_done_p172
        rw [if_pos this]
        exact h1
    · rw [if_neg (show ¬ nI P = 0 by rw [e0P]; exact p0), show (200 : Int32) * nI P = nI (200 * P) from pk_mul 200 P]
      by_cases sl : S ≤ 200 * P
      · rw [if_pos (show nI S ≤ nI (200 * P) by rw [tp_le (by omega) (by omega)]; exact sl)]
        have hj2 : ∃ i, N = nI (i + 1) ∧ S ≤ (i + 1) * P ∧ (∀ m, m < i → ¬ S ≤ (m + 1) * P) := by
          rcases hj with ⟨h, hn⟩ | ⟨i, i1, i2, i3, i4, i5⟩
          · exact absurd sl (hn 199 (by decide))
          · exact ⟨i, i2, i3, i4⟩
        obtain ⟨i, i2, i3, i4⟩ := hj2
        by_cases s0 : S = 0
        · have : N = 1 := by
            by_cases i0 : i = 0
            · rw [i2, i0]; rfl
            · exact absurd (show S ≤ (0 + 1) * P by omega) (i4 0 (by omega))
          rw [if_pos (e0S ▸ s0)]
          unfold fL_done_p214
          rw [if_pos this]
          exact h1
        · have lo : i * P < S := by
            by_cases i0 : i = 0
            · rw [i0, Nat.zero_mul]; omega
            · have := i4 (i - 1) (by omega)
              rw [show i - 1 + 1 = i by omega] at this
              omega
          have dv : (S + P - 1) / P = i + 1 := by
            refine Nat.div_eq_of_lt_le ?_ ?_
            · rw [Nat.succ_mul]; omega
            · rw [Nat.succ_mul (i + 1)]; omega
          rw [if_neg (show ¬ nI S = 0 by rw [e0S]; exact s0), tl_gs (show ¬ nI P = 0 by rw [e0P]; exact p0), tz_dv hS hP12 (by omega), dv]
          unfold fL_done_p214
          rw [if_pos i2]
          exact h1
      · rw [if_neg (show ¬ nI S ≤ nI (200 * P) by rw [tp_le (by omega) (by omega)]; exact sl)]
        have : N = -1 := by
          rcases hj with ⟨h, hn⟩ | ⟨i, i1, i2, i3, i4, i5⟩
          · exact h
          · have := Nat.mul_le_mul_right P (show i + 1 ≤ 200 by omega)
            omega
        rw [if_pos this]
        exact h1
/-- done -/
theorem tz_done_ok (hJ : tz_J T s) (hP : tz_P a b s U) (hab : a ≠ b) : ∃ U' s', fL_done a b U = some (1, U') ∧ tz_P a b s' U' ∧ tz_B 0 s s' := by
  have hV := hJ.2.1
  have hk := hV.1.1
  obtain ⟨P, P12, P1, -⟩ := tz_r16 hk.1
  have hS : tz_stp s.1 ≤ 1440 := tz_stp_b
  have eg : tp_sg 1 0 s.1 = tp_up s.1 17 0 := if_neg (by decide)
  obtain ⟨U1, U2, s1, a1, a2, a3, a4, a5, a6⟩ := tz_lay2 (x := 1) (y := 0) hP hab (by decide)
  have B1 := a6 _ _ (tz_B_0 hJ.1) (by decide)
  rw [eg] at a4
  have k1 : tp_Ok s1.1 := by
    have := tp_Ok_pf (q := 9) (a := 1) (b := 0) (c := 0) (d := 0) hk (show tp_ro true (tp_is 1 0) true = 0 by decide)
    have e : tp_pf 9 1 0 0 0 s.1 = tp_sg 1 0 s.1 := rfl
    rw [e, eg] at this
    rw [a4]; exact this
  have ea1 : tp_pa 9 1 0 s.1 = s.1 17 := rfl
  rw [ea1] at a1 a2
  obtain ⟨U3, U4, s2, b1, b2, b3, b4, b5, b6⟩ := tz_lay2 (x := 0) (y := 4) a3 hab (by decide)
  have B2 := b6 _ _ B1 (by decide)
  have B2' := b6 0 s1 ⟨Nat.zero_le _, B1.2.1, 0, rfl, fun _ _ => rfl, rfl⟩ (by decide)
  have eb1 : tp_pa 9 0 4 s1.1 = nI P := by
    show s1.1 16 = nI P
    rw [a4, tp_un (by decide)]; exact P1
  rw [eb1] at b1 b2
  obtain ⟨U5, U6, s3, d, c1, c2, c3, c4, c5⟩ := tz_undo2 b3 hab B2
  have B3 := c5 _ _ B2
  have n3 : s3.1 = tp_up s.1 17 0 := (tz_B_now (c5 _ _ B2')).trans a4
  have k3 : tp_Ok s3.1 := by rw [n3, ← a4]; exact k1
  have le : tz_LE s3.1 s.1 := fun i hi => by
    rw [n3, tp_un (by unfold tz_LI at hi; omega)]
  have eS : tz_stp s3.1 = tz_stp s.1 := tz_stp_LE k3 le hk
  obtain ⟨U', s', h1, h2⟩ := tz_k138 (N := tz_done s) (P := P) hV c4 hab B3 k3 (by rw [n3, tp_un (by decide)]; exact P1) P12 (by rw [n3, tp_us]) (by rw [n3]; rfl)
  refine ⟨U', s', ?_, h2⟩
  have e6 : fL_call a 6 3 0 0 U = some (nI (tz_stp s.1), U) := by rw [gD_3, hP.1]; rfl
  have e0 : fL_doneIn a U = some (tz_done s, U) := by
    show some (tz_done (U a), U) = _
    rw [hP.1]
  unfold fL_done
  rw [e0, tp_b2S, e6, tp_b2S, a1, tp_b2S, a2, tp_b2S, if_pos rfl]
  unfold fL_done_p48
  rw [b1, tp_b2S, if_neg (by decide), b2, tp_b2S, if_pos rfl, c1, tp_b2S, tz_thrown c3, tp_b2S, if_pos rfl, c2, tp_b2S, tz_thrown c3, tp_b2S, if_pos rfl, if_neg (show ¬ nI (tz_stp s.1) < 0 by rw [tp_k0, tp_lt (by omega) (by decide)]; omega)]
  unfold fL_done_p119
  rw [gA_10, tp_b2S, c4.1]
  rw [eS] at h1
  by_cases c : s3.1 8 ≤ 0
  · rw [if_pos c] at h1 ⊢; exact h1
  · rw [if_neg c] at h1 ⊢; exact h1
end TZDN
