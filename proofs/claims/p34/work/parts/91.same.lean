/-! Both objects in one state: what is asked of both; hours in both, and their undo. -/
def tz_P (a b : Nat) (s : tz_S) (U : tz_U) : Prop := U a = s ∧ U b = s
/-- what only asks -/
def tz_ro (s : tz_S) (f : Nat → tz_U → Option (Int32 × tz_U)) : Prop := ∃ v, ∀ a U, U a = s → f a U = some (v, U)
section TZS
variable {s : tz_S} {a b : Nat} {U : tz_U} {x y z : Int32}
theorem tz_ro_of {f : Nat → tz_U → Option (Int32 × tz_U)} {F : tz_S → Nat × Int32 × tz_S} (h : ∀ a U, f a U = tz_o a (F (U a)) U) (hs : (F s).2.2 = s) : tz_ro s f :=
  ⟨tz_an (F s).1 (F s).2.1, fun a U e => by
    rw [h a U, e]
    unfold tz_o
    rw [hs, ← e, tz_set_i]⟩
theorem ro_2 : tz_ro s (fun a U => fL_call a 2 x y z U) := tz_ro_of (F := tz_about x) (fun a U => gc_2) (by unfold tz_about; split <;> rfl)
theorem ro_3 : tz_ro s (fun a U => fL_call a 3 x y z U) := tz_ro_of (F := tz_told x y) (fun a U => gc_3) (by unfold tz_told; split; split <;> rfl; rfl)
theorem ro_4 : tz_ro s (fun a U => fL_call a 4 x y z U) := tz_ro_of (F := tz_worker x y) (fun a U => gc_4) (by unfold tz_worker; split; split <;> rfl; rfl)
theorem ro_5 : tz_ro s (fun a U => fL_call a 5 x y z U) := tz_ro_of (F := tz_glow x y) (fun a U => gc_5) (by unfold tz_glow; split; split <;> rfl; rfl)
theorem ro_6 : tz_ro s (fun a U => fL_call a 6 x y z U) := tz_ro_of (F := tz_lad x) (fun a U => gc_6) (by unfold tz_lad; split <;> rfl)
theorem ro_7 : tz_ro s (fun a U => fL_call a 7 x y z U) := tz_ro_of (F := tz_order x y) (fun a U => gc_7) (by unfold tz_order; split; split <;> rfl; rfl)
theorem ro_sim {l : Int64} : tz_ro s (fun a U => fL_doSimulate a l x U) := tz_ro_of (F := tz_sim l x) (fun a U => rfl) (by unfold tz_sim; split <;> rfl)
theorem ro_done : tz_ro s (fun a U => fL_doneIn a U) := ⟨tz_done s, fun a U e => by show some (tz_done (U a), U) = _; rw [e]⟩
theorem tz_al_l (h : tz_P a b s U) (x3 : Int32) : ∀ (fu i : Nat), i ≤ 13 → 13 < i + fu → fL_alike_p47 fu a b x3 1 (nI i) U = some (1, U)
  | 0, _, h1, h2 => absurd h2 (by omega)
  | fu + 1, i, h1, h2 => by
    have ih := tz_al_l h x3 fu (i + 1)
    obtain ⟨e1, e2⟩ := h
    rw [fL_alike_p47]
    by_cases c : 13 ≤ nI i
    · rw [if_pos c]
    · have hi : i < 13 := by rw [tp_k13, tp_le (by decide) (by omega)] at c; omega
      rw [if_neg c, if_neg (by decide)]
      obtain ⟨v2, k2⟩ := ro_2 (s := s) (x := nI i) (y := 0) (z := 0)
      obtain ⟨v3, k3⟩ := ro_3 (s := s) (x := x3 - x3 / 3 * 3) (y := nI i) (z := 0)
      obtain ⟨v5, k5⟩ := ro_5 (s := s) (x := nI i) (y := x3 - x3 / 5 * 5) (z := 0)
      obtain ⟨v7, k7⟩ := ro_7 (s := s) (x := nI i) (y := x3 - x3 / 4 * 4) (z := 0)
      obtain ⟨v6, k6⟩ := ro_6 (s := s) (x := nI i) (y := 0) (z := 0)
      obtain ⟨v4, k4⟩ := ro_4 (s := s) (x := nI i) (y := x3 - x3 / 4 * 4) (z := 0)
      dsimp only at k2 k3 k4 k5 k6 k7
      rw [k2 a U e1, tp_b2S, k2 b U e2, tp_b2S, if_pos rfl, k3 a U e1, tp_b2S, k3 b U e2, tp_b2S, if_pos rfl, k5 a U e1, tp_b2S, k5 b U e2, tp_b2S, if_pos rfl, k7 a U e1, tp_b2S, k7 b U e2, tp_b2S, if_pos rfl, k6 a U e1, tp_b2S, k6 b U e2, tp_b2S, if_pos rfl, k4 a U e1, tp_b2S, k4 b U e2, tp_b2S, if_pos rfl, tp_L, nI_1]
      exact ih (by omega) (by omega)
theorem tz_alike (h : tz_P a b s U) (x3 : Int32) : fL_alike a b x3 U = some (1, U) := by
  obtain ⟨v, k⟩ := ro_sim (s := s) (x := 1 + (x3 - x3 / 20 * 20)) (l := (x3 : Int32).toInt64)
  obtain ⟨v2, k2⟩ := ro_done (s := s)
  dsimp only at k k2
  unfold fL_alike
  rw [k a U h.1, tp_b2S, k b U h.2, tp_b2S, if_pos rfl, k2 a U h.1, tp_b2S, k2 b U h.2, tp_b2S, if_pos rfl]
  unfold fL_alike_p43
  have l : fL_alike_p47 14 a b x3 1 0 U = some (1, U) := tz_al_l h x3 14 0 (by omega) (by omega)
  rw [tl_bs l]
  dsimp only
  rw [tl_gs (Or.inr rfl)]
/-- what is done to both -/
theorem tz_2 {f : Nat → tz_U → Option (Int32 × tz_U)} {F : tz_S → Nat × Int32 × tz_S} (h : tz_P a b s U) (hab : a ≠ b) (hf : ∀ a U, f a U = tz_o a (F (U a)) U) : ∃ U1 U2, f a U = some (tz_an (F s).1 (F s).2.1, U1) ∧ f b U1 = some (tz_an (F s).1 (F s).2.1, U2) ∧ tz_P a b (F s).2.2 U2 ∧ U1 a = (F s).2.2 ∧ U1 b = s := by
  refine ⟨tz_set U a (F s).2.2, tz_set (tz_set U a (F s).2.2) b (F s).2.2, ?_, ?_, ⟨?_, tz_set_s _ _ _⟩, tz_set_s _ _ _, ?_⟩
  · rw [hf, h.1]; rfl
  · rw [hf, tz_set_n (Ne.symm hab), h.2]; rfl
  · rw [tz_set_n hab, tz_set_s]
  · rw [tz_set_n (Ne.symm hab), h.2]
theorem tz_thrown {k : Nat} (hk : k < 2147483648) : fL_thrown (nI k) U = some (0, U) := by
  have n : ∀ m : Int32, m.toInt < 0 → ¬ nI k = m := fun m hm e => by
    have := tp_ti hk
    rw [e] at this
    omega
  unfold fL_thrown
  rw [if_neg (n _ (by decide)), if_neg (n _ (by decide)), if_neg (n _ (by decide))]
theorem tp_hrs_add (m : Nat) (r : tp_R) : ∀ n, tp_hrs (m + n) r = tp_hrs n (tp_hrs m r)
  | 0 => rfl
  | n + 1 => by rw [← Nat.add_assoc, tp_hrs_s, tp_hrs_s, tp_hrs_add m r n]
theorem tz_iwp {p : Nat} (h1 : 1 ≤ p) (h2 : p ≤ 60) : tp_iw (nI p) 1 60 = true := tz_iw_in (L := 1) (B := 60) (by decide) h1 h2
/-- some hours in both -/
theorem tz_hours {p : Nat} (h : tz_P a b s U) (hab : a ≠ b) (hk : tp_Ok s.1) (h1 : 1 ≤ p) (h2 : p ≤ 60) : ∃ U1 U2 s' dug, fL_call a 17 (nI p) 0 0 U = some (nI dug, U1) ∧ fL_call b 17 (nI p) 0 0 U1 = some (nI dug, U2) ∧ tz_P a b s' U2 ∧ s'.1 = tp_hrs p s.1 ∧ dug ≤ 180 ∧ tp_hrs p s.1 10 - s.1 10 = nI dug ∧ U1 a = s' ∧ ∀ k s0, tz_B k s0 s → k + 1 ≤ 14 → tz_B (k + 1) s0 s' := by
  obtain ⟨U1, U2, e1, e2, e3, e4, -⟩ := tz_2 (f := fun a U => fL_call a 17 (nI p) 0 0 U) (F := tz_act 10 (nI p) 0 0 0) h hab (fun a U => gc_17)
  have c : tp_rf 10 (nI p) 0 0 0 s.1 = 0 := tp_rf10.mpr (tz_iwp h1 h2)
  obtain ⟨d, d1, d2⟩ := tp_hrs_dug p hk
  have hp : tp_cl (nI p) = p := tz_cn (by omega)
  have ea : tz_an (tz_act 10 (nI p) 0 0 0 s).1 (tz_act 10 (nI p) 0 0 0 s).2.1 = nI d := by
    rw [tz_act_0 c, ← d2]
    show tp_hrs (tp_cl (nI p)) s.1 10 - s.1 10 = _
    rw [hp]
  rw [ea] at e1 e2
  refine ⟨U1, U2, _, d, e1, e2, e3, ?_, d1, d2, e4, fun k s0 hb hk => tz_B_act hb hk c⟩
  rw [tz_act_0 c]
  show tp_hrs (tp_cl (nI p)) s.1 = _
  rw [hp]
theorem tz_m60 {x : Int32} {n : Nat} (hn : n < 1000) (h : x = nI n) (h6 : n ≤ 60) : x + -60 ≤ 0 := by
  rw [h, tp_lei, tp_tadd (by rw [tp_ti (by omega), show (-60 : Int32).toInt = -60 from rfl]; omega) (by rw [tp_ti (by omega), show (-60 : Int32).toInt = -60 from rfl]; omega), tp_ti (by omega), show (-60 : Int32).toInt = -60 from rfl, show (0 : Int32).toInt = 0 from rfl]
  omega
theorem tz_m60b {x : Int32} {n : Nat} (h : x = nI n) (h6 : 60 ≤ n) : x + -60 = nI (n - 60) := by
  rw [h, show (-60 : Int32) = - nI 60 from rfl, ← Int32.sub_eq_add_neg, tp_sb h6]
theorem tz_w_l (hab : a ≠ b) : ∀ (fu n : Nat) (x : Int32) (s : tz_S) (U : tz_U), tz_P a b s U → tp_Ok s.1 → n ≤ 240 → (n + 59) / 60 < fu → ((n = 0 ∧ x ≤ 0) ∨ (0 < n ∧ x = nI n)) → ∃ U' s', fL_waits_p5 fu a b 1 x U = some (1, U') ∧ tz_P a b s' U' ∧ s'.1 = tp_hrs n s.1 ∧ ∀ k s0, tz_B k s0 s → k + (n + 59) / 60 ≤ 14 → tz_B (k + (n + 59) / 60) s0 s'
  | 0, _, _, _, _, _, _, _, h, _ => absurd h (Nat.not_lt_zero _)
  | fu + 1, n, x, s, U, h, hk, hn, hf, hx => by
    rw [fL_waits_p5]
    rcases hx with ⟨h0, hx⟩ | ⟨h0, hx⟩
    · subst h0
      rw [if_pos hx]
      exact ⟨U, s, rfl, h, rfl, fun k s0 hb _ => hb⟩
    · have ih := tz_w_l hab fu
      rw [if_neg (by rw [hx, tp_k0, tp_le (by omega) (by decide)]; omega), if_neg (by decide)]
      by_cases c : n ≤ 60
      · obtain ⟨U1, U2, s', d, e1, e2, e3, e4, e5, -, -, e6⟩ := tz_hours h hab hk h0 c
        obtain ⟨U', s2, i1, i2, i3, i4⟩ := ih 0 (x + -60) s' U2 e3 (by rw [e4]; exact tp_Ok_hrs n hk) (by omega) (by omega) (Or.inl ⟨rfl, tz_m60 (by omega) hx c⟩)
        refine ⟨U', s2, ?_, i2, ?_, fun k s0 hb hk2 => ?_⟩
        · rw [tz_k, if_pos (by rw [hx, tp_k60, tp_le (by omega) (by decide)]; exact c)]
          dsimp only
          rw [hx, e1, tp_b2S, if_neg (by rw [tp_k0, tp_lt (by omega) (by decide)]; omega), e2, tp_b2S, if_pos rfl, tp_L, ← hx]
          exact i1
        · rw [i3, e4]; rfl
        · have e59 : (n + 59) / 60 = 1 := by omega
          rw [e59] at hk2 ⊢
          exact i4 _ _ (e6 k s0 hb hk2) (by omega)
      · obtain ⟨U1, U2, s', d, e1, e2, e3, e4, e5, -, -, e6⟩ := tz_hours (p := 60) h hab hk (by decide) (by decide)
        obtain ⟨U', s2, i1, i2, i3, i4⟩ := ih (n - 60) (x + -60) s' U2 e3 (by rw [e4]; exact tp_Ok_hrs 60 hk) (by omega) (by omega) (Or.inr ⟨by omega, tz_m60b hx (by omega)⟩)
        refine ⟨U', s2, ?_, i2, ?_, fun k s0 hb hk2 => ?_⟩
        · rw [tz_k, if_neg (by rw [hx, tp_k60, tp_le (by omega) (by decide)]; exact c)]
          dsimp only
          rw [tp_k60, e1, tp_b2S, if_neg (by rw [tp_k0, tp_lt (by omega) (by decide)]; omega), e2, tp_b2S, if_pos rfl, tp_L]
          exact i1
        · rw [i3, e4, ← tp_hrs_add, show 60 + (n - 60) = n by omega]
        · have e59 : (n + 59) / 60 = 1 + (n - 60 + 59) / 60 := by omega
          rw [e59] at hk2 ⊢
          rw [← Nat.add_assoc]
          exact i4 _ _ (e6 k s0 hb (by omega)) (by omega)
/-- hours in both, in parts of 60 -/
theorem tz_waits {n : Nat} (h : tz_P a b s U) (hab : a ≠ b) (hk : tp_Ok s.1) (hn : n ≤ 240) : ∃ U' s', fL_waits a b (nI n) U = some (1, U') ∧ tz_P a b s' U' ∧ s'.1 = tp_hrs n s.1 ∧ ∀ k s0, tz_B k s0 s → k + (n + 59) / 60 ≤ 14 → tz_B (k + (n + 59) / 60) s0 s' := by
  have hx : (n = 0 ∧ nI n ≤ 0) ∨ (0 < n ∧ nI n = nI n) := by
    by_cases c : n = 0
    · exact Or.inl ⟨c, by rw [c]; decide⟩
    · exact Or.inr ⟨by omega, rfl⟩
  obtain ⟨U', s', i1, i2⟩ := tz_w_l hab 5 n (nI n) s U h hk hn (by omega) hx
  refine ⟨U', s', ?_, i2⟩
  unfold fL_waits
  rw [tl_bs i1]
  dsimp only
  rw [tl_gs (Or.inr rfl)]
/-- one undo in both -/
theorem tz_undo2 {k : Nat} {s0 : tz_S} (h : tz_P a b s U) (hab : a ≠ b) (hB : tz_B (k + 1) s0 s) : ∃ U1 U2 s' d, fL_call a 18 0 0 0 U = some (nI d, U1) ∧ fL_call b 18 0 0 0 U1 = some (nI d, U2) ∧ d < 2147483648 ∧ tz_P a b s' U2 ∧ ∀ k s0, tz_B (k + 1) s0 s → tz_B k s0 s' := by
  obtain ⟨U1, U2, e1, e2, e3, e4, -⟩ := tz_2 (f := fun a U => fL_call a 18 0 0 0 U) (F := tz_undo) h hab (fun a U => gc_18)
  have hp : 0 < s.2.1.1 := by have := hB.1; omega
  have ea : tz_an (tz_undo s).1 (tz_undo s).2.1 = nI (s.2.1.1 - 1) := by rw [tz_undo_1 hp]; rfl
  rw [ea] at e1 e2
  exact ⟨U1, U2, _, _, e1, e2, by have := hB.2.1; omega, e3, fun k s0 hb => (tz_B_undo hb).2⟩
theorem tz_u_l (hab : a ≠ b) : ∀ (fu n : Nat) (x : Int32) (s : tz_S) (U : tz_U), tz_P a b s U → (∃ s0, tz_B ((n + 59) / 60) s0 s) → n ≤ 240 → (n + 59) / 60 < fu → ((n = 0 ∧ x ≤ 0) ∨ (0 < n ∧ x = nI n)) → ∃ U' s', fL_undoes_p5 fu a b 1 x U = some (1, U') ∧ tz_P a b s' U' ∧ ∀ k s0, tz_B (k + (n + 59) / 60) s0 s → tz_B k s0 s'
  | 0, _, _, _, _, _, _, _, h, _ => absurd h (Nat.not_lt_zero _)
  | fu + 1, n, x, s, U, h, hk, hn, hf, hx => by
    rw [fL_undoes_p5]
    rcases hx with ⟨h0, hx⟩ | ⟨h0, hx⟩
    · subst h0
      rw [if_pos hx]
      exact ⟨U, s, rfl, h, fun k s0 hb => hb⟩
    · have ih := tz_u_l hab fu
      have e59 : (n + 59) / 60 = (n - 60 + 59) / 60 + 1 := by omega
      obtain ⟨s0, hB⟩ := hk
      rw [e59] at hB
      obtain ⟨U1, U2, s', d, e1, e2, e3, e4, e5⟩ := tz_undo2 h hab hB
      have hx2 : (n - 60 = 0 ∧ x + -60 ≤ 0) ∨ (0 < n - 60 ∧ x + -60 = nI (n - 60)) := by
        by_cases c : n ≤ 60
        · exact Or.inl ⟨by omega, tz_m60 (by omega) hx c⟩
        · exact Or.inr ⟨by omega, tz_m60b hx (by omega)⟩
      obtain ⟨U', s2, i1, i2, i3⟩ := ih (n - 60) (x + -60) s' U2 e4 ⟨s0, e5 _ _ hB⟩ (by omega) (by omega) hx2
      refine ⟨U', s2, ?_, i2, fun k s0 hb => ?_⟩
      · rw [if_neg (by rw [hx, tp_k0, tp_le (by omega) (by decide)]; omega), if_neg (by decide), e1, tp_b2S, tz_thrown e3, tp_b2S, if_pos rfl, e2, tp_b2S, tz_thrown e3, tp_b2S, if_pos rfl, tp_L]
        exact i1
      · rw [e59, ← Nat.add_assoc] at hb
        exact i3 _ _ (e5 _ _ hb)
theorem tz_undoes {n : Nat} {s0 : tz_S} (h : tz_P a b s U) (hab : a ≠ b) (hB : tz_B ((n + 59) / 60) s0 s) (hn : n ≤ 240) : ∃ U' s', fL_undoes a b (nI n) U = some (1, U') ∧ tz_P a b s' U' ∧ ∀ k s0, tz_B (k + (n + 59) / 60) s0 s → tz_B k s0 s' := by
  have hx : (n = 0 ∧ nI n ≤ 0) ∨ (0 < n ∧ nI n = nI n) := by
    by_cases c : n = 0
    · exact Or.inl ⟨c, by rw [c]; decide⟩
    · exact Or.inr ⟨by omega, rfl⟩
  obtain ⟨U', s', i1, i2⟩ := tz_u_l hab 5 n (nI n) s U h ⟨s0, hB⟩ hn (by omega) hx
  refine ⟨U', s', ?_, i2⟩
  unfold fL_undoes
  rw [tl_bs i1]
  dsimp only
  rw [tl_gs (Or.inr rfl)]
theorem tz_B_now {s0 : tz_S} (h : tz_B 0 s0 s) : s.1 = s0.1 := by
  obtain ⟨-, -, e, b3, b4, -⟩ := h
  have := b4 _ (Nat.le_refl _)
  rw [Nat.sub_zero] at this b3
  rw [tz_at_n, b3, tz_at_n] at this
  exact this
end TZS
