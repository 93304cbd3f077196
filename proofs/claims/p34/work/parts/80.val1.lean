/-! What holds in every mine of the law beyond a state's ranges: its parts, and an hour of the miners. -/
def tz_sum (f : Nat → Int32) : Nat → Int32
  | 0 => 0
  | n + 1 => tz_sum f n + f n
theorem tz_sum_c {f g : Nat → Int32} : ∀ (n : Nat), (∀ i, i < n → g i = f i) → tz_sum g n = tz_sum f n
  | 0, _ => rfl
  | n + 1, h => by rw [tz_sum, tz_sum, tz_sum_c n (fun i hi => h i (by omega)), h n (by omega)]
theorem tz_sum_p {f g : Nat → Int32} {x : Int32} {l : Nat} : ∀ (n : Nat), l < n → g l = f l + x → (∀ i, i < n → i ≠ l → g i = f i) → tz_sum g n = tz_sum f n + x
  | 0, h, _, _ => absurd h (Nat.not_lt_zero _)
  | n + 1, h, hl, ho => by
    rw [tz_sum, tz_sum]
    by_cases c : l = n
    · subst c
      rw [tz_sum_c l (fun i hi => ho i (by omega) (by omega)), hl, Int32.add_assoc]
    · rw [tz_sum_p n (by omega) hl (fun i hi => ho i (by omega)), ho n (by omega) (by omega), Int32.add_assoc, Int32.add_assoc, Int32.add_comm x]
theorem tz_oil_sum (r : tp_R) : ∀ n, tp_oil r n = tz_sum (fun l => r (49 + 4 * l)) n
  | 0 => rfl
  | n + 1 => by rw [tp_oil, tz_sum, tz_oil_sum r n]
abbrev tz_d (r : tp_R) (g : Nat) : Nat := tp_cl (r (18 + 2 * g))
def tz_h (g d : Nat) : Nat := 3 + (7 * d + 5 * g) % 6
theorem tz_hd {g d : Nat} (hg : g < 3) (hd : d ≤ 60) : tp_hd (nI g) (nI d) = nI (tz_h g d) := by
  unfold tp_hd tz_h
  rw [tp_k3, tp_k7, tp_k5, pk_mul, pk_mul, nI_add, show (6 : Int32) = nI 6 from rfl, pk_rem (by omega) (by decide) (by decide), nI_add]
theorem tz_h_b (g d : Nat) : 3 ≤ tz_h g d ∧ tz_h g d ≤ 8 := by
  unfold tz_h
  omega
/-- galleries -/
def tz_VG (r : tp_R) : Prop := 0 < tp_cl (r 0) ∧ ∀ g, g < tp_cl (r 0) → 0 < tz_d r g ∧ ∃ s, s ≤ 20 ∧ r (19 + 2 * g) = nI s ∧ (tz_d r g = 60 ∨ s < tz_h g (tz_d r g))
/-- lamps -/
def tz_VL (r : tp_R) : Prop := ∀ l, l < tp_cl (r 2) → (r 13 = nI l → r (50 + 4 * l) = -1 ∧ r (51 + 4 * l) = -1) ∧ (r 13 ≠ nI l → ∃ g c, r (50 + 4 * l) = nI g ∧ g < tp_cl (r 0) ∧ r (51 + 4 * l) = nI c ∧ c < tz_d r g)
/-- miners: t hours have gone by; b bounds what each has had -/
def tz_VMb (t : Nat) (b : Nat → Nat) (r : tp_R) : Prop := r 3 = nI t ∧ (∀ m, m < tp_cl (r 1) → ∃ p k d, 1 ≤ p ∧ p ≤ 5 ∧ r (25 + 4 * m) = nI p ∧ r (26 + 4 * m) = nI (p * k) ∧ k ≤ b m ∧ r (27 + 4 * m) = nI d ∧ d ≤ b m) ∧ tz_sum (fun m => r (27 + 4 * m)) (tp_cl (r 1)) = r 9
/-- orders -/
def tz_VO (r : tp_R) : Prop := ∀ k, k < tp_cl (r 8) → (r (80 + 4 * k) = 0 → tp_cl (r (82 + 4 * k)) < tp_cl (r 0) ∧ tp_cl (r (83 + 4 * k)) < tz_d r (tp_cl (r (82 + 4 * k)))) ∧ (r (80 + 4 * k) ≠ 0 → 0 < tp_cl (r (82 + 4 * k)))
/-- oil -/
def tz_VA (r : tp_R) : Prop := r 4 + tp_oil r (tp_cl (r 2)) + r 14 + r 5 + r 6 = r 7
def tz_VC (r : tp_R) : Prop := r 15 ≠ 0 → tp_cl (r 14) ≤ tp_cl (r 82)
/-- where the lad is -/
def tz_VD (r : tp_R) : Prop := tp_cl (r 11) < tp_cl (r 0) ∧ tp_cl (r 12) < tz_d r (tp_cl (r 11))
section TZV
variable {r q : tp_R}
theorem tz_VG_c (h : tz_VG r) (h0 : q 0 = r 0) (hd : ∀ i, 18 ≤ i → i < 24 → q i = r i) (hr : tp_rng r) : tz_VG q := by
  have b0 := (tp_r0 hr).2
  obtain ⟨h1, h2⟩ := h
  refine ⟨by rw [h0]; exact h1, fun g hg => ?_⟩
  rw [h0] at hg
  have := h2 g hg
  unfold tz_d
  rw [hd (18 + 2 * g) (by omega) (by omega), hd (19 + 2 * g) (by omega) (by omega)]
  exact this
theorem tz_VL_m (h : tz_VL r) (hr : tp_rng r) (h0 : tp_cl (r 0) ≤ tp_cl (q 0)) (hd : ∀ g, g < tp_cl (r 0) → tz_d r g ≤ tz_d q g) (h2 : q 2 = r 2) (h13 : q 13 = r 13) (hl : ∀ l, l < 8 → q (50 + 4 * l) = r (50 + 4 * l) ∧ q (51 + 4 * l) = r (51 + 4 * l)) : tz_VL q := by
  intro l hl2
  rw [h2] at hl2
  have b2 := (tp_r2 hr).2
  obtain ⟨a1, a2⟩ := h l hl2
  obtain ⟨e1, e2⟩ := hl l (by omega)
  rw [h13, e1, e2]
  refine ⟨a1, fun c => ?_⟩
  obtain ⟨g, c1, g1, g2, g3, g4⟩ := a2 c
  exact ⟨g, c1, g1, by omega, g3, Nat.lt_of_lt_of_le g4 (hd g g2)⟩
theorem tz_VO_m (h : tz_VO r) (hr : tp_rng r) (h0 : tp_cl (r 0) ≤ tp_cl (q 0)) (hd : ∀ g, g < tp_cl (r 0) → tz_d r g ≤ tz_d q g) (h8 : q 8 = r 8) (ho : ∀ i, 80 ≤ i → i < 104 → q i = r i) : tz_VO q := by
  intro k hk
  rw [h8] at hk
  have b8 := (tp_r8 hr).2
  obtain ⟨a1, a2⟩ := h k hk
  rw [ho (80 + 4 * k) (by omega) (by omega), ho (82 + 4 * k) (by omega) (by omega), ho (83 + 4 * k) (by omega) (by omega)]
  refine ⟨fun c => ?_, a2⟩
  obtain ⟨g1, g2⟩ := a1 c
  exact ⟨by omega, Nat.lt_of_lt_of_le g2 (hd _ g1)⟩
theorem tz_VD_m (h : tz_VD r) (h0 : tp_cl (r 0) ≤ tp_cl (q 0)) (hd : ∀ g, g < tp_cl (r 0) → tz_d r g ≤ tz_d q g) (h11 : q 11 = r 11) (h12 : q 12 = r 12) : tz_VD q := by
  obtain ⟨a1, a2⟩ := h
  unfold tz_VD
  rw [h11, h12]
  exact ⟨by omega, Nat.lt_of_lt_of_le a2 (hd _ a1)⟩
theorem tz_VA_c (h : tz_VA r) (hr : tp_rng r) (h2 : q 2 = r 2) (h4 : q 4 = r 4) (h5 : q 5 = r 5) (h6 : q 6 = r 6) (h7 : q 7 = r 7) (h14 : q 14 = r 14) (hl : ∀ l, l < 8 → q (49 + 4 * l) = r (49 + 4 * l)) : tz_VA q := by
  have b2 := (tp_r2 hr).2
  unfold tz_VA at h ⊢
  rw [h2, h4, h5, h6, h7, h14, ← h]
  rw [tz_oil_sum, tz_oil_sum, tz_sum_c _ (fun i hi => hl i (by omega))]
theorem tz_VM_c {t : Nat} {b : Nat → Nat} (h : tz_VMb t b r) (hr : tp_rng r) (h1 : q 1 = r 1) (h3 : q 3 = r 3) (h9 : q 9 = r 9) (hm : ∀ m, m < 6 → q (25 + 4 * m) = r (25 + 4 * m) ∧ q (26 + 4 * m) = r (26 + 4 * m) ∧ q (27 + 4 * m) = r (27 + 4 * m)) : tz_VMb t b q := by
  obtain ⟨a1, a2, a3⟩ := h
  have b1 := (tp_r1 hr).2
  refine ⟨by rw [h3]; exact a1, fun m hm2 => ?_, ?_⟩
  · rw [h1] at hm2
    obtain ⟨e1, e2, e3⟩ := hm m (by omega)
    rw [e1, e2, e3]
    exact a2 m hm2
  · rw [h1, h9, ← a3]
    exact tz_sum_c _ (fun i hi => (hm i (by omega)).2.2)
theorem tz_dig {g : Nat} (hg : g < 3) : ∀ (n : Nat) (r : tp_R) (d s : Nat), r (18 + 2 * g) = nI d → d ≤ 60 → r (19 + 2 * g) = nI s → s ≤ 20 → 60 < d + n →
    ∃ d' s', tp_dig (nI g) (18 + 2 * g) n r (18 + 2 * g) = nI d' ∧ d ≤ d' ∧ d' ≤ 60 ∧ tp_dig (nI g) (18 + 2 * g) n r (19 + 2 * g) = nI s' ∧ s' ≤ s ∧ (d' = 60 ∨ s' < tz_h g d')
  | 0, _, d, _, _, h, _, _, h2 => absurd h2 (by omega)
  | n + 1, r, d, s, hd, hd2, hs, hs2, hn => by
    unfold tp_dig
    have e19 : 18 + 2 * g + 1 = 19 + 2 * g := by omega
    have hb := tz_h_b g d
    rw [e19, hd, hs, tz_hd hg hd2]
    by_cases c : 60 ≤ d
    · rw [if_pos (by rw [tp_k60, tp_le (by decide) (by omega)]; exact c)]
      exact ⟨d, s, hd, Nat.le_refl _, hd2, hs, Nat.le_refl _, Or.inl (by omega)⟩
    · rw [if_neg (by rw [tp_k60, tp_le (by decide) (by omega)]; exact c)]
      by_cases c2 : s < tz_h g d
      · rw [if_pos (by rw [tp_lt (by omega) (by omega)]; exact c2)]
        exact ⟨d, s, hd, Nat.le_refl _, hd2, hs, Nat.le_refl _, Or.inr c2⟩
      · rw [if_neg (by rw [tp_lt (by omega) (by omega)]; exact c2), tp_sb (by omega), nI_1]
        obtain ⟨d', s', k1, k2, k3, k4, k5, k6⟩ := tz_dig hg n (tp_up (tp_up (tp_up r (19 + 2 * g) (nI (s - tz_h g d))) (18 + 2 * g) (nI (d + 1))) 10 (r 10 + 1)) (d + 1) (s - tz_h g d) (by simp (disch := omega) only [tp_us, tp_un]) (by omega) (by simp (disch := omega) only [tp_us, tp_un]) (by omega) (by omega)
        exact ⟨d', s', k1, by omega, k3, k4, by omega, k6⟩
/-- an hour of a miner: what it leaves, what it changes -/
theorem tz_mi1 {m : Nat} (h : tp_Ok r) (hV : tz_VG r) (hm : m < tp_cl (r 1)) (hp : ∃ p, p ≤ 5 ∧ r (25 + 4 * m) = nI p) :
    tz_VG (tp_mi1 m r) ∧ (∀ g, g < 3 → tz_d r g ≤ tz_d (tp_mi1 m r) g) ∧ (∀ i, 24 ≤ i → i < 48 → i ≠ 26 + 4 * m → i ≠ 27 + 4 * m → tp_mi1 m r i = r i) ∧
    ((tp_mi1 m r (26 + 4 * m) = r (26 + 4 * m) ∧ tp_mi1 m r (27 + 4 * m) = r (27 + 4 * m) ∧ tp_mi1 m r 9 = r 9) ∨
     (tp_mi1 m r (26 + 4 * m) = r (26 + 4 * m) + r (25 + 4 * m) ∧ tp_mi1 m r (27 + 4 * m) = r (27 + 4 * m) ∧ tp_mi1 m r 9 = r 9) ∨
     (tp_mi1 m r (26 + 4 * m) = r (26 + 4 * m) ∧ tp_mi1 m r (27 + 4 * m) = r (27 + 4 * m) + 1 ∧ tp_mi1 m r 9 = r 9 + 1)) := by
  have b1 := (tp_r1 h.1).2
  have hm6 : m < 6 := by omega
  have b0 := (tp_r0 h.1).2
  have hg := h.2.1 m hm
  have rg := tp_rmg h.1 hm6
  obtain ⟨g, -, gi, gc⟩ := tp_xx rg
  have gc : tp_cl (r (24 + 4 * m)) = g := gc
  rw [gc] at hg
  have hg3 : g < 3 := by omega
  obtain ⟨p, p5, hp⟩ := hp
  obtain ⟨d, d2, d1, d3⟩ := tp_xx (tp_rga h.1 hg3)
  obtain ⟨v1, s, s20, hs, v2⟩ := hV.2 g hg
  have d3 : tz_d r g = d := d3
  rw [d3] at v1 v2
  unfold tp_mi1
  rw [gc, d1]
  by_cases c : 60 ≤ d
  · rw [if_pos (by rw [tp_k60, tp_le (by decide) (by omega)]; exact c)]
    exact ⟨hV, fun _ _ => Nat.le_refl _, fun _ _ _ _ _ => rfl, Or.inl ⟨rfl, rfl, rfl⟩⟩
  · rw [if_neg (by rw [tp_k60, tp_le (by decide) (by omega)]; exact c)]
    by_cases cl : tp_lit r (r (24 + 4 * m)) (nI d) = true
    · rw [if_pos cl, gi, hs, hp, nI_add]
      have hsm : s < 8 := by
        have := tz_h_b g d
        rcases v2 with v2 | v2 <;> omega
      generalize hx : tp_up (tp_up r (26 + 4 * m) (r (26 + 4 * m) + nI p)) (19 + 2 * g) (nI (s + p)) = x
      have x18 : x (18 + 2 * g) = nI d := by rw [← hx]; simp (disch := omega) only [tp_un]; exact d1
      have x19 : x (19 + 2 * g) = nI (s + p) := by rw [← hx, tp_us]
      obtain ⟨d', s', k1, k2, k3, k4, k5, k6⟩ := tz_dig hg3 61 x d (s + p) x18 d2 x19 (by omega) (by omega)
      have ke : ∀ i, i ≠ 10 → i ≠ 18 + 2 * g → i ≠ 19 + 2 * g → tp_dig (nI g) (18 + 2 * g) 61 x i = x i := fun i a1 a2 a3 => tp_dig_n a1 a2 a3 61 x
      generalize tp_dig (nI g) (18 + 2 * g) 61 x = y at k1 k4 ke
      have yd : tz_d y g = d' := by unfold tz_d; rw [k1]; exact tp_cn (by omega)
      have y0 : y 0 = r 0 := by rw [ke 0 (by omega) (by omega) (by omega), ← hx]; simp (disch := omega) only [tp_un]
      have yo : ∀ g2, g2 < 3 → g2 ≠ g → y (18 + 2 * g2) = r (18 + 2 * g2) ∧ y (19 + 2 * g2) = r (19 + 2 * g2) := fun g2 h2 h3 => by
        rw [ke _ (by omega) (by omega) (by omega), ke _ (by omega) (by omega) (by omega), ← hx]
        simp (disch := omega) only [tp_un]
        exact ⟨trivial, trivial⟩
      refine ⟨⟨by rw [y0]; exact hV.1, fun g2 h2 => ?_⟩, fun g2 h2 => ?_, fun i i1 i2 i3 i4 => ?_, Or.inr (Or.inl ⟨?_, ?_, ?_⟩)⟩
      · rw [y0] at h2
        by_cases e : g2 = g
        · subst e
          rw [yd]
          exact ⟨by omega, s', by omega, k4, k6⟩
        · obtain ⟨e1, e2⟩ := yo g2 (by omega) e
          have := hV.2 g2 h2
          unfold tz_d
          rw [e1, e2]
          exact this
      · by_cases e : g2 = g
        · subst e
          rw [yd, d3]; exact k2
        · unfold tz_d
          rw [(yo g2 h2 e).1]
          exact Nat.le_refl _
      · rw [ke i (by omega) (by omega) (by omega), ← hx]; simp (disch := omega) only [tp_un]
      · rw [ke _ (by omega) (by omega) (by omega), ← hx, tp_un (by omega), tp_us]
      · rw [ke _ (by omega) (by omega) (by omega), ← hx]; simp (disch := omega) only [tp_un]
      · rw [ke _ (by omega) (by omega) (by omega), ← hx]; simp (disch := omega) only [tp_un]
    · rw [if_neg cl]
      generalize hx : tp_up (tp_up r (27 + 4 * m) (r (27 + 4 * m) + 1)) 9 (r 9 + 1) = x
      have xe : ∀ i, i ≠ 9 → i ≠ 27 + 4 * m → x i = r i := fun i a1 a2 => by rw [← hx, tp_un a1, tp_un a2]
      refine ⟨tz_VG_c hV (xe 0 (by omega) (by omega)) (fun i i1 i2 => xe i (by omega) (by omega)) h.1, fun g2 h2 => ?_, fun i i1 i2 i3 i4 => xe i (by omega) i4, Or.inr (Or.inr ⟨xe _ (by omega) (by omega), ?_, ?_⟩)⟩
      · unfold tz_d
        rw [xe _ (by omega) (by omega)]; exact Nat.le_refl _
      · rw [← hx, tp_un (by omega), tp_us]
      · rw [← hx, tp_us]
end TZV
