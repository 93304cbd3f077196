/-! The lad: what needs no step. -/
theorem tp_han_n {r : tp_R} {i : Nat} (h : i < 48) (h4 : i ≠ 4) (h6 : i ≠ 6) (h8 : i ≠ 8) (h11 : i ≠ 11) (h13 : i ≠ 13) (h14 : i ≠ 14) (h15 : i ≠ 15) : tp_han r i = r i := by
  unfold tp_han tp_take tp_tk1 tp_pour tp_pr1 tp_pr2
  split
  · split
    · simp (disch := omega) only [tp_un]
    · rw [tp_od_n (by omega) h8]
      simp (disch := omega) only [tp_un]
  · split
    · split <;> simp (disch := omega) only [tp_un]
    · rw [tp_od_n (by omega) h8]
      split <;> simp (disch := omega) only [tp_un]
theorem tp_st_n {r : tp_R} {i : Nat} (h11 : i ≠ 11) (h12 : i ≠ 12) : tp_st r i = r i := by
  unfold tp_st
  split
  · split <;> simp (disch := omega) only [tp_un]
  · split <;> simp (disch := omega) only [tp_un]
def tp_pot (r : tp_R) : Nat := 2 * tp_cl (r 8) - (if r 13 = -1 ∧ r 15 = 0 then 0 else 1)
theorem tp_Ok_ord {r : tp_R} (h : tp_Ok r) (ho : 0 < tp_cl (r 8)) : (r 81 = nI (tp_cl (r 81)) ∧ tp_cl (r 81) ≤ 7) ∧ tp_cl (r 81) < tp_cl (r 2) ∧ (r 80 = 0 → tp_cl (r 82) ≤ 2 ∧ r 83 ≠ -1) ∧ (r 80 ≠ 0 → r 83 = -1) ∧ (r 80 ≠ 0 → r 13 = -1) ∧ (r 80 = 0 → r 15 = 0) := by
  obtain ⟨h0, h1, h2, h3, h4, h5, h6⟩ := h
  obtain ⟨a1, a2, a3⟩ := h2 0 ho
  refine ⟨tp_rol h0 (show 0 < 6 by decide), a1, a2, a3, fun q => ?_, fun q => ?_⟩
  · by_cases c : r 13 = -1
    · exact c
    · exact absurd (h4 c).2.1 q
  · by_cases c : r 15 = 0
    · exact c
    · exact absurd q (h5 c).2
theorem tp_han_A {r : tp_R} (h : tp_Ok r) (ho : 0 < tp_cl (r 8)) (c1 : r 80 = 0) (c2 : r 13 = -1) : tp_Ok (tp_han r) ∧ tp_pot (tp_han r) + 1 = tp_pot r := by
  obtain ⟨⟨l, l2, l1, l3⟩, b1, b2, b3, b4, b5⟩ := (tp_Ok_ord h ho).imp_left tp_xx
  have b2' := (tp_r2 h.1).2
  have hg : tp_han r = tp_up (tp_up (tp_up (tp_up r 11 (tp_gg r)) 13 (r 81)) (50 + 4 * tp_cl (r 81)) (-1)) (51 + 4 * tp_cl (r 81)) (-1) := by
    unfold tp_han tp_gg
    simp only [if_pos c1, if_pos c2]
  rw [hg]
  have g1 := (tp_goal h ho).1
  unfold tp_cl at b1 ⊢
  rw [l3] at b1 ⊢
  have hl : l < 8 := by omega
  have O1 : tp_O0 (tp_up (tp_up (tp_up (tp_up r 11 (tp_gg r)) 13 (r 81)) (50 + 4 * l) (-1)) (51 + 4 * l) (-1)) := by
    refine tp_O0_up (tp_O0_up (tp_O0_up (tp_O0_up (tp_Ok_O0 h) (tp_inN rfl g1.1 g1.2) ?_) (tp_inM rfl l1 l2) ?_) (tp_inm1 (tp_kd_lg l hl)) ?_) (tp_inm1 (tp_kd_lc l hl)) ?_ <;> (unfold tp_fr0; omega)
  refine ⟨⟨O1.1, O1.2.1, O1.2.2, fun q hq w => ?_, fun _ => ?_, fun q => ?_, fun _ => ?_⟩, ?_⟩
  · simp (disch := omega) only [tp_us, tp_un] at hq ⊢
    by_cases c : q = l
    · rw [l1, c]
    · simp (disch := omega) only [tp_us, tp_un] at w
      have := tp_hung h c2 hq
      exact absurd w (fun z => z.elim this.1 this.2)
  · simp (disch := omega) only [tp_us, tp_un]
    exact ⟨ho, c1, trivial, b5 c1⟩
  · simp (disch := omega) only [tp_us, tp_un] at q
    exact absurd (b5 c1) q
  · simp (disch := omega) only [tp_us, tp_un]
    exact h.2.2.2.2.2.2 (b5 c1)
  · unfold tp_pot
    simp (disch := omega) only [tp_us, tp_un]
    rw [if_neg (fun z => (tp_m1n (n := l) (by omega)).mp (l1 ▸ z.1)), if_pos ⟨c2, b5 c1⟩]
    unfold tp_cl at ho ⊢
    omega
theorem tp_han_B {r : tp_R} (h : tp_Ok r) (ho : 0 < tp_cl (r 8)) (c1 : r 80 = 0) (c2 : ¬ r 13 = -1) : tp_Ok (tp_han r) ∧ tp_pot (tp_han r) + 1 = tp_pot r := by
  obtain ⟨⟨l, l2, l1, l3⟩, b1, b2, b3, b4, b5⟩ := (tp_Ok_ord h ho).imp_left tp_xx
  have b2' := (tp_r2 h.1).2
  have hg : tp_han r = tp_od 0 (tp_up (tp_up (tp_up (tp_up r 11 (r 82)) (50 + 4 * tp_cl (r 81)) (r 82)) (51 + 4 * tp_cl (r 81)) (r 83)) 13 (-1)) := by
    unfold tp_han
    rw [if_pos c1, if_neg c2]
  rw [hg]
  have g1 := tp_row h.1 (show 0 < 6 by decide)
  have g2 := (tp_roc h.1 (show 0 < 6 by decide)).resolve_left (b2 c1).2
  have g82 : r 82 = nI (tp_cl (r 82)) := g1.1
  have g83 : r 83 = nI (tp_cl (r 83)) ∧ tp_cl (r 83) ≤ 59 := g2
  unfold tp_cl at b1
  rw [show tp_cl (r 81) = l from l3]
  rw [l3] at b1
  have hl : l < 8 := by omega
  have O1 : tp_O0 (tp_up (tp_up (tp_up (tp_up r 11 (r 82)) (50 + 4 * l) (r 82)) (51 + 4 * l) (r 83)) 13 (-1)) := by
    refine tp_O0_up (tp_O0_up (tp_O0_up (tp_O0_up (tp_Ok_O0 h) (tp_inN rfl g82 (b2 c1).1) ?_) (tp_inM (tp_kd_lg l hl) g82 (b2 c1).1) ?_) (tp_inM (tp_kd_lc l hl) g83.1 g83.2) ?_) (tp_inm1 rfl) ?_ <;> (unfold tp_fr0; omega)
  have e8 : ∀ x : tp_R, x = tp_up (tp_up (tp_up (tp_up r 11 (r 82)) (50 + 4 * l) (r 82)) (51 + 4 * l) (r 83)) 13 (-1) → x 8 = r 8 ∧ x 13 = -1 ∧ x 15 = r 15 ∧ x 14 = r 14 ∧ x 2 = r 2 ∧ x (50 + 4 * l) = r 82 ∧ x (51 + 4 * l) = r 83 ∧ (∀ q, q ≠ l → x (50 + 4 * q) = r (50 + 4 * q) ∧ x (51 + 4 * q) = r (51 + 4 * q)) := by
    intro x e
    subst e
    refine ⟨?_, ?_, ?_, ?_, ?_, ?_, ?_, fun q hq => ⟨?_, ?_⟩⟩ <;> simp (disch := omega) only [tp_us, tp_un]
  generalize hx : tp_up (tp_up (tp_up (tp_up r 11 (r 82)) (50 + 4 * l) (r 82)) (51 + 4 * l) (r 83)) 13 (-1) = x at O1 ⊢
  obtain ⟨e8, e13, e15, e14, e2, eg, ec, eo⟩ := e8 x hx.symm
  have h15 := b5 c1
  have h14 := h.2.2.2.2.2.2 h15
  have hox : 0 < tp_cl (x 8) := by rw [e8]; exact ho
  have K := tp_Ok_od (k := 0) O1 hox e13 (e15.trans h15) (e14.trans h14) (fun q hq => by
    rw [e2] at hq
    by_cases c : q = l
    · subst c
      rw [eg, ec]
      exact ⟨by rw [g82]; exact fun z => (tp_m1n (by have := (b2 c1).1; omega)).mp z, (b2 c1).2⟩
    · rw [(eo q c).1, (eo q c).2]
      have b13 := (h.2.2.2.2.1 c2).2.2.1
      have := h.2.2.2.1 q hq
      rw [← b13, l1, tp_eq (by omega) (by omega)] at this
      exact ⟨fun z => c (this (Or.inl z)).symm, fun z => c (this (Or.inr z)).symm⟩)
  refine ⟨K, ?_⟩
  have k8 := (tp_od_cl (k := 0) O1.1 hox).1
  unfold tp_pot
  rw [k8, e8, tp_od_n (by decide) (by decide), tp_od_n (by decide) (by decide), e13, e15, if_pos ⟨rfl, h15⟩, if_neg (fun z => c2 z.1)]
  omega
theorem tp_han_C {r : tp_R} (h : tp_Ok r) (ho : 0 < tp_cl (r 8)) (c1 : ¬ r 80 = 0) (c2 : r 15 = 0) : tp_Ok (tp_han r) ∧ tp_pot (tp_han r) + 1 = tp_pot r := by
  obtain ⟨-, b1, b2, b3, b4, b5⟩ := tp_Ok_ord h ho
  obtain ⟨s, s2, s1, s3⟩ := tp_xx (tp_r4 h.1)
  obtain ⟨w, w2, w1, w3⟩ := tp_xx (tp_row h.1 (show 0 < 6 by decide))
  have w1 : r 82 = nI w := w1
  have hg : ∃ n, n ≤ s ∧ n ≤ 99 ∧ tp_han r = tp_tk1 (nI n) r := by
    unfold tp_han tp_take
    rw [if_neg c1, if_pos c2, s1, w1]
    simp (disch := omega) only [tp_le]
    split
    · exact ⟨s, by omega, by omega, rfl⟩
    · exact ⟨w, by omega, by omega, rfl⟩
  obtain ⟨n, n1, n2, hg⟩ := hg
  rw [hg]
  unfold tp_tk1
  rw [s1, tp_sb n1]
  have O1 : tp_O0 (tp_up (tp_up (tp_up r 4 (nI (s - n))) 14 (nI n)) 15 1) := by
    refine tp_O0_up (tp_O0_up (tp_O0_up (tp_Ok_O0 h) (tp_inN rfl rfl (by omega)) ?_) (tp_inN rfl rfl n2) ?_) (tp_inN (n := 1) rfl rfl (by decide)) ?_ <;> (unfold tp_fr0; omega)
  have b13 := b4 c1
  refine ⟨⟨O1.1, O1.2.1, O1.2.2, fun q hq z => ?_, fun q => ?_, fun q => ?_, fun q => ?_⟩, ?_⟩
  · have := (tp_r2 h.1).2
    simp (disch := omega) only [tp_us, tp_un] at hq z ⊢
    exact h.2.2.2.1 q hq z
  · simp (disch := omega) only [tp_us, tp_un] at q
    exact absurd b13 q
  · simp (disch := omega) only [tp_us, tp_un]
    exact ⟨ho, c1⟩
  · simp (disch := omega) only [tp_us, tp_un] at q
    exact absurd q (by decide)
  · unfold tp_pot
    simp (disch := omega) only [tp_us, tp_un]
    rw [if_neg (fun z => absurd z.2 (by decide)), if_pos ⟨b13, c2⟩]
    omega
theorem tp_han_D {r : tp_R} (h : tp_Ok r) (ho : 0 < tp_cl (r 8)) (c1 : ¬ r 80 = 0) (c2 : ¬ r 15 = 0) : tp_Ok (tp_han r) ∧ tp_pot (tp_han r) + 1 = tp_pot r := by
  obtain ⟨-, b1, b2, b3, b4, b5⟩ := tp_Ok_ord h ho
  have b2' := (tp_r2 h.1).2
  have g1 := (tp_goal h ho).1
  have gg : tp_gg r = r (50 + 4 * tp_cl (r 81)) := by unfold tp_gg; rw [if_neg c1, if_neg c2]
  have hg : tp_han r = tp_od 0 (tp_pour (tp_cl (r 81)) (tp_up r 11 (tp_gg r))) := by
    unfold tp_han
    rw [if_neg c1, if_neg c2, gg]
  rw [hg]
  generalize tp_cl (r 81) = l at b1 ⊢
  have hl : l < 8 := by omega
  obtain ⟨o, o2, o1, o3⟩ := tp_xx (tp_rlo h.1 hl)
  obtain ⟨w, w2, w1, w3⟩ := tp_xx (tp_r14 h.1)
  have hx : tp_O0 (tp_pour l (tp_up r 11 (tp_gg r))) := by
    have A1 : tp_O0 (tp_up r 11 (tp_gg r)) := tp_O0_up (tp_Ok_O0 h) (tp_inN rfl g1.1 g1.2) (by unfold tp_fr0; omega)
    unfold tp_pour tp_pr1 tp_pr2
    simp (disch := omega) only [tp_us, tp_un]
    rw [o1, w1, nI_add]
    simp (disch := omega) only [tp_le, tp_k99, tp_uu]
    split
    · refine tp_O0_up (tp_O0_up (tp_O0_up (tp_O0_up A1 (tp_inN (n := o + w) (tp_kd_lo l hl) ?_ (by omega)) ?_) (tp_in_any rfl) ?_) (tp_inN (n := 0) rfl rfl (by decide)) ?_) (tp_inN (n := 0) rfl rfl (by decide)) ?_
      · rw [tp_k0, tp_sb (by omega)]; rfl
      all_goals (unfold tp_fr0; omega)
    · refine tp_O0_up (tp_O0_up (tp_O0_up (tp_O0_up A1 (tp_inN (n := 99) (tp_kd_lo l hl) ?_ (by omega)) ?_) (tp_in_any rfl) ?_) (tp_inN (n := 0) rfl rfl (by decide)) ?_) (tp_inN (n := 0) rfl rfl (by decide)) ?_
      · rw [tp_sb (by omega), tp_sb (by omega)]; congr 1; omega
      all_goals (unfold tp_fr0; omega)
  have e8 : ∀ x : tp_R, x = tp_pour l (tp_up r 11 (tp_gg r)) → x 8 = r 8 ∧ x 13 = r 13 ∧ x 15 = 0 ∧ x 14 = 0 ∧ x 2 = r 2 ∧ (∀ q, x (50 + 4 * q) = r (50 + 4 * q) ∧ x (51 + 4 * q) = r (51 + 4 * q)) := by
    intro x e
    subst e
    unfold tp_pour tp_pr1 tp_pr2
    split <;> (refine ⟨?_, ?_, ?_, ?_, ?_, fun q => ⟨?_, ?_⟩⟩ <;> simp (disch := omega) only [tp_us, tp_un])
  generalize hxx : tp_pour l (tp_up r 11 (tp_gg r)) = x at hx ⊢
  obtain ⟨e8, e13, e15, e14, e2, eo⟩ := e8 x hxx.symm
  have b13 := b4 c1
  have hox : 0 < tp_cl (x 8) := by rw [e8]; exact ho
  have K := tp_Ok_od (k := 0) hx hox (e13.trans b13) e15 e14 (fun q hq => by
    rw [e2] at hq
    rw [(eo q).1, (eo q).2]
    exact tp_hung h b13 hq)
  refine ⟨K, ?_⟩
  have k8 := (tp_od_cl (k := 0) hx.1 hox).1
  unfold tp_pot
  rw [k8, e8, tp_od_n (by decide) (by decide), tp_od_n (by decide) (by decide), e13, e15, if_pos ⟨b13, rfl⟩, if_neg (fun z => c2 z.2)]
  omega
theorem tp_Ok_han {r : tp_R} (h : tp_Ok r) (ho : 0 < tp_cl (r 8)) : tp_Ok (tp_han r) ∧ tp_pot (tp_han r) + 1 = tp_pot r := by
  by_cases c1 : r 80 = 0
  · by_cases c2 : r 13 = -1
    · exact tp_han_A h ho c1 c2
    · exact tp_han_B h ho c1 c2
  · by_cases c2 : r 15 = 0
    · exact tp_han_C h ho c1 c2
    · exact tp_han_D h ho c1 c2
theorem tp_pos {r : tp_R} (h : tp_Ok r) : ¬ r 8 ≤ 0 ↔ 0 < tp_cl (r 8) := by
  obtain ⟨n, n2, n1, n3⟩ := tp_xx (tp_r8 h.1)
  unfold tp_cl
  rw [n3, n1, tp_k0, tp_le (by omega) (by decide)]
  omega
theorem tp_Ok_ha : ∀ (n : Nat) {r : tp_R}, tp_Ok r → tp_Ok (tp_ha n r)
  | 0, _, h => h
  | n + 1, r, h => by
    unfold tp_ha
    split
    · exact h
    · split
      · exact tp_Ok_ha n (tp_Ok_han h ((tp_pos h).mp ‹_›)).1
      · exact h
theorem tp_pot_le {r : tp_R} (h : tp_Ok r) : tp_pot r ≤ 12 := by
  have := (tp_r8 h.1).2
  unfold tp_pot; omega
theorem tp_ha_done : ∀ (n : Nat) {r : tp_R}, tp_Ok r → tp_pot r ≤ n → tp_ha n r 8 ≤ 0 ∨ tp_at (tp_ha n r) = false
  | 0, r, h, hn => by
    by_cases c : r 8 ≤ 0
    · exact Or.inl c
    · have := (tp_Ok_han h ((tp_pos h).mp c)).2
      omega
  | n + 1, r, h, hn => by
    unfold tp_ha
    split
    · exact Or.inl ‹_›
    · split
      · have := tp_Ok_han h ((tp_pos h).mp ‹_›)
        exact tp_ha_done n this.1 (by omega)
      · exact Or.inr (by simpa using ‹¬ tp_at r = true›)
theorem tp_ha_more : ∀ (n m : Nat) {r : tp_R}, tp_Ok r → tp_pot r ≤ n → n ≤ m → tp_ha m r = tp_ha n r
  | 0, 0, _, _, _, _ => rfl
  | 0, m + 1, r, h, hn, _ => by
    show tp_ha (m + 1) r = r
    unfold tp_ha
    by_cases c : r 8 ≤ 0
    · rw [if_pos c]
    · have := (tp_Ok_han h ((tp_pos h).mp c)).2
      omega
  | n + 1, 0, _, _, _, hm => absurd hm (by omega)
  | n + 1, m + 1, r, h, hn, hm => by
    unfold tp_ha
    split
    · rfl
    · split
      · have := tp_Ok_han h ((tp_pos h).mp ‹_›)
        exact tp_ha_more n m this.1 (by omega) (by omega)
      · rfl
theorem tp_ha_keep {i : Nat} (hi : ∀ r : tp_R, tp_han r i = r i) : ∀ (n : Nat) (r : tp_R), tp_ha n r i = r i
  | 0, _ => rfl
  | n + 1, r => by
    unfold tp_ha
    split
    · rfl
    · split
      · rw [tp_ha_keep hi n, hi]
      · rfl
theorem tp_hal_n {r : tp_R} {i : Nat} (h : i < 48) (h4 : i ≠ 4) (h6 : i ≠ 6) (h8 : i ≠ 8) (h11 : i ≠ 11) (h13 : i ≠ 13) (h14 : i ≠ 14) (h15 : i ≠ 15) : tp_hal r i = r i :=
  tp_ha_keep (fun _ => tp_han_n h h4 h6 h8 h11 h13 h14 h15) 12 r
theorem tp_Ok_hal {r : tp_R} (h : tp_Ok r) : tp_Ok (tp_hal r) := tp_Ok_ha 12 h
theorem tp_hal_at {r : tp_R} (h : tp_Ok r) : tp_hal r 8 ≤ 0 ∨ tp_at (tp_hal r) = false := tp_ha_done 12 h (tp_pot_le h)
/-- a state between two steps -/
def tp_Os (r : tp_R) : Prop := tp_Ok r ∧ (r 8 ≤ 0 ∨ tp_at r = false)
theorem tp_Os_hal {r : tp_R} (h : tp_Ok r) : tp_Os (tp_hal r) := ⟨tp_Ok_hal h, tp_hal_at h⟩
theorem tp_Os_st {r : tp_R} (h : tp_Os r) (c : ¬ r 8 ≤ 0) : tp_Ok (tp_st r) := tp_Ok_st h.1 ((tp_pos h.1).mp c) (h.2.resolve_left c)
theorem tp_Os_gs : ∀ (n : Nat) {r : tp_R}, tp_Os r → tp_Os (tp_gs n r)
  | 0, _, h => h
  | n + 1, r, h => by
    unfold tp_gs
    split
    · exact h
    · exact tp_Os_gs n (tp_Os_hal (tp_Os_st h ‹_›))
theorem tp_gs_keep {i : Nat} (h : i < 48) (h4 : i ≠ 4) (h6 : i ≠ 6) (h8 : i ≠ 8) (h11 : i ≠ 11) (h12 : i ≠ 12) (h13 : i ≠ 13) (h14 : i ≠ 14) (h15 : i ≠ 15) : ∀ (n : Nat) (r : tp_R), tp_gs n r i = r i
  | 0, _ => rfl
  | n + 1, r => by
    unfold tp_gs
    split
    · rfl
    · rw [tp_gs_keep h h4 h6 h8 h11 h12 h13 h14 h15 n, tp_hal_n h h4 h6 h8 h11 h13 h14 h15, tp_st_n h11 h12]
theorem tp_Ok_goes {r : tp_R} (h : tp_Ok r) : tp_Ok (tp_goes r) := (tp_Os_gs _ (tp_Os_hal h)).1
theorem tp_goes_n {r : tp_R} {i : Nat} (h : i < 48) (h4 : i ≠ 4) (h6 : i ≠ 6) (h8 : i ≠ 8) (h11 : i ≠ 11) (h12 : i ≠ 12) (h13 : i ≠ 13) (h14 : i ≠ 14) (h15 : i ≠ 15) : tp_goes r i = r i := by
  unfold tp_goes
  rw [tp_gs_keep h h4 h6 h8 h11 h12 h13 h14 h15, tp_hal_n h h4 h6 h8 h11 h13 h14 h15]
