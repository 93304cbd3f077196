/-! An hour of the miners and of the lamps keeps what holds. -/
theorem tz_cln {x : Int32} {n : Nat} (h : x = nI n) (hn : n < 2147483648) : tp_cl x = n := by rw [h]; exact tp_cn hn
theorem tz_cn {n : Nat} (hn : n < 2147483648) : tp_cl (nI n) = n := tp_cn hn
section TZH
variable {r q : tp_R}
theorem tz_ho1 {t : Nat} (h : tp_Ok r) (hG : tz_VG r) (hM : tz_VMb (t + 1) (fun _ => t) r) : ∀ (j : Nat), j ≤ tp_cl (r 1) →
    tp_Ok (tp_nf tp_mi1 j r) ∧ tz_VG (tp_nf tp_mi1 j r) ∧ (∀ g, g < 3 → tz_d r g ≤ tz_d (tp_nf tp_mi1 j r) g) ∧ tz_VMb (t + 1) (fun m => if m < j then t + 1 else t) (tp_nf tp_mi1 j r) ∧ (∀ i, i < 18 ∨ 48 ≤ i → i ≠ 9 → i ≠ 10 → tp_nf tp_mi1 j r i = r i)
  | 0, _ => ⟨h, hG, fun _ _ => Nat.le_refl _, hM, fun _ _ _ _ => rfl⟩
  | j + 1, hj => by
    obtain ⟨i1, i2, i3, i4, i5⟩ := tz_ho1 h hG hM j (by omega)
    have b1 := (tp_r1 h.1).2
    rw [tp_nf_s]
    generalize tp_nf tp_mi1 j r = x at i1 i2 i3 i4 i5
    have x1 : x 1 = r 1 := i5 1 (by omega) (by omega) (by omega)
    obtain ⟨m3, m1, m9⟩ := i4
    have hjm : j < tp_cl (x 1) := by rw [x1]; omega
    obtain ⟨p, k, d, p1, p5, e25, e26, kb, e27, db⟩ := m1 j hjm
    have kb : k ≤ (if j < j then t + 1 else t) := kb
    have db : d ≤ (if j < j then t + 1 else t) := db
    rw [if_neg (Nat.lt_irrefl j)] at kb db
    obtain ⟨v1, v2, v3, v4⟩ := tz_mi1 i1 i2 hjm ⟨p, p5, e25⟩
    have ko := fun i a b c => tp_mi1_n (m := j) (i := i) (r := x) (by omega) i1.1 a b c
    refine ⟨tp_Ok_mi1 (by omega) i1, v1, fun g hg => Nat.le_trans (i3 g hg) (v2 g hg), ⟨?_, fun m hm => ?_, ?_⟩, fun i a b c => (ko i a c b).trans (i5 i a b c)⟩
    · rw [ko 3 (by omega) (by omega) (by omega)]; exact m3
    · rw [ko 1 (by omega) (by omega) (by omega)] at hm
      have hm2 : m < 6 := by rw [x1] at hm; omega
      by_cases c : m = j
      · subst c
        show ∃ p k d, 1 ≤ p ∧ p ≤ 5 ∧ _ ∧ _ ∧ k ≤ (if m < m + 1 then t + 1 else t) ∧ _ ∧ d ≤ (if m < m + 1 then t + 1 else t)
        rw [v3 (25 + 4 * m) (by omega) (by omega) (by omega) (by omega), if_pos (Nat.lt_succ_self m)]
        rcases v4 with ⟨w1, w2, -⟩ | ⟨w1, w2, -⟩ | ⟨w1, w2, -⟩
        · exact ⟨p, k, d, p1, p5, e25, w1.trans e26, by omega, w2.trans e27, by omega⟩
        · refine ⟨p, k + 1, d, p1, p5, e25, ?_, by omega, w2.trans e27, by omega⟩
          rw [w1, e26, e25, nI_add, Nat.mul_succ]
        · refine ⟨p, k, d + 1, p1, p5, e25, w1.trans e26, by omega, ?_, by omega⟩
          rw [w2, e27, nI_1]
      · obtain ⟨p, k, d, p1, p5, e25, e26, kb, e27, db⟩ := m1 m hm
        have kb : k ≤ (if m < j then t + 1 else t) := kb
        have db : d ≤ (if m < j then t + 1 else t) := db
        show ∃ p k d, 1 ≤ p ∧ p ≤ 5 ∧ _ ∧ _ ∧ k ≤ (if m < j + 1 then t + 1 else t) ∧ _ ∧ d ≤ (if m < j + 1 then t + 1 else t)
        rw [v3 (25 + 4 * m) (by omega) (by omega) (by omega) (by omega), v3 (26 + 4 * m) (by omega) (by omega) (by omega) (by omega), v3 (27 + 4 * m) (by omega) (by omega) (by omega) (by omega)]
        refine ⟨p, k, d, p1, p5, e25, e26, ?_, e27, ?_⟩
        · by_cases c2 : m < j
          · rw [if_pos c2] at kb; rw [if_pos (by omega)]; exact kb
          · rw [if_neg c2] at kb; rw [if_neg (by omega)]; exact kb
        · by_cases c2 : m < j
          · rw [if_pos c2] at db; rw [if_pos (by omega)]; exact db
          · rw [if_neg c2] at db; rw [if_neg (by omega)]; exact db
    · rw [ko 1 (by omega) (by omega) (by omega)]
      have so : ∀ i, i < tp_cl (x 1) → i ≠ j → tp_mi1 j x (27 + 4 * i) = x (27 + 4 * i) := fun i hi hne => by
        rw [x1] at hi
        exact v3 (27 + 4 * i) (by omega) (by omega) (by omega) (by omega)
      rcases v4 with ⟨-, w2, w3⟩ | ⟨-, w2, w3⟩ | ⟨-, w2, w3⟩
      · rw [w3, ← m9]
        exact tz_sum_c _ (fun i hi => (Classical.em (i = j)).elim (fun c => by subst c; exact w2) (so i hi))
      · rw [w3, ← m9]
        exact tz_sum_c _ (fun i hi => (Classical.em (i = j)).elim (fun c => by subst c; exact w2) (so i hi))
      · rw [w3, ← m9]
        exact tz_sum_p (f := fun m => x (27 + 4 * m)) (g := fun m => tp_mi1 j x (27 + 4 * m)) (x := 1) _ hjm w2 so
theorem tz_bu1 {l : Nat} (hA : tz_VA r) (hl : l < tp_cl (r 2)) : tz_VA (tp_bu1 l r) ∧ (∀ i, i ≠ 5 → i ≠ 49 + 4 * l → tp_bu1 l r i = r i) := by
  unfold tp_bu1
  split
  · exact ⟨hA, fun _ _ _ => rfl⟩
  · generalize hx : tp_up (tp_up r (49 + 4 * l) (r (49 + 4 * l) - 1)) 5 (r 5 + 1) = x
    have xe : ∀ i, i ≠ 5 → i ≠ 49 + 4 * l → x i = r i := fun i a b => by rw [← hx, tp_un a, tp_un b]
    refine ⟨?_, xe⟩
    have x5 : x 5 = r 5 + 1 := by rw [← hx, tp_us]
    have xl : x (49 + 4 * l) = r (49 + 4 * l) + (-1) := by rw [← hx, tp_un (by omega), tp_us, Int32.sub_eq_add_neg]
    unfold tz_VA at hA ⊢
    rw [xe 2 (by omega) (by omega), xe 4 (by omega) (by omega), xe 6 (by omega) (by omega), xe 7 (by omega) (by omega), xe 14 (by omega) (by omega), x5, ← hA, tz_oil_sum, tz_oil_sum, tz_sum_p (f := fun l => r (49 + 4 * l)) (g := fun l => x (49 + 4 * l)) (x := -1) (l := l) _ hl xl (fun i _ hne => xe _ (by omega) (by omega))]
    grind
theorem tz_ho2 (hA : tz_VA r) (hr : tp_rng r) : ∀ (j : Nat), j ≤ tp_cl (r 2) → tz_VA (tp_nf tp_bu1 j r) ∧ (∀ i, i ≠ 5 → (i < 48 ∨ 80 ≤ i ∨ i % 4 ≠ 1) → tp_nf tp_bu1 j r i = r i)
  | 0, _ => ⟨hA, fun _ _ _ => rfl⟩
  | j + 1, hj => by
    obtain ⟨a1, a2⟩ := tz_ho2 hA hr j (by omega)
    have b8 := (tp_r2 hr).2
    rw [tp_nf_s]
    generalize tp_nf tp_bu1 j r = x at a1 a2
    have x2 : x 2 = r 2 := a2 2 (by omega) (by omega)
    obtain ⟨b1, b2⟩ := tz_bu1 (l := j) a1 (by rw [x2]; omega)
    exact ⟨b1, fun i h1 h2 => by rw [b2 i h1 (by omega)]; exact a2 i h1 h2⟩
end TZH
