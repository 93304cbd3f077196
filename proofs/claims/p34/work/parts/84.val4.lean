/-! Steps, orders, hours, actions keep what holds. -/
section TZM
variable {r q : tp_R}
theorem tz_st_k (h : tz_VE r) (ho : 0 < tp_cl (r 8)) (ha : tp_at r = false) : tz_VE (tp_st r) := by
  have hK := tp_Ok_st h.1 ho ha
  obtain ⟨t1, t2⟩ := tz_goal h ho
  obtain ⟨hk, hL, hO, hA, hC, hD⟩ := h
  have hn : ¬ tp_at r = true := by rw [ha]; decide
  rw [tp_at_iff hk ho] at hn
  obtain ⟨q1, q2, -, -⟩ := tp_goal hk ho
  have b0 := (tp_r0 hk.1).2
  have xe : ∀ i, i ≠ 11 → i ≠ 12 → tp_st r i = r i := fun i a b => tp_st_n a b
  have xd : ∀ g, g < 3 → tz_d (tp_st r) g = tz_d r g := fun g hg => by unfold tz_d; rw [xe _ (by omega) (by omega)]
  have x0 := xe 0 (by omega) (by omega)
  refine ⟨hK, ?_, ?_, ?_, ?_, ?_⟩
  · exact tz_VL_m hL hk.1 (by rw [x0]; exact Nat.le_refl _) (fun g hg => by rw [xd g (by omega)]; exact Nat.le_refl _) (xe 2 (by omega) (by omega)) (xe 13 (by omega) (by omega)) (fun j hj => ⟨xe _ (by omega) (by omega), xe _ (by omega) (by omega)⟩)
  · exact tz_VO_m hO hk.1 (by rw [x0]; exact Nat.le_refl _) (fun g hg => by rw [xd g (by omega)]; exact Nat.le_refl _) (xe 8 (by omega) (by omega)) (fun i i1 i2 => xe i (by omega) (by omega))
  · exact tz_VA_c hA hk.1 (xe 2 (by omega) (by omega)) (xe 4 (by omega) (by omega)) (xe 5 (by omega) (by omega)) (xe 6 (by omega) (by omega)) (xe 7 (by omega) (by omega)) (xe 14 (by omega) (by omega)) (fun j hj => xe _ (by omega) (by omega))
  · unfold tz_VC
    rw [xe 15 (by omega) (by omega), xe 14 (by omega) (by omega), xe 82 (by omega) (by omega)]
    exact hC
  · unfold tz_VD
    rw [x0]
    obtain ⟨d1, d2⟩ := hD
    obtain ⟨a, a2, a1, a3⟩ := tp_xx q1
    obtain ⟨b, b2, b1, b3⟩ := tp_xx q2
    obtain ⟨c, c2, c1, c3⟩ := tp_xx (tp_r11 hk.1)
    obtain ⟨d, e2, e1, e3⟩ := tp_xx (tp_r12 hk.1)
    have a3 : tp_cl (tp_gg r) = a := a3
    have b3 : tp_cl (tp_gc r) = b := b3
    have c3 : tp_cl (r 11) = c := c3
    have e3 : tp_cl (r 12) = d := e3
    rw [a3, b3, c3, e3] at hn
    rw [a3] at t1 t2
    rw [b3] at t2
    rw [c3] at d1 d2
    rw [e3] at d2
    have z1 : tp_cl (1 : Int32) = 1 := rfl
    by_cases e : a = c
    · subst e
      have s11 : tp_st r 11 = r 11 := by
        unfold tp_st
        rw [if_pos (by rw [a1, c1])]
        split <;> rw [tp_un (by decide)]
      rw [s11, c3]
      refine ⟨d1, ?_⟩
      rw [xd a (by omega)]
      unfold tp_st
      rw [if_pos (by rw [a1, c1]), b1, e1]
      by_cases f : b ≤ d
      · rw [if_pos (by rw [tp_le (by omega) (by omega)]; exact f), tp_us, sb_m1 (by omega), tz_cn (by omega)]
        omega
      · rw [if_neg (by rw [tp_le (by omega) (by omega)]; exact f), tp_us, nI_1, tz_cn (by omega)]
        omega
    · have ne : ¬ tp_gg r = r 11 := by rw [a1, c1, tp_eq (by omega) (by omega)]; exact e
      by_cases f : d = 0
      · have s11 : tp_st r 11 = tp_gg r ∧ tp_st r 12 = 1 := by
          unfold tp_st
          rw [if_neg ne, if_pos (by rw [e1, f]; decide)]
          exact ⟨by rw [tp_un (by decide), tp_us], tp_us _ _ _⟩
        rw [s11.1, s11.2, a3, z1, xd a (by omega)]
        exact ⟨t1, by omega⟩
      · have s11 : tp_st r 11 = r 11 ∧ tp_st r 12 = nI (d - 1) := by
          unfold tp_st
          rw [if_neg ne, if_neg (by rw [e1, tp_k0, tp_le (by omega) (by decide)]; omega)]
          exact ⟨by rw [tp_un (by decide)], by rw [tp_us, e1, tp_k1, tp_sb (by omega)]⟩
        rw [s11.1, s11.2, c3, tz_cn (by omega), xd c (by omega)]
        exact ⟨d1, by omega⟩
theorem tz_ha_k : ∀ (n : Nat) {r : tp_R}, tz_VE r → tz_VE (tp_ha n r)
  | 0, _, h => h
  | n + 1, r, h => by
    unfold tp_ha
    split
    · exact h
    · split
      · exact tz_ha_k n (tz_han h ((tp_pos h.1).mp ‹_›) ‹_›)
      · exact h
theorem tz_gs_k : ∀ (n : Nat) {r : tp_R}, tz_VE r → (r 8 ≤ 0 ∨ tp_at r = false) → tz_VE (tp_gs n r)
  | 0, _, h, _ => h
  | n + 1, r, h, ha => by
    unfold tp_gs
    split
    · exact h
    · rename_i c
      have ho := (tp_pos h.1).mp c
      have hs := tz_st_k h ho (ha.resolve_left c)
      exact tz_gs_k n (tz_ha_k 12 hs) (tp_hal_at hs.1)
theorem tz_goes_k (h : tz_VE r) : tz_VE (tp_goes r) := tz_gs_k _ (tz_ha_k 12 h) (tp_hal_at h.1)
theorem tz_oo_k {q l w c : Int32} {l1 : Nat} (h : tz_VE r) (ho : tp_cl (r 8) < 6) (hl : l = nI l1) (hl1 : l1 < tp_cl (r 2)) (hk : (q = 0 ∧ ∃ w1 c1, w = nI w1 ∧ w1 < tp_cl (r 0) ∧ c = nI c1 ∧ c1 < tz_d r w1) ∨ (q = 1 ∧ c = -1 ∧ ∃ w1, w = nI w1 ∧ 1 ≤ w1 ∧ w1 ≤ 99)) : tz_VE (tp_oo r q l w c) := by
  obtain ⟨hk0, hL, hO, hA, hC, hD⟩ := h
  have b0 := (tp_r0 hk0.1).2
  have hd60 : ∀ g, g < 3 → tz_d r g ≤ 60 := fun g hg => (tp_rga hk0.1 hg).2
  have hK : tp_Ok (tp_oo r q l w c) := by
    refine tp_Ok_oo hk0 ho hl hl1 ?_
    rcases hk with ⟨e, w1, c1, e1, e2, e3, e4⟩ | ⟨e, e2, w1, e3, e4, e5⟩
    · have := hd60 w1 (by omega)
      exact Or.inl ⟨e, w1, c1, e1, by omega, e3, by omega⟩
    · exact Or.inr ⟨e, e2, w1, e3, e5⟩
  refine ⟨hK, ?_⟩
  clear hK
  obtain ⟨n, n2, n1, n3⟩ := tp_xx (tp_r8 hk0.1)
  have n3 : tp_cl (r 8) = n := n3
  rw [n3] at ho
  unfold tp_oo
  rw [n3, n1, nI_1]
  generalize hx : tp_up (tp_up (tp_up (tp_up (tp_up r (80 + 4 * n) q) (81 + 4 * n) l) (82 + 4 * n) w) (83 + 4 * n) c) 8 (nI (n + 1)) = x
  have en : ∀ i, i < 80 → i ≠ 8 → x i = r i := by
    intro i h1 h2; subst hx; simp (disch := omega) only [tp_un]
  have e8 : x 8 = nI (n + 1) := by subst hx; simp (disch := omega) only [tp_us]
  have ek : ∀ j k, j < 4 → k < n → x (80 + j + 4 * k) = r (80 + j + 4 * k) := by
    intro j k h1 h2; subst hx; simp (disch := omega) only [tp_un]
  have ea : x (80 + 4 * n) = q ∧ x (82 + 4 * n) = w ∧ x (83 + 4 * n) = c := by
    subst hx; refine ⟨?_, ?_, ?_⟩ <;> simp (disch := omega) only [tp_us, tp_un]
  have xd : ∀ g, g < 3 → tz_d x g = tz_d r g := fun g hg => by unfold tz_d; rw [en _ (by omega) (by omega)]
  have x0 := en 0 (by omega) (by omega)
  refine ⟨?_, fun k hk2 => ?_, ?_, fun z => ?_, ?_⟩
  · exact tz_VL_m hL hk0.1 (by rw [x0]; exact Nat.le_refl _) (fun g hg => by rw [xd g (by omega)]; exact Nat.le_refl _) (en 2 (by omega) (by omega)) (en 13 (by omega) (by omega)) (fun j hj => ⟨en _ (by omega) (by omega), en _ (by omega) (by omega)⟩)
  · rw [e8, tz_cn (by omega)] at hk2
    rw [x0]
    by_cases e : k = n
    · subst e
      rw [ea.1, ea.2.1, ea.2.2]
      rcases hk with ⟨e, w1, c1, e1, e2, e3, e4⟩ | ⟨e, e2, w1, e3, e4, e5⟩
      · have := hd60 w1 (by omega)
        rw [e1, e3, tz_cn (by omega), tz_cn (by omega), xd w1 (by omega)]
        exact ⟨fun _ => ⟨e2, e4⟩, fun z => absurd e z⟩
      · rw [e3, tz_cn (by omega)]
        exact ⟨fun z => absurd (e.symm.trans z) (by decide), fun _ => by omega⟩
    · have k0 : x (80 + 4 * k) = r (80 + 4 * k) := ek 0 k (by decide) (by omega)
      have k2 : x (82 + 4 * k) = r (82 + 4 * k) := ek 2 k (by decide) (by omega)
      have k3 : x (83 + 4 * k) = r (83 + 4 * k) := ek 3 k (by decide) (by omega)
      rw [k0, k2, k3]
      obtain ⟨a1, a2⟩ := hO k (by omega)
      refine ⟨fun z => ?_, a2⟩
      have := a1 z
      rw [xd _ (by omega)]
      exact this
  · exact tz_VA_c hA hk0.1 (en 2 (by omega) (by omega)) (en 4 (by omega) (by omega)) (en 5 (by omega) (by omega)) (en 6 (by omega) (by omega)) (en 7 (by omega) (by omega)) (en 14 (by omega) (by omega)) (fun j hj => en _ (by omega) (by omega))
  · rw [en 15 (by omega) (by omega)] at z
    have h0 := (hk0.2.2.2.2.2.1 z).1
    have k2 : x 82 = r 82 := ek 2 0 (by decide) (by omega)
    rw [en 14 (by omega) (by omega), k2]
    exact hC z
  · exact tz_VD_m hD (by rw [x0]; exact Nat.le_refl _) (fun g hg => by rw [xd g (by omega)]; exact Nat.le_refl _) (en 11 (by omega) (by omega)) (en 12 (by omega) (by omega))
theorem tz_oo_n {q l w c : Int32} {i : Nat} (hr : tp_rng r) (hi : i < 80) (h8 : i ≠ 8) : tp_oo r q l w c i = r i := by
  have := (tp_r8 hr).2
  unfold tp_oo
  simp (disch := omega) only [tp_un]
theorem tz_se_k (h : tz_VE r) (ho : tp_cl (r 8) = 0) : ∀ (n g : Nat), g + n = tp_cl (r 0) → tz_VE (tp_se r n g) ∧ (∀ i, i < 80 → i ≠ 8 → tp_se r n g i = r i)
  | 0, _, _ => ⟨h, fun _ _ _ => rfl⟩
  | n + 1, g, hg => by
    have b0 := (tp_r0 h.1.1).2
    unfold tp_se
    split
    · rename_i c
      simp only [Bool.and_eq_true, Bool.not_eq_true', decide_eq_false_iff_not] at c
      obtain ⟨c1, c2⟩ := c
      unfold tp_dk at c1
      simp only [Bool.and_eq_true, Bool.not_eq_true', decide_eq_false_iff_not] at c1
      obtain ⟨-, c3, c4, -⟩ := c1
      obtain ⟨d, d2, d1, d3⟩ := tp_xx (tp_rga h.1.1 (show g < 3 by omega))
      have d3 : tz_d r g = d := d3
      rw [d1, tp_k1, tp_le (by omega) (by omega)] at c3
      rw [d1, tp_k60, tp_le (by omega) (by omega)] at c4
      rcases tp_fw_N (r := r) g (tp_cl (r 2)) with z | ⟨l, z1, z2, -⟩
      · exact absurd z c2
      · refine ⟨tz_oo_k h (by omega) z2 z1 (Or.inl ⟨rfl, g, d - 1, rfl, by omega, ?_, by omega⟩), fun i h1 h2 => tz_oo_n h.1.1 h1 h2⟩
        rw [d1, tp_k1, tp_sb (by omega)]
    · exact tz_se_k h ho n (g + 1) (by omega)
theorem tz_ho3_k (h : tz_VE r) : tz_VE (tp_ho3 r) ∧ (∀ i, i < 80 → i ≠ 8 → tp_ho3 r i = r i) := by
  unfold tp_ho3
  split
  · split
    · have : tp_cl (r 8) = 0 := by rw [‹r 8 = 0›]; rfl
      exact tz_se_k h this _ 0 (by omega)
    · exact ⟨h, fun _ _ _ => rfl⟩
  · exact ⟨h, fun _ _ _ => rfl⟩
/-- what holds in a mine after at most T hours -/
def tz_V (T : Nat) (r : tp_R) : Prop := tz_VE r ∧ tz_VG r ∧ ∃ t, t ≤ T ∧ tz_VMb t (fun _ => t) r
theorem tz_V_le {T T2 : Nat} (h : tz_V T r) (hT : T ≤ T2) : tz_V T2 r := ⟨h.1, h.2.1, h.2.2.choose, Nat.le_trans h.2.2.choose_spec.1 hT, h.2.2.choose_spec.2⟩
theorem tz_hour_k {T : Nat} (h : tz_V T r) : tz_V (T + 1) (tp_hour r) := by
  obtain ⟨⟨hk, hL, hO, hA, hC, hD⟩, hG, t, tT, hM⟩ := h
  have b0 := (tp_r0 hk.1).2
  unfold tp_hour
  generalize hx : tp_up r 3 (r 3 + 1) = x
  have xe : ∀ i, i ≠ 3 → x i = r i := fun i a => by rw [← hx, tp_un a]
  have kx : tp_Ok x := by rw [← hx]; exact tp_Ok_up hk (tp_in_any rfl) (by unfold tp_fr; omega)
  have gx : tz_VG x := tz_VG_c hG (xe 0 (by omega)) (fun i i1 i2 => xe i (by omega)) hk.1
  have x1 := xe 1 (by omega)
  have mx : tz_VMb (t + 1) (fun _ => t) x := by
    obtain ⟨m3, m1, m9⟩ := hM
    refine ⟨?_, fun m hm => ?_, ?_⟩
    · rw [← hx, tp_us, m3, nI_1]
    · rw [x1] at hm
      rw [xe _ (by omega), xe (26 + 4 * m) (by omega), xe (27 + 4 * m) (by omega)]
      exact m1 m hm
    · rw [x1, xe 9 (by omega), ← m9]
      exact tz_sum_c _ (fun i _ => xe _ (by omega))
  obtain ⟨a1, a2, a3, a4, a5⟩ := tz_ho1 kx gx mx (tp_cl (x 1)) (Nat.le_refl _)
  have hy : tp_nf tp_mi1 (tp_cl (x 1)) x = tp_ho1 x := rfl
  rw [hy] at a1 a2 a3 a4 a5
  generalize tp_ho1 x = y at a1 a2 a3 a4 a5
  have ye : ∀ i, i < 18 ∨ 48 ≤ i → i ≠ 9 → i ≠ 10 → i ≠ 3 → y i = r i := fun i a b c d => (a5 i a b c).trans (xe i d)
  have y0 := ye 0 (by omega) (by omega) (by omega) (by omega)
  have yd : ∀ g, g < tp_cl (r 0) → tz_d r g ≤ tz_d y g := fun g hg => by
    have := a3 g (by omega)
    unfold tz_d at this ⊢
    rw [xe (18 + 2 * g) (by omega)] at this
    exact this
  have mY : tz_VMb (t + 1) (fun _ => t + 1) y := by
    obtain ⟨m3, m1, m9⟩ := a4
    refine ⟨m3, fun m hm => ?_, m9⟩
    obtain ⟨p, k, d, p1, p5, e25, e26, kb, e27, db⟩ := m1 m hm
    have y1 : y 1 = x 1 := a5 1 (by omega) (by omega) (by omega)
    rw [y1] at hm
    have kb : k ≤ (if m < tp_cl (x 1) then t + 1 else t) := kb
    have db : d ≤ (if m < tp_cl (x 1) then t + 1 else t) := db
    rw [if_pos hm] at kb db
    exact ⟨p, k, d, p1, p5, e25, e26, kb, e27, db⟩
  have vA : tz_VA y := tz_VA_c hA hk.1 (ye 2 (by omega) (by omega) (by omega) (by omega)) (ye 4 (by omega) (by omega) (by omega) (by omega)) (ye 5 (by omega) (by omega) (by omega) (by omega)) (ye 6 (by omega) (by omega) (by omega) (by omega)) (ye 7 (by omega) (by omega) (by omega) (by omega)) (ye 14 (by omega) (by omega) (by omega) (by omega)) (fun l hl => ye _ (by omega) (by omega) (by omega) (by omega))
  have kz := tp_Ok_ho2 a1
  obtain ⟨z1, z2⟩ := tz_ho2 vA a1.1 (tp_cl (y 2)) (Nat.le_refl _)
  have hz : tp_nf tp_bu1 (tp_cl (y 2)) y = tp_ho2 y := rfl
  rw [hz] at z1 z2
  generalize tp_ho2 y = z at kz z1 z2
  have ze : ∀ i, i < 18 ∨ 48 ≤ i → i ≠ 9 → i ≠ 10 → i ≠ 3 → i ≠ 5 → (i < 48 ∨ 80 ≤ i ∨ i % 4 ≠ 1) → z i = r i := fun i a b c d e f => (z2 i e f).trans (ye i a b c d)
  have z0 := ze 0 (by omega) (by omega) (by omega) (by omega) (by omega) (by omega)
  have zd : ∀ g, g < tp_cl (r 0) → tz_d r g ≤ tz_d z g := fun g hg => by
    have := yd g hg
    unfold tz_d at this ⊢
    rw [z2 (18 + 2 * g) (by omega) (by omega)]
    exact this
  have vz : tz_VE z := by
    refine ⟨kz, ?_, ?_, z1, ?_, ?_⟩
    · exact tz_VL_m hL hk.1 (by rw [z0]; exact Nat.le_refl _) zd (ze 2 (by omega) (by omega) (by omega) (by omega) (by omega) (by omega)) (ze 13 (by omega) (by omega) (by omega) (by omega) (by omega) (by omega)) (fun l hl => ⟨ze _ (by omega) (by omega) (by omega) (by omega) (by omega) (by omega), ze _ (by omega) (by omega) (by omega) (by omega) (by omega) (by omega)⟩)
    · exact tz_VO_m hO hk.1 (by rw [z0]; exact Nat.le_refl _) zd (ze 8 (by omega) (by omega) (by omega) (by omega) (by omega) (by omega)) (fun i i1 i2 => ze i (by omega) (by omega) (by omega) (by omega) (by omega) (by omega))
    · unfold tz_VC
      rw [ze 15 (by omega) (by omega) (by omega) (by omega) (by omega) (by omega), ze 14 (by omega) (by omega) (by omega) (by omega) (by omega) (by omega), ze 82 (by omega) (by omega) (by omega) (by omega) (by omega) (by omega)]
      exact hC
    · exact tz_VD_m hD (by rw [z0]; exact Nat.le_refl _) zd (ze 11 (by omega) (by omega) (by omega) (by omega) (by omega) (by omega)) (ze 12 (by omega) (by omega) (by omega) (by omega) (by omega) (by omega))
  have vw := tz_goes_k vz
  have we : ∀ i, i < 48 → i ≠ 4 → i ≠ 6 → i ≠ 8 → i ≠ 11 → i ≠ 12 → i ≠ 13 → i ≠ 14 → i ≠ 15 → tp_goes z i = z i := fun i a b c d e f g h j => tp_goes_n a b c d e f g h j
  obtain ⟨v1, v2⟩ := tz_ho3_k vw
  have fe : ∀ i, (i = 0 ∨ i = 1 ∨ i = 3 ∨ i = 9 ∨ (18 ≤ i ∧ i < 48)) → tp_ho3 (tp_goes z) i = y i := fun i hi => by
    rw [v2 i (by omega) (by omega), we i (by omega) (by omega) (by omega) (by omega) (by omega) (by omega) (by omega) (by omega) (by omega), z2 i (by omega) (by omega)]
  refine ⟨v1, tz_VG_c a2 (fe 0 (by omega)) (fun i i1 i2 => fe i (by omega)) a1.1, t + 1, by omega, ?_⟩
  exact tz_VM_c mY a1.1 (fe 1 (by omega)) (fe 3 (by omega)) (fe 9 (by omega)) (fun m hm => ⟨fe _ (by omega), fe _ (by omega), fe _ (by omega)⟩)
theorem tz_hrs_k {T : Nat} (h : tz_V T r) : ∀ n, tz_V (T + n) (tp_hrs n r)
  | 0 => h
  | n + 1 => by rw [tp_hrs_s]; exact tz_hour_k (tz_hrs_k h n)
end TZM
