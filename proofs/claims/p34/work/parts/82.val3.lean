/-! The lad keeps what holds. -/
/-- what the lad may change -/
def tz_VE (r : tp_R) : Prop := tp_Ok r ∧ tz_VL r ∧ tz_VO r ∧ tz_VA r ∧ tz_VC r ∧ tz_VD r
section TZL
variable {r q : tp_R}
theorem tz_lampat (h : tp_Ok r) (hL : tz_VL r) {l : Nat} (hl : l < tp_cl (r 2)) (h13 : r 13 = -1) : ∃ g c, r (50 + 4 * l) = nI g ∧ g < tp_cl (r 0) ∧ r (51 + 4 * l) = nI c ∧ c < tz_d r g := by
  have b2 := (tp_r2 h.1).2
  refine (hL l hl).2 ?_
  rw [h13]
  exact fun z => (tp_n1m (n := l) (by omega)).mp z
theorem tz_goal (h : tz_VE r) (ho : 0 < tp_cl (r 8)) : tp_cl (tp_gg r) < tp_cl (r 0) ∧ tp_cl (tp_gc r) < tz_d r (tp_cl (tp_gg r)) := by
  obtain ⟨hk, hL, hO, hA, hC, hD⟩ := h
  obtain ⟨-, b1, b2, b3, b4, b5⟩ := tp_Ok_ord hk ho
  have b0 := (tp_r0 hk.1).2
  have lam : r 13 = -1 → tp_cl (r (50 + 4 * tp_cl (r 81))) < tp_cl (r 0) ∧ tp_cl (r (51 + 4 * tp_cl (r 81))) < tz_d r (tp_cl (r (50 + 4 * tp_cl (r 81)))) := by
    intro c2
    obtain ⟨g, c, e1, e2, e3, e4⟩ := tz_lampat hk hL b1 c2
    have d60 := (tp_rga hk.1 (show g < 3 by omega)).2
    have e4 : c < tp_cl (r (18 + 2 * g)) := e4
    rw [e1, e3, tz_cn (by omega), tz_cn (by omega)]
    exact ⟨e2, e4⟩
  have o0 := hO 0 ho
  by_cases c1 : r 80 = 0
  · by_cases c2 : r 13 = -1
    · have eg : tp_gg r = r (50 + 4 * tp_cl (r 81)) := by unfold tp_gg; rw [if_pos c1, if_pos c2]
      have ec : tp_gc r = r (51 + 4 * tp_cl (r 81)) := by unfold tp_gc; rw [if_pos c1, if_pos c2]
      rw [eg, ec]; exact lam c2
    · have eg : tp_gg r = r 82 := by unfold tp_gg; rw [if_pos c1, if_neg c2]
      have ec : tp_gc r = r 83 := by unfold tp_gc; rw [if_pos c1, if_neg c2]
      rw [eg, ec]; exact o0.1 c1
  · by_cases c2 : r 15 = 0
    · have eg : tp_gg r = r 11 := by unfold tp_gg; rw [if_neg c1, if_pos c2]
      have ec : tp_gc r = 0 := by unfold tp_gc; rw [if_neg c1, if_pos c2]
      rw [eg, ec]
      have z0 : tp_cl (0 : Int32) = 0 := rfl
      refine ⟨hD.1, ?_⟩
      rw [z0]
      have := hD.2
      omega
    · have eg : tp_gg r = r (50 + 4 * tp_cl (r 81)) := by unfold tp_gg; rw [if_neg c1, if_neg c2]
      have ec : tp_gc r = r (51 + 4 * tp_cl (r 81)) := by unfold tp_gc; rw [if_neg c1, if_neg c2]
      rw [eg, ec]; exact lam (b4 c1)
theorem tz_VO_od {x : tp_R} {k : Nat} (hr : tp_rng x) (ho : 0 < tp_cl (x 8)) (h : tz_VO x) : tz_VO (tp_od k x) := by
  have b8 := (tp_r8 hr).2
  intro j hj
  rw [(tp_od_cl hr ho).1] at hj
  have e0 : tp_od k x (80 + 4 * j) = if k ≤ j then x (80 + 4 * (j + 1)) else x (80 + 4 * j) := tp_od_k (j := 0) hr ho hj (by decide)
  have e2 : tp_od k x (82 + 4 * j) = if k ≤ j then x (82 + 4 * (j + 1)) else x (82 + 4 * j) := tp_od_k (j := 2) hr ho hj (by decide)
  have e3 : tp_od k x (83 + 4 * j) = if k ≤ j then x (83 + 4 * (j + 1)) else x (83 + 4 * j) := tp_od_k (j := 3) hr ho hj (by decide)
  have eD : ∀ g, g < 3 → tz_d (tp_od k x) g = tz_d x g := fun g hg => by unfold tz_d; rw [tp_od_n (by omega) (by omega)]
  have b0 := (tp_r0 hr).2
  rw [e0, e2, e3, tp_od_n (by decide) (by decide)]
  by_cases c : k ≤ j
  · rw [if_pos c, if_pos c, if_pos c]
    obtain ⟨a1, a2⟩ := h (j + 1) (by omega)
    refine ⟨fun z => ?_, a2⟩
    have := a1 z
    rw [eD _ (by omega)]
    exact this
  · rw [if_neg c, if_neg c, if_neg c]
    obtain ⟨a1, a2⟩ := h j (by omega)
    refine ⟨fun z => ?_, a2⟩
    have := a1 z
    rw [eD _ (by omega)]
    exact this
theorem tz_VA_od {x : tp_R} {k : Nat} (hr : tp_rng x) (h : tz_VA x) : tz_VA (tp_od k x) :=
  tz_VA_c h hr (tp_od_n (by decide) (by decide)) (tp_od_n (by decide) (by decide)) (tp_od_n (by decide) (by decide)) (tp_od_n (by decide) (by decide)) (tp_od_n (by decide) (by decide)) (tp_od_n (by decide) (by decide)) (fun l hl => tp_od_n (by omega) (by omega))
theorem tz_VD_od {x : tp_R} {k : Nat} (h : tz_VD x) (hr : tp_rng x) : tz_VD (tp_od k x) := by
  have b0 := (tp_r0 hr).2
  refine tz_VD_m h ?_ (fun g hg => ?_) (tp_od_n (by decide) (by decide)) (tp_od_n (by decide) (by decide))
  · rw [tp_od_n (by decide) (by decide)]; exact Nat.le_refl _
  · unfold tz_d; rw [tp_od_n (by omega) (by omega)]; exact Nat.le_refl _
theorem tz_VL_od {x : tp_R} {k : Nat} (h : tz_VL x) (hr : tp_rng x) : tz_VL (tp_od k x) := by
  have b0 := (tp_r0 hr).2
  refine tz_VL_m h hr ?_ (fun g hg => ?_) (tp_od_n (by decide) (by decide)) (tp_od_n (by decide) (by decide)) (fun l hl => ⟨tp_od_n (by omega) (by omega), tp_od_n (by omega) (by omega)⟩)
  · rw [tp_od_n (by decide) (by decide)]; exact Nat.le_refl _
  · unfold tz_d; rw [tp_od_n (by omega) (by omega)]; exact Nat.le_refl _
/-- the lad is where he is to be -/
theorem tz_VD_at (h : tz_VE r) (ho : 0 < tp_cl (r 8)) (ha : tp_at r = true) {x : tp_R} (h0 : x 0 = r 0) (hd : ∀ g, g < 3 → x (18 + 2 * g) = r (18 + 2 * g)) (h11 : x 11 = tp_gg r) (h12 : x 12 = r 12) : tz_VD x := by
  obtain ⟨g1, g2⟩ := tz_goal h ho
  have b0 := (tp_r0 h.1.1).2
  have := ((tp_at_iff h.1 ho).mp ha).1
  unfold tz_VD tz_d
  rw [h0, h11, h12, hd _ (by omega), this]
  exact ⟨g1, g2⟩
theorem tz_han (h : tz_VE r) (ho : 0 < tp_cl (r 8)) (ha : tp_at r = true) : tz_VE (tp_han r) := by
  have hK := (tp_Ok_han h.1 ho).1
  have hVE := h
  obtain ⟨hk, hL, hO, hA, hC, hD⟩ := h
  obtain ⟨b0', b1, b2, b3, b4, b5⟩ := tp_Ok_ord hk ho
  obtain ⟨l, l2, l1, l3⟩ := tp_xx b0'
  have l3 : tp_cl (r 81) = l := l3
  rw [l3] at b1
  have b2' := (tp_r2 hk.1).2
  have b0 := (tp_r0 hk.1).2
  have gr := (tp_goal hk ho).1
  have hd60 : ∀ g, g < 3 → tz_d r g ≤ 60 := fun g hg => (tp_rga hk.1 hg).2
  have hl8 : l < 8 := by omega
  refine ⟨hK, ?_⟩
  by_cases c1 : r 80 = 0
  · by_cases c2 : r 13 = -1
    · have hg : tp_han r = tp_up (tp_up (tp_up (tp_up r 11 (tp_gg r)) 13 (r 81)) (50 + 4 * l) (-1)) (51 + 4 * l) (-1) := by
        unfold tp_han tp_gg
        simp only [if_pos c1, if_pos c2, l3]
      rw [hg]
      generalize hx : tp_up (tp_up (tp_up (tp_up r 11 (tp_gg r)) 13 (r 81)) (50 + 4 * l) (-1)) (51 + 4 * l) (-1) = x
      have xe : ∀ i, i ≠ 11 → i ≠ 13 → i ≠ 50 + 4 * l → i ≠ 51 + 4 * l → x i = r i := fun i a b c d => by rw [← hx]; simp (disch := omega) only [tp_un]
      have x11 : x 11 = tp_gg r := by rw [← hx]; simp (disch := omega) only [tp_us, tp_un]
      have x13 : x 13 = nI l := by rw [← hx]; simp (disch := omega) only [tp_us, tp_un]; exact l1
      have xa : x (50 + 4 * l) = -1 ∧ x (51 + 4 * l) = -1 := by rw [← hx]; constructor <;> simp (disch := omega) only [tp_us, tp_un]
      have xd : ∀ g, g < 3 → tz_d x g = tz_d r g := fun g hg => by unfold tz_d; rw [xe _ (by omega) (by omega) (by omega) (by omega)]
      have x0 := xe 0 (by omega) (by omega) (by omega) (by omega)
      have x2 := xe 2 (by omega) (by omega) (by omega) (by omega)
      refine ⟨fun j hj => ?_, ?_, ?_, ?_, ?_⟩
      · rw [x2] at hj
        by_cases e : j = l
        · subst e
          exact ⟨fun _ => xa, fun z => absurd x13 z⟩
        · rw [x13]
          refine ⟨fun z => absurd ((nI_eq (by omega) (by omega)).mp z) (fun w => e w.symm), fun _ => ?_⟩
          obtain ⟨g, c, e1, e2, e3, e4⟩ := tz_lampat hk hL hj c2
          rw [xe _ (by omega) (by omega) (by omega) (by omega), xe (51 + 4 * j) (by omega) (by omega) (by omega) (by omega), x0]
          exact ⟨g, c, e1, e2, e3, by rw [xd g (by omega)]; exact e4⟩
      · exact tz_VO_m hO hk.1 (by rw [x0]; exact Nat.le_refl _) (fun g hg => by rw [xd g (by omega)]; exact Nat.le_refl _) (xe 8 (by omega) (by omega) (by omega) (by omega)) (fun i i1 i2 => xe i (by omega) (by omega) (by omega) (by omega))
      · exact tz_VA_c hA hk.1 x2 (xe 4 (by omega) (by omega) (by omega) (by omega)) (xe 5 (by omega) (by omega) (by omega) (by omega)) (xe 6 (by omega) (by omega) (by omega) (by omega)) (xe 7 (by omega) (by omega) (by omega) (by omega)) (xe 14 (by omega) (by omega) (by omega) (by omega)) (fun j hj => xe _ (by omega) (by omega) (by omega) (by omega))
      · unfold tz_VC
        rw [xe 15 (by omega) (by omega) (by omega) (by omega), xe 14 (by omega) (by omega) (by omega) (by omega), xe 82 (by omega) (by omega) (by omega) (by omega)]
        exact hC
      · exact tz_VD_at hVE ho ha x0 (fun g hg => xe _ (by omega) (by omega) (by omega) (by omega)) x11 (xe 12 (by omega) (by omega) (by omega) (by omega))
    · have hg : tp_han r = tp_od 0 (tp_up (tp_up (tp_up (tp_up r 11 (r 82)) (50 + 4 * l) (r 82)) (51 + 4 * l) (r 83)) 13 (-1)) := by
        unfold tp_han
        rw [if_pos c1, if_neg c2, l3]
      have eg : tp_gg r = r 82 := by unfold tp_gg; rw [if_pos c1, if_neg c2]
      have ec : tp_gc r = r 83 := by unfold tp_gc; rw [if_pos c1, if_neg c2]
      obtain ⟨q1, q2⟩ := tz_goal hVE ho
      have q82 := (tp_row hk.1 (show 0 < 6 by decide)).1
      have q83 := ((tp_roc hk.1 (show 0 < 6 by decide)).resolve_left (b2 c1).2).1
      rw [eg] at q1
      rw [eg, ec] at q2
      have q82 : r 82 = nI (tp_cl (r 82)) := q82
      have q83 : r 83 = nI (tp_cl (r 83)) := q83
      have h13 : r 13 = nI l := by rw [← (hk.2.2.2.2.1 c2).2.2.1]; exact l1
      have h15 := b5 c1
      rw [hg]
      generalize hx : tp_up (tp_up (tp_up (tp_up r 11 (r 82)) (50 + 4 * l) (r 82)) (51 + 4 * l) (r 83)) 13 (-1) = x
      have xe : ∀ i, i ≠ 11 → i ≠ 13 → i ≠ 50 + 4 * l → i ≠ 51 + 4 * l → x i = r i := fun i a b c d => by rw [← hx]; simp (disch := omega) only [tp_un]
      have x11 : x 11 = r 82 := by rw [← hx]; simp (disch := omega) only [tp_us, tp_un]
      have x13 : x 13 = -1 := by rw [← hx, tp_us]
      have xa : x (50 + 4 * l) = r 82 ∧ x (51 + 4 * l) = r 83 := by rw [← hx]; constructor <;> simp (disch := omega) only [tp_us, tp_un]
      have xd : ∀ g, g < 3 → tz_d x g = tz_d r g := fun g hg => by unfold tz_d; rw [xe _ (by omega) (by omega) (by omega) (by omega)]
      have x0 := xe 0 (by omega) (by omega) (by omega) (by omega)
      have x2 := xe 2 (by omega) (by omega) (by omega) (by omega)
      have x8 := xe 8 (by omega) (by omega) (by omega) (by omega)
      have d60 := hd60 _ (show tp_cl (r 82) < 3 by omega)
      have xr : tp_rng x := by
        rw [← hx]
        exact tp_rng_up (tp_rng_up (tp_rng_up (tp_rng_up hk.1 (tp_inN rfl q82 (by omega))) (tp_inM (tp_kd_lg l hl8) q82 (by omega))) (tp_inM (tp_kd_lc l hl8) q83 (by omega))) (tp_inm1 rfl)
      have xo : 0 < tp_cl (x 8) := by rw [x8]; exact ho
      refine ⟨tz_VL_od (fun j hj => ?_) xr, tz_VO_od xr xo ?_, tz_VA_od xr ?_, ?_, tz_VD_od ?_ xr⟩
      · rw [x2] at hj
        rw [x13]
        refine ⟨fun z => absurd z (fun z => (tp_n1m (n := j) (by omega)).mp z), fun _ => ?_⟩
        by_cases e : j = l
        · subst e
          rw [xa.1, xa.2, x0]
          exact ⟨_, _, q82, q1, q83, by rw [xd _ (by omega)]; exact q2⟩
        · rw [xe _ (by omega) (by omega) (by omega) (by omega), xe (51 + 4 * j) (by omega) (by omega) (by omega) (by omega), x0]
          obtain ⟨g, c, e1, e2, e3, e4⟩ := (hL j hj).2 (by rw [h13]; exact fun z => e ((nI_eq (by omega) (by omega)).mp z).symm)
          exact ⟨g, c, e1, e2, e3, by rw [xd g (by omega)]; exact e4⟩
      · exact tz_VO_m hO hk.1 (by rw [x0]; exact Nat.le_refl _) (fun g hg => by rw [xd g (by omega)]; exact Nat.le_refl _) x8 (fun i i1 i2 => xe i (by omega) (by omega) (by omega) (by omega))
      · exact tz_VA_c hA hk.1 x2 (xe 4 (by omega) (by omega) (by omega) (by omega)) (xe 5 (by omega) (by omega) (by omega) (by omega)) (xe 6 (by omega) (by omega) (by omega) (by omega)) (xe 7 (by omega) (by omega) (by omega) (by omega)) (xe 14 (by omega) (by omega) (by omega) (by omega)) (fun j hj => xe _ (by omega) (by omega) (by omega) (by omega))
      · intro z
        rw [tp_od_n (by decide) (by decide), xe 15 (by omega) (by omega) (by omega) (by omega)] at z
        exact absurd h15 z
      · exact tz_VD_at hVE ho ha x0 (fun g hg => xe _ (by omega) (by omega) (by omega) (by omega)) (x11.trans eg.symm) (xe 12 (by omega) (by omega) (by omega) (by omega))
  · by_cases c2 : r 15 = 0
    · obtain ⟨s, s2, s1, s3⟩ := tp_xx (tp_r4 hk.1)
      obtain ⟨w, w2, w1, w3⟩ := tp_xx (tp_row hk.1 (show 0 < 6 by decide))
      have w1 : r 82 = nI w := w1
      have h14 : r 14 = 0 := hk.2.2.2.2.2.2 c2
      have hg : ∃ n, n ≤ s ∧ n ≤ w ∧ tp_han r = tp_tk1 (nI n) r := by
        unfold tp_han tp_take
        rw [if_neg c1, if_pos c2, s1, w1]
        simp (disch := omega) only [tp_le]
        split
        · exact ⟨s, by omega, by omega, rfl⟩
        · exact ⟨w, by omega, by omega, rfl⟩
      obtain ⟨n, n1, n2, hg⟩ := hg
      rw [hg]
      unfold tp_tk1
      generalize hx : tp_up (tp_up (tp_up r 4 (r 4 - nI n)) 14 (nI n)) 15 1 = x
      have xe : ∀ i, i ≠ 4 → i ≠ 14 → i ≠ 15 → x i = r i := fun i a b c => by rw [← hx]; simp (disch := omega) only [tp_un]
      have x4 : x 4 = r 4 - nI n := by rw [← hx]; simp (disch := omega) only [tp_us, tp_un]
      have x14 : x 14 = nI n := by rw [← hx]; simp (disch := omega) only [tp_us, tp_un]
      have xd : ∀ g, g < 3 → tz_d x g = tz_d r g := fun g hg => by unfold tz_d; rw [xe _ (by omega) (by omega) (by omega)]
      have x0 := xe 0 (by omega) (by omega) (by omega)
      refine ⟨?_, ?_, ?_, fun _ => ?_, ?_⟩
      · exact tz_VL_m hL hk.1 (by rw [x0]; exact Nat.le_refl _) (fun g hg => by rw [xd g (by omega)]; exact Nat.le_refl _) (xe 2 (by omega) (by omega) (by omega)) (xe 13 (by omega) (by omega) (by omega)) (fun j hj => ⟨xe _ (by omega) (by omega) (by omega), xe _ (by omega) (by omega) (by omega)⟩)
      · exact tz_VO_m hO hk.1 (by rw [x0]; exact Nat.le_refl _) (fun g hg => by rw [xd g (by omega)]; exact Nat.le_refl _) (xe 8 (by omega) (by omega) (by omega)) (fun i i1 i2 => xe i (by omega) (by omega) (by omega))
      · unfold tz_VA at hA ⊢
        rw [x4, x14, xe 2 (by omega) (by omega) (by omega), xe 5 (by omega) (by omega) (by omega), xe 6 (by omega) (by omega) (by omega), xe 7 (by omega) (by omega) (by omega), ← hA, h14, tz_oil_sum, tz_oil_sum, tz_sum_c _ (fun i hi => xe (49 + 4 * i) (by omega) (by omega) (by omega))]
        grind
      · rw [x14, xe 82 (by omega) (by omega) (by omega), w1, tz_cn (by omega), tz_cn (by omega)]; exact n2
      · exact tz_VD_m hD (by rw [x0]; exact Nat.le_refl _) (fun g hg => by rw [xd g (by omega)]; exact Nat.le_refl _) (xe 11 (by omega) (by omega) (by omega)) (xe 12 (by omega) (by omega) (by omega))
    · have eg : tp_gg r = r (50 + 4 * l) := by unfold tp_gg; rw [if_neg c1, if_neg c2, l3]
      have hg : ∃ z, tp_han r = tp_od 0 (tp_up (tp_up (tp_up (tp_up (tp_up r 11 (tp_gg r)) (49 + 4 * l) (r (49 + 4 * l) + r 14 - z)) 6 (r 6 + z)) 14 0) 15 0) := by
        unfold tp_han
        rw [if_neg c1, if_neg c2, l3, ← eg]
        unfold tp_pour tp_pr1 tp_pr2
        simp (disch := omega) only [tp_us, tp_un, tp_uu]
        split
        · exact ⟨_, rfl⟩
        · exact ⟨_, rfl⟩
      obtain ⟨z, hg⟩ := hg
      rw [hg]
      have hKr : tp_rng (tp_han r) := hK.1
      generalize hx : tp_up (tp_up (tp_up (tp_up (tp_up r 11 (tp_gg r)) (49 + 4 * l) (r (49 + 4 * l) + r 14 - z)) 6 (r 6 + z)) 14 0) 15 0 = x at hg
      have xe : ∀ i, i ≠ 11 → i ≠ 49 + 4 * l → i ≠ 6 → i ≠ 14 → i ≠ 15 → x i = r i := fun i a b c d e => by rw [← hx]; simp (disch := omega) only [tp_un]
      have x11 : x 11 = tp_gg r := by rw [← hx]; simp (disch := omega) only [tp_us, tp_un]
      have xl : x (49 + 4 * l) = r (49 + 4 * l) + (r 14 - z) := by rw [← hx]; simp (disch := omega) only [tp_us, tp_un]; grind
      have x6 : x 6 = r 6 + z := by rw [← hx]; simp (disch := omega) only [tp_us, tp_un]
      have x14 : x 14 = 0 := by rw [← hx]; simp (disch := omega) only [tp_us, tp_un]
      have x15 : x 15 = 0 := by rw [← hx, tp_us]
      have xd : ∀ g, g < 3 → tz_d x g = tz_d r g := fun g hg => by unfold tz_d; rw [xe _ (by omega) (by omega) (by omega) (by omega) (by omega)]
      have x0 := xe 0 (by omega) (by omega) (by omega) (by omega) (by omega)
      have x2 := xe 2 (by omega) (by omega) (by omega) (by omega) (by omega)
      have x8 := xe 8 (by omega) (by omega) (by omega) (by omega) (by omega)
      have xo : 0 < tp_cl (x 8) := by rw [x8]; exact ho
      have xr : tp_rng x := by
        have ol : tp_in (49 + 4 * l) (x (49 + 4 * l)) := by
          have := hKr (49 + 4 * l)
          rw [hg, tp_od_n (by omega) (by omega)] at this
          exact this
        intro i
        by_cases e1 : i = 11
        · rw [e1, x11]; exact tp_inN rfl gr.1 gr.2
        by_cases e2 : i = 49 + 4 * l
        · rw [e2]; exact ol
        by_cases e3 : i = 6
        · rw [e3]; exact tp_in_any rfl
        by_cases e4 : i = 14
        · rw [e4, x14]; exact tp_inN (n := 0) rfl rfl (by decide)
        by_cases e5 : i = 15
        · rw [e5, x15]; exact tp_inN (n := 0) rfl rfl (by decide)
        rw [xe i e1 e2 e3 e4 e5]; exact hk.1 i
      refine ⟨tz_VL_od ?_ xr, tz_VO_od xr xo ?_, tz_VA_od xr ?_, ?_, tz_VD_od ?_ xr⟩
      · exact tz_VL_m hL hk.1 (by rw [x0]; exact Nat.le_refl _) (fun g hg => by rw [xd g (by omega)]; exact Nat.le_refl _) x2 (xe 13 (by omega) (by omega) (by omega) (by omega) (by omega)) (fun j hj => ⟨xe _ (by omega) (by omega) (by omega) (by omega) (by omega), xe _ (by omega) (by omega) (by omega) (by omega) (by omega)⟩)
      · exact tz_VO_m hO hk.1 (by rw [x0]; exact Nat.le_refl _) (fun g hg => by rw [xd g (by omega)]; exact Nat.le_refl _) x8 (fun i i1 i2 => xe i (by omega) (by omega) (by omega) (by omega) (by omega))
      · unfold tz_VA at hA ⊢
        rw [x14, x6, x2, xe 4 (by omega) (by omega) (by omega) (by omega) (by omega), xe 5 (by omega) (by omega) (by omega) (by omega) (by omega), xe 7 (by omega) (by omega) (by omega) (by omega) (by omega), ← hA, tz_oil_sum, tz_oil_sum, tz_sum_p (f := fun l => r (49 + 4 * l)) (g := fun l => x (49 + 4 * l)) (l := l) _ b1 xl (fun i _ hne => xe _ (by omega) (by omega) (by omega) (by omega) (by omega))]
        grind
      · intro w
        rw [tp_od_n (by decide) (by decide)] at w
        exact absurd x15 w
      · exact tz_VD_at hVE ho ha x0 (fun g hg => xe _ (by omega) (by omega) (by omega) (by omega) (by omega)) x11 (xe 12 (by omega) (by omega) (by omega) (by omega) (by omega))
end TZL
