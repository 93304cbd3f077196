/-! Actions keep what holds. -/
section TZN
variable {r q : tp_R}
theorem tz_V_c {T : Nat} (h : tz_V T r) (hk : tp_Ok q) (he : ∀ i, i ≠ 10 → i ≠ 16 → i ≠ 17 → (i < 24 ∨ 48 ≤ i ∨ i % 4 ≠ 0) → q i = r i) : tz_V T q := by
  obtain ⟨⟨hk0, hL, hO, hA, hC, hD⟩, hG, t, tT, hM⟩ := h
  have b0 := (tp_r0 hk0.1).2
  have x0 := he 0 (by omega) (by omega) (by omega) (by omega)
  have xd : ∀ g, g < 3 → tz_d q g = tz_d r g := fun g hg => by unfold tz_d; rw [he _ (by omega) (by omega) (by omega) (by omega)]
  refine ⟨⟨hk, ?_, ?_, ?_, ?_, ?_⟩, tz_VG_c hG x0 (fun i i1 i2 => he i (by omega) (by omega) (by omega) (by omega)) hk0.1, t, tT, ?_⟩
  · exact tz_VL_m hL hk0.1 (by rw [x0]; exact Nat.le_refl _) (fun g hg => by rw [xd g (by omega)]; exact Nat.le_refl _) (he 2 (by omega) (by omega) (by omega) (by omega)) (he 13 (by omega) (by omega) (by omega) (by omega)) (fun l hl => ⟨he _ (by omega) (by omega) (by omega) (by omega), he _ (by omega) (by omega) (by omega) (by omega)⟩)
  · exact tz_VO_m hO hk0.1 (by rw [x0]; exact Nat.le_refl _) (fun g hg => by rw [xd g (by omega)]; exact Nat.le_refl _) (he 8 (by omega) (by omega) (by omega) (by omega)) (fun i i1 i2 => he i (by omega) (by omega) (by omega) (by omega))
  · exact tz_VA_c hA hk0.1 (he 2 (by omega) (by omega) (by omega) (by omega)) (he 4 (by omega) (by omega) (by omega) (by omega)) (he 5 (by omega) (by omega) (by omega) (by omega)) (he 6 (by omega) (by omega) (by omega) (by omega)) (he 7 (by omega) (by omega) (by omega) (by omega)) (he 14 (by omega) (by omega) (by omega) (by omega)) (fun l hl => he _ (by omega) (by omega) (by omega) (by omega))
  · unfold tz_VC
    rw [he 15 (by omega) (by omega) (by omega) (by omega), he 14 (by omega) (by omega) (by omega) (by omega), he 82 (by omega) (by omega) (by omega) (by omega)]
    exact hC
  · exact tz_VD_m hD (by rw [x0]; exact Nat.le_refl _) (fun g hg => by rw [xd g (by omega)]; exact Nat.le_refl _) (he 11 (by omega) (by omega) (by omega) (by omega)) (he 12 (by omega) (by omega) (by omega) (by omega))
  · exact tz_VM_c hM hk0.1 (he 1 (by omega) (by omega) (by omega) (by omega)) (he 3 (by omega) (by omega) (by omega) (by omega)) (he 9 (by omega) (by omega) (by omega) (by omega)) (fun m hm => ⟨he _ (by omega) (by omega) (by omega) (by omega), he _ (by omega) (by omega) (by omega) (by omega), he _ (by omega) (by omega) (by omega) (by omega)⟩)
theorem tz_VE_n {T : Nat} (hE : tz_VE q) (h : tz_V T r) (he : ∀ i, i < 10 ∨ (18 ≤ i ∧ i < 48) → i ≠ 8 → i ≠ 4 → i ≠ 7 → q i = r i) : tz_V T q := by
  obtain ⟨⟨hk0, -⟩, hG, t, tT, hM⟩ := h
  refine ⟨hE, tz_VG_c hG (he 0 (by omega) (by omega) (by omega) (by omega)) (fun i i1 i2 => he i (by omega) (by omega) (by omega) (by omega)) hk0.1, t, tT, ?_⟩
  exact tz_VM_c hM hk0.1 (he 1 (by omega) (by omega) (by omega) (by omega)) (he 3 (by omega) (by omega) (by omega) (by omega)) (he 9 (by omega) (by omega) (by omega) (by omega)) (fun m hm => ⟨he _ (by omega) (by omega) (by omega) (by omega), he _ (by omega) (by omega) (by omega) (by omega), he _ (by omega) (by omega) (by omega) (by omega)⟩)
theorem tz_ga_k {T : Nat} {a : Int32} (h : tz_V T r) (h1 : tp_iw a 1 60 = true) (h2 : (!decide (3 ≤ r 0)) = true) : tz_V T (tp_ga a r) := by
  have hK := tp_Ok_ga h.1.1 h1 h2
  obtain ⟨⟨hk0, hL, hO, hA, hC, hD⟩, hG, t, tT, hM⟩ := h
  obtain ⟨k, k1, k2, rfl⟩ := tp_iw_N (L := 1) (B := 60) rfl rfl (by decide) (by decide) h1
  obtain ⟨n, n2, n1, n3⟩ := tp_xx (tp_r0 hk0.1)
  have n3 : tp_cl (r 0) = n := n3
  have hn := (tp_ge_N n1 (by omega) tp_k3 (by decide)).mp h2
  unfold tp_ga at hK ⊢
  rw [n3, n1, nI_1] at hK ⊢
  generalize hx : tp_up (tp_up (tp_up r (18 + 2 * n) (nI k)) (19 + 2 * n) 0) 0 (nI (n + 1)) = x at hK ⊢
  have xe : ∀ i, i ≠ 0 → i ≠ 18 + 2 * n → i ≠ 19 + 2 * n → x i = r i := fun i a b c => by rw [← hx]; simp (disch := omega) only [tp_un]
  have x0 : x 0 = nI (n + 1) := by rw [← hx, tp_us]
  have xa : x (18 + 2 * n) = nI k := by rw [← hx]; simp (disch := omega) only [tp_us, tp_un]
  have xb : x (19 + 2 * n) = 0 := by rw [← hx]; simp (disch := omega) only [tp_us, tp_un]
  have c0 : tp_cl (x 0) = n + 1 := by rw [x0]; exact tz_cn (by omega)
  have xd : ∀ g, g < tp_cl (r 0) → tz_d r g ≤ tz_d x g := fun g hg => by unfold tz_d; rw [xe _ (by omega) (by omega) (by omega)]; exact Nat.le_refl _
  have hle : tp_cl (r 0) ≤ tp_cl (x 0) := by omega
  refine ⟨⟨hK, ?_, ?_, ?_, ?_, ?_⟩, ⟨by omega, fun g hg => ?_⟩, t, tT, ?_⟩
  · exact tz_VL_m hL hk0.1 hle xd (xe 2 (by omega) (by omega) (by omega)) (xe 13 (by omega) (by omega) (by omega)) (fun l hl => ⟨xe _ (by omega) (by omega) (by omega), xe _ (by omega) (by omega) (by omega)⟩)
  · exact tz_VO_m hO hk0.1 hle xd (xe 8 (by omega) (by omega) (by omega)) (fun i i1 i2 => xe i (by omega) (by omega) (by omega))
  · exact tz_VA_c hA hk0.1 (xe 2 (by omega) (by omega) (by omega)) (xe 4 (by omega) (by omega) (by omega)) (xe 5 (by omega) (by omega) (by omega)) (xe 6 (by omega) (by omega) (by omega)) (xe 7 (by omega) (by omega) (by omega)) (xe 14 (by omega) (by omega) (by omega)) (fun l hl => xe _ (by omega) (by omega) (by omega))
  · unfold tz_VC
    rw [xe 15 (by omega) (by omega) (by omega), xe 14 (by omega) (by omega) (by omega), xe 82 (by omega) (by omega) (by omega)]
    exact hC
  · exact tz_VD_m hD hle xd (xe 11 (by omega) (by omega) (by omega)) (xe 12 (by omega) (by omega) (by omega))
  · by_cases e : g = n
    · subst e
      have ed : tz_d x g = k := by unfold tz_d; rw [xa]; exact tz_cn (by omega)
      rw [ed]
      have := tz_h_b g k
      exact ⟨by omega, 0, by omega, xb, Or.inr (by omega)⟩
    · have := hG.2 g (by omega)
      unfold tz_d
      rw [xe (18 + 2 * g) (by omega) (by omega) (by omega), xe (19 + 2 * g) (by omega) (by omega) (by omega)]
      exact this
  · exact tz_VM_c hM hk0.1 (xe 1 (by omega) (by omega) (by omega)) (xe 3 (by omega) (by omega) (by omega)) (xe 9 (by omega) (by omega) (by omega)) (fun m hm => ⟨xe _ (by omega) (by omega) (by omega), xe _ (by omega) (by omega) (by omega), xe _ (by omega) (by omega) (by omega)⟩)
theorem tz_mi_k {T : Nat} {a b : Int32} (h : tz_V T r) (h1 : tp_ig r a = true) (h2 : tp_iw b 1 5 = true) (h3 : (!decide (6 ≤ r 1)) = true) : tz_V T (tp_mi a b r) := by
  have hK : tp_Ok (tp_mi a b r) := tp_Ok_mi h.1.1 h1 h3
  obtain ⟨⟨hk0, hL, hO, hA, hC, hD⟩, hG, t, tT, hM⟩ := h
  obtain ⟨k, k1, k2, rfl⟩ := tp_iw_N (L := 1) (B := 5) rfl rfl (by decide) (by decide) h2
  obtain ⟨n, n2, n1, n3⟩ := tp_xx (tp_r1 hk0.1)
  have n3 : tp_cl (r 1) = n := n3
  have hn := (tp_ge_N n1 (by omega) tp_k6 (by decide)).mp h3
  have b0 := (tp_r0 hk0.1).2
  unfold tp_mi at hK ⊢
  rw [n3, n1, nI_1] at hK ⊢
  generalize hx : tp_up (tp_up (tp_up (tp_up (tp_up r (24 + 4 * n) a) (25 + 4 * n) (nI k)) (26 + 4 * n) 0) (27 + 4 * n) 0) 1 (nI (n + 1)) = x at hK ⊢
  have xe : ∀ i, i ≠ 1 → (i < 24 + 4 * n ∨ 28 + 4 * n ≤ i) → x i = r i := fun i a b => by rw [← hx]; simp (disch := omega) only [tp_un]
  have x1 : x 1 = nI (n + 1) := by rw [← hx, tp_us]
  have xa : x (25 + 4 * n) = nI k := by rw [← hx]; simp (disch := omega) only [tp_us, tp_un]
  have xb : x (26 + 4 * n) = 0 := by rw [← hx]; simp (disch := omega) only [tp_us, tp_un]
  have xc : x (27 + 4 * n) = 0 := by rw [← hx]; simp (disch := omega) only [tp_us, tp_un]
  have c1 : tp_cl (x 1) = n + 1 := by rw [x1]; exact tz_cn (by omega)
  have x0 := xe 0 (by omega) (by omega)
  have xd : ∀ g, g < 3 → tz_d x g = tz_d r g := fun g hg => by unfold tz_d; rw [xe _ (by omega) (by omega)]
  refine ⟨⟨hK, ?_, ?_, ?_, ?_, ?_⟩, tz_VG_c hG x0 (fun i i1 i2 => xe i (by omega) (by omega)) hk0.1, t, tT, ?_⟩
  · exact tz_VL_m hL hk0.1 (by rw [x0]; exact Nat.le_refl _) (fun g hg => by rw [xd g (by omega)]; exact Nat.le_refl _) (xe 2 (by omega) (by omega)) (xe 13 (by omega) (by omega)) (fun l hl => ⟨xe _ (by omega) (by omega), xe _ (by omega) (by omega)⟩)
  · exact tz_VO_m hO hk0.1 (by rw [x0]; exact Nat.le_refl _) (fun g hg => by rw [xd g (by omega)]; exact Nat.le_refl _) (xe 8 (by omega) (by omega)) (fun i i1 i2 => xe i (by omega) (by omega))
  · exact tz_VA_c hA hk0.1 (xe 2 (by omega) (by omega)) (xe 4 (by omega) (by omega)) (xe 5 (by omega) (by omega)) (xe 6 (by omega) (by omega)) (xe 7 (by omega) (by omega)) (xe 14 (by omega) (by omega)) (fun l hl => xe _ (by omega) (by omega))
  · unfold tz_VC
    rw [xe 15 (by omega) (by omega), xe 14 (by omega) (by omega), xe 82 (by omega) (by omega)]
    exact hC
  · exact tz_VD_m hD (by rw [x0]; exact Nat.le_refl _) (fun g hg => by rw [xd g (by omega)]; exact Nat.le_refl _) (xe 11 (by omega) (by omega)) (xe 12 (by omega) (by omega))
  · obtain ⟨m3, m1, m9⟩ := hM
    refine ⟨by rw [xe 3 (by omega) (by omega)]; exact m3, fun m hm => ?_, ?_⟩
    · by_cases e : m = n
      · subst e
        exact ⟨k, 0, 0, k1, k2, xa, xb, Nat.zero_le _, xc, Nat.zero_le _⟩
      · rw [xe (25 + 4 * m) (by omega) (by omega), xe (26 + 4 * m) (by omega) (by omega), xe (27 + 4 * m) (by omega) (by omega)]
        exact m1 m (by omega)
    · rw [c1, xe 9 (by omega) (by omega), ← m9, n3, tz_sum, xc, Int32.add_zero]
      exact tz_sum_c _ (fun i hi => xe _ (by omega) (by omega))
theorem tz_la_k {T : Nat} {a b c d : Int32} (h : tz_V T r) (h1 : tp_ic r a b = true) (h2 : tp_iw c 1 9 = true) (h3 : tp_iw d 0 99 = true) (h4 : (!decide (8 ≤ r 2)) = true) : tz_V T (tp_la a b c d r) := by
  have hK : tp_Ok (tp_la a b c d r) := tp_Ok_la h.1.1 h1 h2 h3 h4
  obtain ⟨⟨hk0, hL, hO, hA, hC, hD⟩, hG, t, tT, hM⟩ := h
  obtain ⟨ga, gb, g1, rfl, g3, rfl⟩ := (tp_ic_N hk0.1).mp h1
  obtain ⟨n, n2, n1, n3⟩ := tp_xx (tp_r2 hk0.1)
  have n3 : tp_cl (r 2) = n := n3
  have hn := (tp_ge_N n1 (by omega) tp_k8 (by decide)).mp h4
  have b0 := (tp_r0 hk0.1).2
  unfold tp_la at hK ⊢
  rw [n3, n1, nI_1] at hK ⊢
  generalize hx : tp_up (tp_up (tp_up (tp_up (tp_up (tp_up r (48 + 4 * n) c) (49 + 4 * n) d) (50 + 4 * n) (nI ga)) (51 + 4 * n) (nI gb)) 7 (r 7 + d)) 2 (nI (n + 1)) = x at hK ⊢
  have xe : ∀ i, i ≠ 2 → i ≠ 7 → (i < 48 + 4 * n ∨ 52 + 4 * n ≤ i) → x i = r i := fun i a b c => by rw [← hx]; simp (disch := omega) only [tp_un]
  have x2 : x 2 = nI (n + 1) := by rw [← hx, tp_us]
  have x7 : x 7 = r 7 + d := by rw [← hx]; simp (disch := omega) only [tp_us, tp_un]
  have xo : x (49 + 4 * n) = d := by rw [← hx]; simp (disch := omega) only [tp_us, tp_un]
  have xa : x (50 + 4 * n) = nI ga := by rw [← hx]; simp (disch := omega) only [tp_us, tp_un]
  have xb : x (51 + 4 * n) = nI gb := by rw [← hx]; simp (disch := omega) only [tp_us, tp_un]
  have c2 : tp_cl (x 2) = n + 1 := by rw [x2]; exact tz_cn (by omega)
  have x0 := xe 0 (by omega) (by omega) (by omega)
  have x13 := xe 13 (by omega) (by omega) (by omega)
  have xd : ∀ g, g < 3 → tz_d x g = tz_d r g := fun g hg => by unfold tz_d; rw [xe _ (by omega) (by omega) (by omega)]
  refine ⟨⟨hK, fun l hl => ?_, ?_, ?_, ?_, ?_⟩, tz_VG_c hG x0 (fun i i1 i2 => xe i (by omega) (by omega) (by omega)) hk0.1, t, tT, ?_⟩
  · rw [c2] at hl
    rw [x13, x0]
    by_cases e : l = n
    · subst e
      refine ⟨fun z => ?_, fun _ => ⟨ga, gb, xa, g1, xb, by rw [xd ga (by omega)]; exact g3⟩⟩
      exfalso
      obtain ⟨o1, o2, o3, -⟩ := hk0.2.2.2.2.1 (by rw [z]; exact fun w => (tp_m1n (by omega)).mp w)
      have o3 : r 81 = r 13 := o3
      have := (hk0.2.2.1 0 o1).1
      have this : tp_cl (r 81) < tp_cl (r 2) := this
      rw [o3, z, tz_cn (by omega), n3] at this
      omega
    · rw [xe (50 + 4 * l) (by omega) (by omega) (by omega), xe (51 + 4 * l) (by omega) (by omega) (by omega)]
      obtain ⟨a1, a2⟩ := hL l (by omega)
      refine ⟨a1, fun z => ?_⟩
      obtain ⟨g, c, e1, e2, e3, e4⟩ := a2 z
      exact ⟨g, c, e1, e2, e3, by rw [xd g (by omega)]; exact e4⟩
  · exact tz_VO_m hO hk0.1 (by rw [x0]; exact Nat.le_refl _) (fun g hg => by rw [xd g (by omega)]; exact Nat.le_refl _) (xe 8 (by omega) (by omega) (by omega)) (fun i i1 i2 => xe i (by omega) (by omega) (by omega))
  · unfold tz_VA at hA ⊢
    rw [c2, x7, xe 4 (by omega) (by omega) (by omega), xe 5 (by omega) (by omega) (by omega), xe 6 (by omega) (by omega) (by omega), xe 14 (by omega) (by omega) (by omega), ← hA, tz_oil_sum, tz_oil_sum, n3, tz_sum, xo, tz_sum_c (f := fun l => r (49 + 4 * l)) (g := fun l => x (49 + 4 * l)) _ (fun i hi => xe _ (by omega) (by omega) (by omega))]
    grind
  · unfold tz_VC
    rw [xe 15 (by omega) (by omega) (by omega), xe 14 (by omega) (by omega) (by omega), xe 82 (by omega) (by omega) (by omega)]
    exact hC
  · exact tz_VD_m hD (by rw [x0]; exact Nat.le_refl _) (fun g hg => by rw [xd g (by omega)]; exact Nat.le_refl _) (xe 11 (by omega) (by omega) (by omega)) (xe 12 (by omega) (by omega) (by omega))
  · exact tz_VM_c hM hk0.1 (xe 1 (by omega) (by omega) (by omega)) (xe 3 (by omega) (by omega) (by omega)) (xe 9 (by omega) (by omega) (by omega)) (fun m hm => ⟨xe _ (by omega) (by omega) (by omega), xe _ (by omega) (by omega) (by omega), xe _ (by omega) (by omega) (by omega)⟩)
theorem tz_so_k {T : Nat} {a : Int32} (h : tz_V T r) (hK : tp_Ok (tp_so a r)) : tz_V T (tp_so a r) := by
  have hV := h
  obtain ⟨⟨hk0, hL, hO, hA, hC, hD⟩, -⟩ := h
  have b0 := (tp_r0 hk0.1).2
  unfold tp_so at hK ⊢
  generalize hx : tp_up (tp_up r 4 (r 4 + a)) 7 (r 7 + a) = x at hK ⊢
  have xe : ∀ i, i ≠ 4 → i ≠ 7 → x i = r i := fun i a b => by rw [← hx, tp_un b, tp_un a]
  have x4 : x 4 = r 4 + a := by rw [← hx, tp_un (by decide), tp_us]
  have x7 : x 7 = r 7 + a := by rw [← hx, tp_us]
  have x0 := xe 0 (by omega) (by omega)
  have xd : ∀ g, g < 3 → tz_d x g = tz_d r g := fun g hg => by unfold tz_d; rw [xe _ (by omega) (by omega)]
  refine tz_VE_n ⟨hK, ?_, ?_, ?_, ?_, ?_⟩ hV (fun i i1 i2 i3 i4 => xe i i3 i4)
  · exact tz_VL_m hL hk0.1 (by rw [x0]; exact Nat.le_refl _) (fun g hg => by rw [xd g (by omega)]; exact Nat.le_refl _) (xe 2 (by omega) (by omega)) (xe 13 (by omega) (by omega)) (fun l hl => ⟨xe _ (by omega) (by omega), xe _ (by omega) (by omega)⟩)
  · exact tz_VO_m hO hk0.1 (by rw [x0]; exact Nat.le_refl _) (fun g hg => by rw [xd g (by omega)]; exact Nat.le_refl _) (xe 8 (by omega) (by omega)) (fun i i1 i2 => xe i (by omega) (by omega))
  · unfold tz_VA at hA ⊢
    rw [x4, x7, xe 2 (by omega) (by omega), xe 5 (by omega) (by omega), xe 6 (by omega) (by omega), xe 14 (by omega) (by omega), ← hA, tz_oil_sum, tz_oil_sum, tz_sum_c _ (fun i hi => xe (49 + 4 * i) (by omega) (by omega))]
    grind
  · unfold tz_VC
    rw [xe 15 (by omega) (by omega), xe 14 (by omega) (by omega), xe 82 (by omega) (by omega)]
    exact hC
  · exact tz_VD_m hD (by rw [x0]; exact Nat.le_refl _) (fun g hg => by rw [xd g (by omega)]; exact Nat.le_refl _) (xe 11 (by omega) (by omega)) (xe 12 (by omega) (by omega))
theorem tz_dr_k {T : Nat} {a : Int32} (h : tz_V T r) (h1 : tp_io r a = true) (hK : tp_Ok (tp_dr a r)) : tz_V T (tp_dr a r) := by
  have hV := h
  obtain ⟨⟨hk0, hL, hO, hA, hC, hD⟩, -⟩ := h
  obtain ⟨k, k1, rfl⟩ := (tp_io_N hk0.1).mp h1
  have b8 := (tp_r8 hk0.1).2
  have b0 := (tp_r0 hk0.1).2
  have ho : 0 < tp_cl (r 8) := by omega
  unfold tp_dr at hK ⊢
  rw [tz_cn (by omega)] at hK ⊢
  have o1 := tz_VL_od (k := k) hL hk0.1
  have o2 := tz_VO_od (k := k) hk0.1 ho hO
  have o3 := tz_VA_od (k := k) hk0.1 hA
  have o4 := tz_VD_od (k := k) hD hk0.1
  have o0 : ∀ i, i < 80 → i ≠ 8 → tp_od k r i = r i := fun i a b => tp_od_n a b
  have o82 : k ≠ 0 → tp_od k r 82 = r 82 := fun hk => by
    have := tp_od_k (k := k) (q := 0) (j := 2) hk0.1 ho (by omega) (by decide)
    rw [if_neg (by omega)] at this
    exact this
  have or : tp_rng (tp_od k r) := by
    intro i
    by_cases e : i = 15
    · rw [e, o0 15 (by decide) (by decide)]; exact hk0.1 15
    · have := hK.1 i
      rw [tp_un e] at this
      exact this
  generalize tp_od k r = y at hK o1 o2 o3 o4 o0 o82 or ⊢
  generalize hx : tp_up y 15 (if nI k = 0 then 0 else r 15) = x at hK ⊢
  have xe : ∀ i, i ≠ 15 → x i = y i := fun i a => by rw [← hx, tp_un a]
  have x15 : x 15 = if nI k = 0 then 0 else r 15 := by rw [← hx, tp_us]
  have x0 := xe 0 (by omega)
  have y0 := o0 0 (by omega) (by omega)
  have xd : ∀ g, g < 3 → tz_d x g = tz_d y g := fun g hg => by unfold tz_d; rw [xe _ (by omega)]
  refine tz_VE_n ⟨hK, ?_, ?_, ?_, ?_, ?_⟩ hV (fun i i1 i2 i3 i4 => (xe i (by omega)).trans (o0 i (by omega) i2))
  · exact tz_VL_m o1 or (by rw [x0]; exact Nat.le_refl _) (fun g hg => by rw [xd g (by rw [y0] at hg; omega)]; exact Nat.le_refl _) (xe 2 (by omega)) (xe 13 (by omega)) (fun l hl => ⟨xe _ (by omega), xe _ (by omega)⟩)
  · exact tz_VO_m o2 or (by rw [x0]; exact Nat.le_refl _) (fun g hg => by rw [xd g (by rw [y0] at hg; omega)]; exact Nat.le_refl _) (xe 8 (by omega)) (fun i i1 i2 => xe i (by omega))
  · exact tz_VA_c o3 or (xe 2 (by omega)) (xe 4 (by omega)) (xe 5 (by omega)) (xe 6 (by omega)) (xe 7 (by omega)) (xe 14 (by omega)) (fun l hl => xe _ (by omega))
  · intro z
    rw [x15] at z
    by_cases c : nI k = 0
    · rw [if_pos c] at z; exact absurd rfl z
    · rw [if_neg c] at z
      rw [xe 14 (by omega), xe 82 (by omega), o0 14 (by omega) (by omega), o82 (fun e => c (by rw [e]; rfl))]
      exact hC z
  · exact tz_VD_m o4 (by rw [x0]; exact Nat.le_refl _) (fun g hg => by rw [xd g (by rw [y0] at hg; omega)]; exact Nat.le_refl _) (xe 11 (by omega)) (xe 12 (by omega))
/-- how many hours an action lasts -/
def tz_hq (q : Nat) (a : Int32) : Nat := if q = 10 then tp_cl a else 0
theorem tz_pf_k {T q : Nat} {a b c d : Int32} (h : tz_V T r) (h1 : 1 ≤ q) (h2 : q ≤ 10) (hq : tp_rf q a b c d r = 0) : tz_V (T + tz_hq q a) (tp_pf q a b c d r) := by
  have hK := tp_Ok_pf h.1.1 hq
  have b0 := (tp_r0 h.1.1.1).2
  have b2 := (tp_r2 h.1.1.1).2
  have : q = 1 ∨ q = 2 ∨ q = 3 ∨ q = 4 ∨ q = 5 ∨ q = 6 ∨ q = 7 ∨ q = 8 ∨ q = 9 ∨ q = 10 := by omega
  rcases this with rfl | rfl | rfl | rfl | rfl | rfl | rfl | rfl | rfl | rfl
  · obtain ⟨-, q1, q2⟩ := tp_ro0.mp (show tp_ro true (tp_iw a 1 60) (!decide (3 ≤ r 0)) = 0 from hq)
    exact tz_ga_k h q1 q2
  · obtain ⟨q0, q1, q2⟩ := tp_ro0.mp (show tp_ro (tp_ig r a) (tp_iw b 1 5) (!decide (6 ≤ r 1)) = 0 from hq)
    exact tz_mi_k h q0 q1 q2
  · obtain ⟨q0, -, -⟩ := tp_ro0.mp (show tp_ro (tp_im r a && tp_ig r b) true true = 0 from hq)
    rw [Bool.and_eq_true] at q0
    obtain ⟨m, m1, rfl⟩ := (tp_im_N h.1.1.1).mp q0.1
    have b1 := (tp_r1 h.1.1.1).2
    refine tz_V_c h hK (fun i i1 i2 i3 i4 => ?_)
    show tp_up r (24 + 4 * tp_cl (nI m)) b i = r i
    rw [tz_cn (by omega), tp_un (by omega)]
  · obtain ⟨q0, q1, q2⟩ := tp_ro0.mp (show tp_ro (tp_ic r a b) (tp_iw c 1 9 && tp_iw d 0 99) (!decide (8 ≤ r 2)) = 0 from hq)
    rw [Bool.and_eq_true] at q1
    exact tz_la_k h q0 q1.1 q1.2 q2
  · exact tz_so_k h hK
  · obtain ⟨q0, -, q2⟩ := tp_ro0.mp (show tp_ro (tp_il r a && tp_ic r b c) true (!decide (6 ≤ r 8)) = 0 from hq)
    rw [Bool.and_eq_true] at q0
    obtain ⟨l, l1, rfl⟩ := (tp_il_N h.1.1.1).mp q0.1
    obtain ⟨g, k, g1, rfl, g3, rfl⟩ := (tp_ic_N h.1.1.1).mp q0.2
    have h8 := (tp_ge_N (tp_r8 h.1.1.1).1 (by have := (tp_r8 h.1.1.1).2; omega) tp_k6 (by decide)).mp q2
    exact tz_VE_n (tz_oo_k h.1 h8 rfl l1 (Or.inl ⟨rfl, g, k, rfl, g1, rfl, g3⟩)) h (fun i i1 i2 i3 i4 => tz_oo_n h.1.1.1 (by omega) i2)
  · obtain ⟨q0, q1, q2⟩ := tp_ro0.mp (show tp_ro (tp_il r a) (tp_iw b 1 99) (!decide (6 ≤ r 8)) = 0 from hq)
    obtain ⟨l, l1, rfl⟩ := (tp_il_N h.1.1.1).mp q0
    obtain ⟨n, n1, n2, rfl⟩ := tp_iw_N (L := 1) (B := 99) rfl rfl (by decide) (by decide) q1
    have h8 := (tp_ge_N (tp_r8 h.1.1.1).1 (by have := (tp_r8 h.1.1.1).2; omega) tp_k6 (by decide)).mp q2
    exact tz_VE_n (tz_oo_k h.1 h8 rfl l1 (Or.inr ⟨rfl, rfl, n, rfl, n1, n2⟩)) h (fun i i1 i2 i3 i4 => tz_oo_n h.1.1.1 (by omega) i2)
  · obtain ⟨q0, -, q2⟩ := tp_ro0.mp (show tp_ro (tp_io r a) true (!decide (a = 0) || tp_fh r) = 0 from hq)
    exact tz_dr_k h q0 hK
  · refine tz_V_c h hK (fun i i1 i2 i3 i4 => ?_)
    show tp_sg a b r i = r i
    unfold tp_sg
    split
    · exact tp_un i2
    · exact tp_un i3
  · exact tz_hrs_k h _
theorem tz_V0 {T k : Nat} (h1 : 1 ≤ k) (h2 : k ≤ 60) : tz_V T (tp_ga (nI k) tp_clr) := by
  have hK : tp_Ok (tp_ga (nI k) tp_clr) := tp_Ok_ga tp_Ok_clr (by unfold tp_iw; rw [tp_k1, show (60 : Int32) = nI 60 from rfl]; simp only [tp_lt (show k < 2147483648 by omega) (show 1 < 2147483648 by decide), tp_lt (show 60 < 2147483648 by decide) (show k < 2147483648 by omega), Bool.and_eq_true, Bool.not_eq_true', decide_eq_false_iff_not]; omega) (by decide)
  have e : tp_ga (nI k) tp_clr = tp_up (tp_up (tp_up tp_clr 18 (nI k)) 19 0) 0 1 := rfl
  rw [e] at hK ⊢
  generalize hx : tp_up (tp_up (tp_up tp_clr 18 (nI k)) 19 0) 0 1 = x at hK ⊢
  have x0 : x 0 = 1 := by rw [← hx]; rfl
  have x18 : x 18 = nI k := by rw [← hx]; rfl
  have x19 : x 19 = nI 0 := by rw [← hx]; rfl
  have xe : ∀ i, i ≠ 0 → i ≠ 18 → i ≠ 19 → x i = tp_clr i := fun i a b c => by rw [← hx, tp_un a, tp_un c, tp_un b]
  have xz : ∀ i, i ≠ 0 → i ≠ 18 → i ≠ 19 → i ≠ 13 → i ≠ 16 → x i = 0 := fun i a b c d e => by rw [xe i a b c]; unfold tp_clr; rw [if_neg d, if_neg e]
  have c0 : tp_cl (x 0) = 1 := by rw [x0]; rfl
  have ed : tz_d x 0 = k := by
    show tp_cl (x 18) = k
    rw [x18]; exact tz_cn (by omega)
  have z0 : tp_cl (0 : Int32) = 0 := rfl
  refine ⟨⟨hK, fun l hl => ?_, fun j hj => ?_, ?_, fun z => ?_, ?_⟩, ⟨by omega, fun g hg => ?_⟩, 0, Nat.zero_le _, xz 3 (by decide) (by decide) (by decide) (by decide) (by decide), fun m hm => ?_, ?_⟩
  · rw [xz 2 (by decide) (by decide) (by decide) (by decide) (by decide), z0] at hl; omega
  · rw [xz 8 (by decide) (by decide) (by decide) (by decide) (by decide), z0] at hj; omega
  · unfold tz_VA
    rw [xz 4 (by decide) (by decide) (by decide) (by decide) (by decide), xz 14 (by decide) (by decide) (by decide) (by decide) (by decide), xz 5 (by decide) (by decide) (by decide) (by decide) (by decide), xz 6 (by decide) (by decide) (by decide) (by decide) (by decide), xz 7 (by decide) (by decide) (by decide) (by decide) (by decide), xz 2 (by decide) (by decide) (by decide) (by decide) (by decide)]
    rfl
  · exact absurd (xz 15 (by decide) (by decide) (by decide) (by decide) (by decide)) z
  · unfold tz_VD
    rw [xz 11 (by decide) (by decide) (by decide) (by decide) (by decide), xz 12 (by decide) (by decide) (by decide) (by decide) (by decide), z0, c0, ed]
    omega
  · have : g = 0 := by omega
    subst this
    rw [ed]
    have := tz_h_b 0 k
    exact ⟨by omega, 0, by omega, x19, Or.inr (by omega)⟩
  · rw [xz 1 (by decide) (by decide) (by decide) (by decide) (by decide), z0] at hm; omega
  · rw [xz 1 (by decide) (by decide) (by decide) (by decide) (by decide), xz 9 (by decide) (by decide) (by decide) (by decide) (by decide)]
    rfl
end TZN
