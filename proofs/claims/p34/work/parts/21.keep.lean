/-! Actions keep the state; cells dug; the lad's way has an end. -/
theorem tp_ro0 {e i p : Bool} : tp_ro e i p = 0 ↔ e = true ∧ i = true ∧ p = true := by
  unfold tp_ro
  cases e <;> cases i <;> cases p <;> simp
section TPK
variable {r : tp_R}
theorem tp_Ok_ga {a : Int32} (h : tp_Ok r) (h1 : tp_iw a 1 60 = true) (h2 : (!decide (3 ≤ r 0)) = true) : tp_Ok (tp_ga a r) := by
  obtain ⟨d, d1, d2, rfl⟩ := tp_iw_N (L := 1) (B := 60) rfl rfl (by decide) (by decide) h1
  obtain ⟨n, n2, n1, n3⟩ := tp_xx (tp_r0 h.1)
  rw [tp_ge_N n1 (by omega) tp_k3 (by decide)] at h2
  have b1 := (tp_r1 h.1).2
  unfold tp_ga tp_cl
  rw [n3, n1, nI_1]
  have K : tp_Ok (tp_up (tp_up r (18 + 2 * n) (nI d)) (19 + 2 * n) 0) := tp_Ok_up (tp_Ok_up h (tp_inN (tp_kd_ga n h2) rfl d2) (by unfold tp_fr; omega)) (tp_in_any (tp_kd_gs n h2)) (by unfold tp_fr; omega)
  have e0 : tp_cl (tp_up (tp_up r (18 + 2 * n) (nI d)) (19 + 2 * n) 0 0) = n := by simp (disch := omega) only [tp_un]; exact n3
  generalize tp_up (tp_up r (18 + 2 * n) (nI d)) (19 + 2 * n) 0 = x at K e0 ⊢
  obtain ⟨k0, k1, k2, k3, k4, k5, k6⟩ := K
  have b1 := (tp_r1 k0).2
  have b2 := (tp_r2 k0).2
  refine ⟨tp_rng_up k0 (tp_inN rfl rfl (by omega)), fun m hm => ?_, fun k hk => ?_, fun l hl => ?_, fun z => ?_, fun z => ?_, fun z => ?_⟩
  · rw [tp_un (by decide)] at hm
    rw [tp_un (by omega), tp_us]
    have := k1 m hm
    unfold tp_cl at this ⊢
    rw [tp_cn (by omega)]
    unfold tp_cl at e0
    omega
  · rw [tp_un (by decide)] at hk
    simp (disch := omega) only [tp_un]
    exact k2 k hk
  · rw [tp_un (by decide)] at hl
    simp (disch := omega) only [tp_un]
    exact k3 l hl
  · rw [tp_un (by decide)] at z
    simp (disch := omega) only [tp_un]
    exact k4 z
  · rw [tp_un (by decide)] at z
    simp (disch := omega) only [tp_un]
    exact k5 z
  · rw [tp_un (by decide)] at z
    simp (disch := omega) only [tp_un]
    exact k6 z
/-- a miner's gallery is put -/
theorem tp_Ok_mg {m g : Nat} {x : Int32} (h : tp_Ok r) (hm : m < 6) (hx : x = nI g) (hg : g < tp_cl (r 0)) : tp_Ok (tp_up r (24 + 4 * m) x) := by
  obtain ⟨k0, k1, k2, k3, k4, k5, k6⟩ := h
  have b0 := (tp_r0 k0).2
  have b1 := (tp_r1 k0).2
  have b2 := (tp_r2 k0).2
  refine ⟨tp_rng_up k0 (tp_inN (tp_kd_mg m hm) hx (by omega)), fun q hq => ?_, fun k hk => ?_, fun l hl => ?_, fun z => ?_, fun z => ?_, fun z => ?_⟩
  · rw [tp_un (by omega)] at hq
    rw [tp_un (i := 24 + 4 * m) (j := 0) (by omega)]
    by_cases c : q = m
    · subst c
      rw [tp_us, hx]
      unfold tp_cl at hg b0 ⊢
      rw [tp_cn (by omega)]
      exact hg
    · rw [tp_un (by omega)]
      exact k1 q hq
  · rw [tp_un (by omega)] at hk
    simp (disch := omega) only [tp_un]
    exact k2 k hk
  · rw [tp_un (by omega)] at hl
    simp (disch := omega) only [tp_un]
    exact k3 l hl
  · rw [tp_un (by omega)] at z
    simp (disch := omega) only [tp_un]
    exact k4 z
  · rw [tp_un (by omega)] at z
    simp (disch := omega) only [tp_un]
    exact k5 z
  · rw [tp_un (by omega)] at z
    simp (disch := omega) only [tp_un]
    exact k6 z
theorem tp_Ok_mi {a b : Int32} (h : tp_Ok r) (h1 : tp_ig r a = true) (h2 : (!decide (6 ≤ r 1)) = true) : tp_Ok (tp_mi a b r) := by
  obtain ⟨g, g1, rfl⟩ := (tp_ig_N h.1).mp h1
  obtain ⟨n, n2, n1, n3⟩ := tp_xx (tp_r1 h.1)
  rw [tp_ge_N n1 (by omega) tp_k6 (by decide)] at h2
  have b0 := (tp_r0 h.1).2
  unfold tp_mi tp_cl
  rw [n3, n1, nI_1]
  have K : tp_Ok (tp_up (tp_up (tp_up (tp_up r (24 + 4 * n) (nI g)) (25 + 4 * n) b) (26 + 4 * n) 0) (27 + 4 * n) 0) :=
    tp_Ok_up (tp_Ok_up (tp_Ok_up (tp_Ok_mg h h2 rfl g1) (tp_in_any (tp_kd_mp n h2)) (by unfold tp_fr; omega)) (tp_in_any (tp_kd_ms n h2)) (by unfold tp_fr; omega)) (tp_in_any (tp_kd_md n h2)) (by unfold tp_fr; omega)
  have e0 : tp_cl (tp_up (tp_up (tp_up (tp_up r (24 + 4 * n) (nI g)) (25 + 4 * n) b) (26 + 4 * n) 0) (27 + 4 * n) 0 1) = n ∧ tp_cl (tp_up (tp_up (tp_up (tp_up r (24 + 4 * n) (nI g)) (25 + 4 * n) b) (26 + 4 * n) 0) (27 + 4 * n) 0 (24 + 4 * n)) = g ∧ tp_up (tp_up (tp_up (tp_up r (24 + 4 * n) (nI g)) (25 + 4 * n) b) (26 + 4 * n) 0) (27 + 4 * n) 0 0 = r 0 := by
    simp (disch := omega) only [tp_un, tp_us, true_and, and_true]
    exact ⟨n3, tp_cn (by omega)⟩
  generalize tp_up (tp_up (tp_up (tp_up r (24 + 4 * n) (nI g)) (25 + 4 * n) b) (26 + 4 * n) 0) (27 + 4 * n) 0 = x at K e0 ⊢
  obtain ⟨e0, eg, er⟩ := e0
  obtain ⟨k0, k1, k2, k3, k4, k5, k6⟩ := K
  have b2 := (tp_r2 k0).2
  refine ⟨tp_rng_up k0 (tp_inN rfl rfl (by omega)), fun m hm => ?_, fun k hk => ?_, fun l hl => ?_, fun z => ?_, fun z => ?_, fun z => ?_⟩
  · rw [tp_us] at hm
    unfold tp_cl at hm
    rw [tp_cn (by omega)] at hm
    rw [tp_un (by omega), tp_un (by decide)]
    by_cases c : m = n
    · rw [c, eg, er]; exact g1
    · exact k1 m (by omega)
  · rw [tp_un (by omega)] at hk
    simp (disch := omega) only [tp_un]
    exact k2 k hk
  · rw [tp_un (by omega)] at hl
    simp (disch := omega) only [tp_un]
    exact k3 l hl
  · rw [tp_un (by omega)] at z
    simp (disch := omega) only [tp_un]
    exact k4 z
  · rw [tp_un (by omega)] at z
    simp (disch := omega) only [tp_un]
    exact k5 z
  · rw [tp_un (by omega)] at z
    simp (disch := omega) only [tp_un]
    exact k6 z
theorem tp_Ok_la {a b c d : Int32} (h : tp_Ok r) (h1 : tp_ic r a b = true) (h2 : tp_iw c 1 9 = true) (h3 : tp_iw d 0 99 = true) (h4 : (!decide (8 ≤ r 2)) = true) : tp_Ok (tp_la a b c d r) := by
  obtain ⟨g, k, g1, rfl, hk, rfl⟩ := (tp_ic_N h.1).mp h1
  obtain ⟨c, c1, c2, rfl⟩ := tp_iw_N (L := 1) (B := 9) rfl rfl (by decide) (by decide) h2
  obtain ⟨d, d1, d2, rfl⟩ := tp_iw_N (L := 0) (B := 99) rfl rfl (by decide) (by decide) h3
  obtain ⟨n, n2, n1, n3⟩ := tp_xx (tp_r2 h.1)
  rw [tp_ge_N n1 (by omega) tp_k8 (by decide)] at h4
  have b0 := (tp_r0 h.1).2
  have bd := (tp_rga h.1 (show g < 3 by omega)).2
  unfold tp_la tp_cl
  rw [n3, n1, nI_1]
  generalize hx : tp_up (tp_up (tp_up (tp_up (tp_up (tp_up r (48 + 4 * n) (nI c)) (49 + 4 * n) (nI d)) (50 + 4 * n) (nI g)) (51 + 4 * n) (nI k)) 7 (r 7 + nI d)) 2 (nI (n + 1)) = x
  have rx : tp_rng x := by
    subst hx
    exact tp_rng_up (tp_rng_up (tp_rng_up (tp_rng_up (tp_rng_up (tp_rng_up h.1 (tp_inN (tp_kd_lr n h4) rfl c2)) (tp_inN (tp_kd_lo n h4) rfl d2)) (tp_inM (tp_kd_lg n h4) rfl (by omega))) (tp_inM (tp_kd_lc n h4) rfl (by omega))) (tp_in_any rfl)) (tp_inN rfl rfl (by omega))
  have en : ∀ i, i < 48 ∨ 80 ≤ i → i ≠ 7 → i ≠ 2 → x i = r i := by
    intro i q1 q2 q3; subst hx; simp (disch := omega) only [tp_un]
  have c2 : tp_cl (x 2) = n + 1 := by subst hx; rw [tp_us]; exact tp_cn (by omega)
  have el : ∀ l, l ≠ n → x (50 + 4 * l) = r (50 + 4 * l) ∧ x (51 + 4 * l) = r (51 + 4 * l) := by
    intro l q; subst hx; refine ⟨?_, ?_⟩ <;> simp (disch := omega) only [tp_un]
  have ea : x (50 + 4 * n) = nI g ∧ x (51 + 4 * n) = nI k := by
    subst hx; refine ⟨?_, ?_⟩ <;> simp (disch := omega) only [tp_un, tp_us]
  obtain ⟨k0, k1, k2, k3, k4, k5, k6⟩ := h
  have b1 := (tp_r1 k0).2
  have b8 := (tp_r8 k0).2
  refine ⟨rx, fun m hm => ?_, fun q hq => ?_, fun l hl => ?_, ?_, ?_, ?_⟩
  · rw [en 1 (by omega) (by decide) (by decide)] at hm
    rw [en _ (by omega) (by omega) (by omega), en 0 (by omega) (by decide) (by decide)]
    exact k1 m hm
  · rw [en 8 (by omega) (by decide) (by decide)] at hq
    rw [en _ (by omega) (by omega) (by omega), en (80 + 4 * q) (by omega) (by omega) (by omega), en (82 + 4 * q) (by omega) (by omega) (by omega), en (83 + 4 * q) (by omega) (by omega) (by omega), c2]
    have := k2 q hq
    refine ⟨?_, this.2⟩
    have := this.1
    unfold tp_cl at this ⊢
    omega
  · rw [c2] at hl
    rw [en 13 (by omega) (by decide) (by decide)]
    by_cases z : l = n
    · subst z
      rw [ea.1, ea.2, tp_m1n (by omega), tp_m1n (by omega)]
      intro y; exact y.elim False.elim False.elim
    · rw [(el l z).1, (el l z).2]
      exact k3 l (by unfold tp_cl; omega)
  · rw [en 13 (by omega) (by decide) (by decide), en 8 (by omega) (by decide) (by decide), en 80 (by omega) (by decide) (by decide), en 81 (by omega) (by decide) (by decide), en 15 (by omega) (by decide) (by decide)]
    exact k4
  · rw [en 15 (by omega) (by decide) (by decide), en 8 (by omega) (by decide) (by decide), en 80 (by omega) (by decide) (by decide)]
    exact k5
  · rw [en 15 (by omega) (by decide) (by decide), en 14 (by omega) (by decide) (by decide)]
    exact k6
theorem tp_Ok_so {a : Int32} (h : tp_Ok r) (h1 : tp_iw a 0 999 = true) (h2 : (!decide (9999 - r 4 < a)) = true) : tp_Ok (tp_so a r) := by
  obtain ⟨d, d1, d2, rfl⟩ := tp_iw_N (L := 0) (B := 999) rfl rfl (by decide) (by decide) h1
  obtain ⟨n, n2, n1, n3⟩ := tp_xx (tp_r4 h.1)
  unfold tp_so
  rw [n1] at h2 ⊢
  rw [tp_k9999, tp_sb n2] at h2
  simp only [Bool.not_eq_true', decide_eq_false_iff_not] at h2
  rw [tp_lt (by omega) (by omega)] at h2
  exact tp_Ok_up (tp_Ok_up h (tp_inN (n := n + d) rfl (nI_add n d) (by omega)) (by unfold tp_fr; omega)) (tp_in_any rfl) (by unfold tp_fr; omega)
theorem tp_Ok_dr {a : Int32} (h : tp_Ok r) (h1 : tp_io r a = true) (h2 : (!decide (a = 0) || tp_fh r) = true) : tp_Ok (tp_dr a r) := by
  obtain ⟨k, k1, rfl⟩ := (tp_io_N h.1).mp h1
  have b8 := (tp_r8 h.1).2
  have ho : 0 < tp_cl (r 8) := by omega
  unfold tp_dr tp_cl
  rw [tp_cn (by omega)]
  have e8 := (tp_od_cl (k := k) h.1 ho).1
  by_cases c : k = 0
  · subst c
    rw [if_pos nI_0]
    rw [nI_0] at h2
    simp only [decide_true, Bool.not_true, Bool.false_or] at h2
    unfold tp_fh at h2
    rw [Bool.and_eq_true, decide_eq_true_iff, decide_eq_true_iff] at h2
    have : tp_up (tp_od 0 r) 15 0 = tp_od 0 (tp_up r 15 0) := by
      funext i
      by_cases c : i = 15
      · subst c; rw [tp_us, tp_od_n (by decide) (by decide), tp_us]
      · rw [tp_un c]
        unfold tp_od
        rw [tp_un (i := 15) (j := 8) (by decide)]
        by_cases d : 80 + 4 * 0 ≤ i ∧ i < 80 + 4 * (tp_cl (r 8) - 1)
        · rw [if_pos d, if_pos d, tp_un (by omega)]
        · rw [if_neg d, if_neg d, tp_uc (by decide), tp_un c]
    rw [this]
    refine tp_Ok_od (tp_O0_up (tp_Ok_O0 h) (tp_inN (n := 0) rfl rfl (by decide)) (by unfold tp_fr0; omega)) ho h2.1 rfl h2.2 (fun l hl => ?_)
    have := tp_hung h h2.1 hl
    have b2 := (tp_r2 h.1).2
    rw [tp_un (by omega), tp_un (by omega)]
    exact this
  · rw [if_neg (fun z => c ((tp_eq (by omega) (by decide)).mp (z.trans nI_0.symm)))]
    have e15 : tp_od k r 15 = r 15 := tp_od_n (by decide) (by decide)
    rw [← e15, tp_ui]
    obtain ⟨g0, g1, g2⟩ := tp_O0_od (k := k) (tp_Ok_O0 h) ho
    obtain ⟨k0, k1', k2, k3, k4, k5, k6⟩ := h
    have b2 := (tp_r2 k0).2
    have e80 : tp_od k r 80 = r 80 := by
      have := tp_od_k (r := r) (k := k) (q := 0) (j := 0) k0 ho (by omega) (by decide)
      rw [if_neg (by omega)] at this
      exact this
    have e81 : tp_od k r 81 = r 81 := by
      have := tp_od_k (r := r) (k := k) (q := 0) (j := 1) k0 ho (by omega) (by decide)
      rw [if_neg (by omega)] at this
      exact this
    refine ⟨g0, g1, g2, fun l hl => ?_, fun z => ?_, fun z => ?_, fun z => ?_⟩
    · rw [tp_od_n (by decide) (by decide)] at hl
      rw [tp_od_n (by omega) (by omega), tp_od_n (by omega) (by omega), tp_od_n (by decide) (by decide)]
      exact k3 l hl
    · rw [tp_od_n (by decide) (by decide)] at z
      rw [e80, e81, e8, e15, tp_od_n (by decide) (by decide)]
      exact ⟨by omega, (k4 z).2⟩
    · rw [e15] at z
      rw [e80, e8]
      exact ⟨by omega, (k5 z).2⟩
    · rw [e15] at z
      rw [tp_od_n (by decide) (by decide)]
      exact k6 z
theorem tp_is_N {a b : Int32} (h : tp_is a b = true) : (a = 0 ∧ tp_N 12 b) ∨ (a = 1 ∧ tp_N 1 b) := by
  unfold tp_is at h
  split at h
  · obtain ⟨n, -, n2, n3⟩ := tp_iw_N (L := 0) (B := 12) rfl rfl (by decide) (by decide) h
    exact Or.inl ⟨‹_›, n, n2, n3⟩
  · split at h
    · obtain ⟨n, -, n2, n3⟩ := tp_iw_N (L := 0) (B := 1) rfl rfl (by decide) (by decide) h
      exact Or.inr ⟨‹_›, n, n2, n3⟩
    · cases h
theorem tp_Ok_pf {q : Nat} {a b c d : Int32} (h : tp_Ok r) (hq : tp_rf q a b c d r = 0) : tp_Ok (tp_pf q a b c d r) := by
  unfold tp_rf at hq
  unfold tp_pf
  repeat' split at hq
  all_goals simp only [*, if_true, if_false]
  all_goals (try rw [tp_ro0] at hq)
  · exact tp_Ok_ga h hq.2.1 hq.2.2
  · exact tp_Ok_mi h hq.1 hq.2.2
  · have := hq.1
    rw [Bool.and_eq_true] at this
    obtain ⟨m, m1, rfl⟩ := (tp_im_N h.1).mp this.1
    obtain ⟨g, g1, rfl⟩ := (tp_ig_N h.1).mp this.2
    have b1 := (tp_r1 h.1).2
    unfold tp_cl
    rw [tp_cn (by omega)]
    exact tp_Ok_mg h (by omega) rfl g1
  · have := hq.2.1
    rw [Bool.and_eq_true] at this
    exact tp_Ok_la h hq.1 this.1 this.2 hq.2.2
  · exact tp_Ok_so h hq.2.1 hq.2.2
  · have := hq.1
    rw [Bool.and_eq_true] at this
    obtain ⟨l, l1, rfl⟩ := (tp_il_N h.1).mp this.1
    obtain ⟨g, k, g1, rfl, k1, rfl⟩ := (tp_ic_N h.1).mp this.2
    have b0 := (tp_r0 h.1).2
    have bd := (tp_rga h.1 (show g < 3 by omega)).2
    exact tp_Ok_oo h ((tp_ge_N (tp_r8 h.1).1 (by have := (tp_r8 h.1).2; omega) tp_k6 (by decide)).mp hq.2.2) rfl l1 (Or.inl ⟨rfl, g, k, rfl, by omega, rfl, by omega⟩)
  · obtain ⟨l, l1, rfl⟩ := (tp_il_N h.1).mp hq.1
    obtain ⟨n, -, n2, n3⟩ := tp_iw_N (L := 1) (B := 99) rfl rfl (by decide) (by decide) hq.2.1
    exact tp_Ok_oo h ((tp_ge_N (tp_r8 h.1).1 (by have := (tp_r8 h.1).2; omega) tp_k6 (by decide)).mp hq.2.2) rfl l1 (Or.inr ⟨rfl, rfl, n, n3, n2⟩)
  · exact tp_Ok_dr h hq.1 hq.2.2
  · show tp_Ok (tp_sg a b r)
    unfold tp_sg
    rcases tp_is_N hq.2.1 with ⟨z1, z2⟩ | ⟨z1, z2⟩
    · rw [if_pos z1]
      exact tp_Ok_up h ((tp_in1 rfl).mpr z2) (by unfold tp_fr; omega)
    · rw [if_neg (by rw [z1]; decide)]
      exact tp_Ok_up h ((tp_in1 rfl).mpr z2) (by unfold tp_fr; omega)
  · exact tp_Ok_hrs _ h
end TPK
