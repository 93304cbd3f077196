/-! The lad: what he keeps of the state, and that he comes to an end. -/
/-- being there -/
theorem tp_at_iff {r : tp_R} (h : tp_Ok r) (ho : 0 < tp_cl (r 8)) : tp_at r = true ↔ tp_cl (r 12) = tp_cl (tp_gc r) ∧ (tp_cl (tp_gc r) = 0 ∨ tp_cl (r 11) = tp_cl (tp_gg r)) := by
  obtain ⟨q1, q2, -, -⟩ := tp_goal h ho
  obtain ⟨a, a2, a1, a3⟩ := tp_xx q1
  obtain ⟨b, b2, b1, b3⟩ := tp_xx q2
  obtain ⟨c, c2, c1, c3⟩ := tp_xx (tp_r11 h.1)
  obtain ⟨d, d2, d1, d3⟩ := tp_xx (tp_r12 h.1)
  unfold tp_at tp_bt tp_cl
  rw [decide_eq_true_iff, a3, b3, c3, d3, a1, b1, c1, d1]
  simp (disch := omega) only [tp_eq, tp_le]
  split
  · split
    · rw [tp_sb ‹_›, tp_k0, tp_eq (by omega) (by omega)]; omega
    · rw [tp_sb (by omega), tp_k0, tp_eq (by omega) (by omega)]; omega
  · rw [nI_add, tp_k0, tp_eq (by omega) (by omega)]; omega
theorem tp_Ok_st {r : tp_R} (h : tp_Ok r) (ho : 0 < tp_cl (r 8)) (ha : tp_at r = false) : tp_Ok (tp_st r) := by
  have hn : ¬ tp_at r = true := by rw [ha]; decide
  rw [tp_at_iff h ho] at hn
  obtain ⟨q1, q2, -, -⟩ := tp_goal h ho
  obtain ⟨a, a2, a1, a3⟩ := tp_xx q1
  obtain ⟨b, b2, b1, b3⟩ := tp_xx q2
  obtain ⟨c, c2, c1, c3⟩ := tp_xx (tp_r11 h.1)
  obtain ⟨d, d2, d1, d3⟩ := tp_xx (tp_r12 h.1)
  unfold tp_cl at hn
  rw [a3, b3, c3, d3] at hn
  unfold tp_st
  rw [a1, b1, c1, d1]
  simp (disch := omega) only [tp_eq, tp_le, tp_k0]
  split
  · split
    · refine tp_Ok_up h (tp_inN (n := d - 1) rfl ?_ (by omega)) (by unfold tp_fr; omega)
      exact sb_m1 (by omega)
    · refine tp_Ok_up h (tp_inN (n := d + 1) rfl ?_ (by omega)) (by unfold tp_fr; omega)
      exact nI_1 d
  · split
    · refine tp_Ok_up (tp_Ok_up h (tp_inN rfl rfl a2) (by unfold tp_fr; omega)) (tp_inN (n := 1) rfl rfl (by decide)) (by unfold tp_fr; omega)
    · refine tp_Ok_up h (tp_inN (n := d - 1) rfl ?_ (by omega)) (by unfold tp_fr; omega)
      rw [tp_k1, tp_sb (by omega)]
/-- a state without what the lad has in his hands -/
def tp_O0 (r : tp_R) : Prop := tp_rng r ∧
  (∀ m, m < tp_cl (r 1) → tp_cl (r (24 + 4 * m)) < tp_cl (r 0)) ∧
  (∀ k, k < tp_cl (r 8) → tp_cl (r (81 + 4 * k)) < tp_cl (r 2) ∧ (r (80 + 4 * k) = 0 → tp_cl (r (82 + 4 * k)) ≤ 2 ∧ r (83 + 4 * k) ≠ -1) ∧ (r (80 + 4 * k) ≠ 0 → r (83 + 4 * k) = -1))
theorem tp_Ok_O0 {r : tp_R} (h : tp_Ok r) : tp_O0 r := ⟨h.1, h.2.1, h.2.2.1⟩
def tp_fr0 (i : Nat) : Prop := (3 ≤ i ∧ i ≤ 7) ∨ (9 ≤ i ∧ i < 24) ∨ (24 ≤ i ∧ i < 48 ∧ i % 4 ≠ 0) ∨ (48 ≤ i ∧ i < 80)
theorem tp_O0_up {r : tp_R} {i : Nat} {x : Int32} (h : tp_O0 r) (hx : tp_in i x) (hf : tp_fr0 i) : tp_O0 (tp_up r i x) := by
  obtain ⟨h0, h1, h2⟩ := h
  have e : ∀ j, ¬ tp_fr0 j → tp_up r i x j = r j := fun j hj => tp_un (fun q => hj (q ▸ hf))
  have b1 := (tp_r1 h0).2
  have f0 := e 0 (by unfold tp_fr0; omega)
  have f1 := e 1 (by unfold tp_fr0; omega)
  have f2 := e 2 (by unfold tp_fr0; omega)
  have f8 := e 8 (by unfold tp_fr0; omega)
  have fo : ∀ j, 80 ≤ j → tp_up r i x j = r j := fun j hj => e j (by unfold tp_fr0; omega)
  refine ⟨tp_rng_up h0 hx, fun m hm => ?_, fun k hk => ?_⟩
  · rw [f1] at hm
    rw [e (24 + 4 * m) (by unfold tp_fr0; omega), f0]
    exact h1 m hm
  · rw [f8] at hk
    rw [fo _ (by omega), fo (80 + 4 * k) (by omega), fo (82 + 4 * k) (by omega), fo (83 + 4 * k) (by omega), f2]
    exact h2 k hk
theorem tp_kd_4 : ∀ i, i < 20 → tp_kd (80 + i) = tp_kd (84 + i) := by decide
theorem tp_od_lo {r : tp_R} {k i : Nat} (h : i < 80) : tp_od k r i = tp_up r 8 (r 8 - 1) i := by
  unfold tp_od; rw [if_neg (by omega)]
theorem tp_od_8 {r : tp_R} {k : Nat} : tp_od k r 8 = r 8 - 1 := by rw [tp_od_lo (by decide), tp_us]
theorem tp_od_n {r : tp_R} {k i : Nat} (h : i < 80) (h8 : i ≠ 8) : tp_od k r i = r i := by rw [tp_od_lo h, tp_un h8]
theorem tp_od_k {r : tp_R} {k q j : Nat} (hr : tp_rng r) (ho : 0 < tp_cl (r 8)) (hq : q < tp_cl (r 8) - 1) (hj : j < 4) : tp_od k r (80 + j + 4 * q) = if k ≤ q then r (80 + j + 4 * (q + 1)) else r (80 + j + 4 * q) := by
  unfold tp_od
  by_cases c : k ≤ q
  · rw [if_pos (by omega), if_pos c]; congr 1
  · rw [if_neg (by omega), if_neg c, tp_un (by omega)]
theorem tp_od_cl {r : tp_R} {k : Nat} (hr : tp_rng r) (ho : 0 < tp_cl (r 8)) : tp_cl (tp_od k r 8) = tp_cl (r 8) - 1 ∧ tp_od k r 8 = nI (tp_cl (r 8) - 1) := by
  obtain ⟨n, e2, e1, e3⟩ := tp_xx (tp_r8 hr)
  unfold tp_cl at ho ⊢
  rw [e3] at ho ⊢
  have : tp_od k r 8 = nI (n - 1) := by rw [tp_od_8, e1, tp_k1, tp_sb (by omega)]
  rw [this]
  exact ⟨tp_cn (by omega), rfl⟩
theorem tp_O0_od {r : tp_R} {k : Nat} (h : tp_O0 r) (ho : 0 < tp_cl (r 8)) : tp_O0 (tp_od k r) := by
  obtain ⟨h0, h1, h2⟩ := h
  obtain ⟨c1, c2⟩ := tp_od_cl (k := k) h0 ho
  obtain ⟨e1, e2⟩ := tp_r8 h0
  refine ⟨fun i => ?_, fun m hm => ?_, fun q hq => ?_⟩
  · by_cases a : 80 + 4 * k ≤ i ∧ i < 80 + 4 * (tp_cl (r 8) - 1)
    · have : tp_od k r i = r (i + 4) := by unfold tp_od; rw [if_pos a]
      rw [this]
      have hk := tp_kd_4 (i - 80) (by omega)
      rw [show 80 + (i - 80) = i by omega, show 84 + (i - 80) = i + 4 by omega] at hk
      have := h0 (i + 4)
      unfold tp_in at this ⊢
      rw [hk]; exact this
    · have : tp_od k r i = tp_up r 8 (r 8 - 1) i := by unfold tp_od; rw [if_neg a]
      rw [this]
      exact tp_rng_up h0 (tp_inN rfl (tp_od_8.symm.trans c2) (by omega)) i
  · have b1 := (tp_r1 h0).2
    rw [tp_od_n (by decide) (by decide)] at hm
    rw [tp_od_n (by omega) (by omega), tp_od_n (by decide) (by decide)]
    exact h1 m hm
  · rw [c1] at hq
    have g0 := tp_od_k (k := k) (j := 0) h0 ho hq (by decide)
    have g1 := tp_od_k (k := k) (j := 1) h0 ho hq (by decide)
    have g2 := tp_od_k (k := k) (j := 2) h0 ho hq (by decide)
    have g3 := tp_od_k (k := k) (j := 3) h0 ho hq (by decide)
    rw [show 80 + 0 + 4 * q = 80 + 4 * q by omega] at g0
    rw [show 80 + 1 + 4 * q = 81 + 4 * q by omega] at g1
    rw [show 80 + 2 + 4 * q = 82 + 4 * q by omega] at g2
    rw [show 80 + 3 + 4 * q = 83 + 4 * q by omega] at g3
    rw [g0, g1, g2, g3, tp_od_n (by decide) (by decide)]
    split
    · exact h2 (q + 1) (by omega)
    · exact h2 q (by omega)
/-- an order is gone, the hands free -/
theorem tp_Ok_od {r : tp_R} {k : Nat} (h : tp_O0 r) (ho : 0 < tp_cl (r 8)) (h13 : r 13 = -1) (h15 : r 15 = 0) (h14 : r 14 = 0) (hl : ∀ l, l < tp_cl (r 2) → r (50 + 4 * l) ≠ -1 ∧ r (51 + 4 * l) ≠ -1) : tp_Ok (tp_od k r) := by
  obtain ⟨g0, g1, g2⟩ := tp_O0_od (k := k) h ho
  have b2 := (tp_r2 h.1).2
  have e13 : tp_od k r 13 = -1 := (tp_od_n (by decide) (by decide)).trans h13
  have e15 : tp_od k r 15 = 0 := (tp_od_n (by decide) (by decide)).trans h15
  refine ⟨g0, g1, g2, fun l q w => ?_, fun q => absurd e13 q, fun q => absurd e15 q, fun _ => (tp_od_n (by decide) (by decide)).trans h14⟩
  rw [tp_od_n (by decide) (by decide)] at q
  rw [tp_od_n (by omega) (by omega), tp_od_n (by omega) (by omega)] at w
  exact absurd w (fun z => z.elim (hl l q).1 (hl l q).2)
/-- lamps hang when the hands are free -/
theorem tp_hung {r : tp_R} (h : tp_Ok r) (h13 : r 13 = -1) {l : Nat} (hl : l < tp_cl (r 2)) : r (50 + 4 * l) ≠ -1 ∧ r (51 + 4 * l) ≠ -1 := by
  have b2 := (tp_r2 h.1).2
  have := h.2.2.2.1 l hl
  rw [h13] at this
  constructor
  · intro z; exact (tp_n1m (n := l) (by omega)).mp (this (Or.inl z))
  · intro z; exact (tp_n1m (n := l) (by omega)).mp (this (Or.inr z))
theorem tp_O0_up0 {r : tp_R} (h : tp_O0 r) {i n b : Nat} {x : Int32} (e : tp_kd i = (1, b)) (hx : x = nI n) (hn : n ≤ b) (hf : tp_fr0 i) : tp_O0 (tp_up r i x) := tp_O0_up h (tp_inN e hx hn) hf
