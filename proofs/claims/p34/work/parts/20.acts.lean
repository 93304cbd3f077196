/-! Actions: what is refused, what becomes of the state. -/
def tp_ig (r : tp_R) (g : Int32) : Bool := !decide (g < 0) && !decide (r 0 ≤ g)
def tp_im (r : tp_R) (m : Int32) : Bool := !decide (m < 0) && !decide (r 1 ≤ m)
def tp_il (r : tp_R) (l : Int32) : Bool := !decide (l < 0) && !decide (r 2 ≤ l)
def tp_io (r : tp_R) (k : Int32) : Bool := !decide (k < 0) && !decide (r 8 ≤ k)
def tp_ic (r : tp_R) (g c : Int32) : Bool := tp_ig r g && (!decide (c < 0) && !decide (r (18 + 2 * tp_cl g) ≤ c))
def tp_iw (x lo hi : Int32) : Bool := !decide (x < lo) && !decide (hi < x)
def tp_is (q v : Int32) : Bool := if q = 0 then tp_iw v 0 12 else if q = 1 then tp_iw v 0 1 else false
def tp_fh (r : tp_R) : Bool := decide (r 13 = -1) && decide (r 14 = 0)
def tp_ro (e i p : Bool) : Nat := if e then (if i then (if p then 0 else 3) else 2) else 1
def tp_rf (q : Nat) (a b c d : Int32) (r : tp_R) : Nat :=
  if q = 1 then tp_ro true (tp_iw a 1 60) (!decide (3 ≤ r 0))
  else if q = 2 then tp_ro (tp_ig r a) (tp_iw b 1 5) (!decide (6 ≤ r 1))
  else if q = 3 then tp_ro (tp_im r a && tp_ig r b) true true
  else if q = 4 then tp_ro (tp_ic r a b) (tp_iw c 1 9 && tp_iw d 0 99) (!decide (8 ≤ r 2))
  else if q = 5 then tp_ro true (tp_iw a 0 999) (!decide (9999 - r 4 < a))
  else if q = 6 then tp_ro (tp_il r a && tp_ic r b c) true (!decide (6 ≤ r 8))
  else if q = 7 then tp_ro (tp_il r a) (tp_iw b 1 99) (!decide (6 ≤ r 8))
  else if q = 8 then tp_ro (tp_io r a) true (!decide (a = 0) || tp_fh r)
  else if q = 9 then tp_ro true (tp_is a b) true
  else tp_ro true (tp_iw a 1 60) true
def tp_ga (a : Int32) (r : tp_R) : tp_R := tp_up (tp_up (tp_up r (18 + 2 * tp_cl (r 0)) a) (19 + 2 * tp_cl (r 0)) 0) 0 (r 0 + 1)
def tp_mi (a b : Int32) (r : tp_R) : tp_R := tp_up (tp_up (tp_up (tp_up (tp_up r (24 + 4 * tp_cl (r 1)) a) (25 + 4 * tp_cl (r 1)) b) (26 + 4 * tp_cl (r 1)) 0) (27 + 4 * tp_cl (r 1)) 0) 1 (r 1 + 1)
def tp_la (a b c d : Int32) (r : tp_R) : tp_R := tp_up (tp_up (tp_up (tp_up (tp_up (tp_up r (48 + 4 * tp_cl (r 2)) c) (49 + 4 * tp_cl (r 2)) d) (50 + 4 * tp_cl (r 2)) a) (51 + 4 * tp_cl (r 2)) b) 7 (r 7 + d)) 2 (r 2 + 1)
def tp_so (a : Int32) (r : tp_R) : tp_R := tp_up (tp_up r 4 (r 4 + a)) 7 (r 7 + a)
def tp_dr (a : Int32) (r : tp_R) : tp_R := tp_up (tp_od (tp_cl a) r) 15 (if a = 0 then 0 else r 15)
def tp_sg (a b : Int32) (r : tp_R) : tp_R := if a = 0 then tp_up r 16 b else tp_up r 17 b
def tp_pf (q : Nat) (a b c d : Int32) (r : tp_R) : tp_R :=
  if q = 1 then tp_ga a r
  else if q = 2 then tp_mi a b r
  else if q = 3 then tp_up r (24 + 4 * tp_cl a) b
  else if q = 4 then tp_la a b c d r
  else if q = 5 then tp_so a r
  else if q = 6 then tp_oo r 0 a b c
  else if q = 7 then tp_oo r 1 a b (-1)
  else if q = 8 then tp_dr a r
  else if q = 9 then tp_sg a b r
  else tp_hrs (tp_cl a) r
/-- the answer -/
def tp_pa (q : Nat) (a b : Int32) (r : tp_R) : Int32 :=
  if q = 1 then r 0
  else if q = 2 then r 1
  else if q = 3 then r (24 + 4 * tp_cl a)
  else if q = 4 then r 2
  else if q = 5 then r 4 + a
  else if q = 6 then r 8 + 1
  else if q = 7 then r 8 + 1
  else if q = 8 then r 8 - 1
  else if q = 9 then (if a = 0 then r 16 else r 17)
  else tp_hrs (tp_cl a) r 10 - r 10
/-! ### what they keep -/
theorem tp_iw_N {x lo hi : Int32} {L B : Nat} (hl : lo = nI L) (hh : hi = nI B) (hB : B < 2147483648) (hL : L ≤ B) (h : tp_iw x lo hi = true) : ∃ n, L ≤ n ∧ n ≤ B ∧ x = nI n := by
  subst hl hh
  unfold tp_iw at h
  simp only [Bool.and_eq_true, Bool.not_eq_true', decide_eq_false_iff_not] at h
  obtain ⟨h1, h2⟩ := h
  have h0 : ¬ x < 0 := by
    intro q
    rw [tp_lti] at h1 q
    rw [tp_ti (by omega)] at h1
    have : (0 : Int32).toInt = 0 := by decide
    omega
  obtain ⟨n, hn, rfl⟩ := nI_of h0
  rw [tp_lt (by omega) (by omega)] at h1 h2
  exact ⟨n, by omega, by omega, rfl⟩
theorem tp_ix_N {x m : Int32} {M : Nat} (hm : m = nI M) (hM : M < 2147483648) : (!decide (x < 0) && !decide (m ≤ x)) = true ↔ ∃ n, n < M ∧ x = nI n := by
  subst hm
  simp only [Bool.and_eq_true, Bool.not_eq_true', decide_eq_false_iff_not]
  constructor
  · rintro ⟨h1, h2⟩
    obtain ⟨n, hn, rfl⟩ := nI_of h1
    rw [tp_le (by omega) (by omega)] at h2
    exact ⟨n, by omega, rfl⟩
  · rintro ⟨n, hn, rfl⟩
    rw [tp_neg (by omega), tp_le (by omega) (by omega)]
    exact ⟨id, by omega⟩
section TPA
variable {r : tp_R}
theorem tp_ig_N (h : tp_rng r) {g : Int32} : tp_ig r g = true ↔ ∃ n, n < tp_cl (r 0) ∧ g = nI n := tp_ix_N (tp_r0 h).1 (by have := (tp_r0 h).2; omega)
theorem tp_im_N (h : tp_rng r) {g : Int32} : tp_im r g = true ↔ ∃ n, n < tp_cl (r 1) ∧ g = nI n := tp_ix_N (tp_r1 h).1 (by have := (tp_r1 h).2; omega)
theorem tp_il_N (h : tp_rng r) {g : Int32} : tp_il r g = true ↔ ∃ n, n < tp_cl (r 2) ∧ g = nI n := tp_ix_N (tp_r2 h).1 (by have := (tp_r2 h).2; omega)
theorem tp_io_N (h : tp_rng r) {g : Int32} : tp_io r g = true ↔ ∃ n, n < tp_cl (r 8) ∧ g = nI n := tp_ix_N (tp_r8 h).1 (by have := (tp_r8 h).2; omega)
theorem tp_ic_N (h : tp_rng r) {g c : Int32} : tp_ic r g c = true ↔ ∃ n k, n < tp_cl (r 0) ∧ g = nI n ∧ k < tp_cl (r (18 + 2 * n)) ∧ c = nI k := by
  unfold tp_ic
  rw [Bool.and_eq_true, tp_ig_N h]
  have b0 := (tp_r0 h).2
  constructor
  · rintro ⟨⟨n, h1, rfl⟩, h2⟩
    unfold tp_cl at h2
    rw [tp_cn (by omega), tp_ix_N (tp_rga h (show n < 3 by omega)).1 (by have := (tp_rga h (show n < 3 by omega)).2; omega)] at h2
    obtain ⟨k, h3, rfl⟩ := h2
    exact ⟨n, k, h1, rfl, h3, rfl⟩
  · rintro ⟨n, k, h1, rfl, h3, rfl⟩
    refine ⟨⟨n, h1, rfl⟩, ?_⟩
    unfold tp_cl
    rw [tp_cn (by omega), tp_ix_N (tp_rga h (show n < 3 by omega)).1 (by have := (tp_rga h (show n < 3 by omega)).2; omega)]
    exact ⟨k, h3, rfl⟩
theorem tp_ge_N {x : Int32} {n M : Nat} {m : Int32} (hx : x = nI n) (hn : n < 2147483648) (hm : m = nI M) (hM : M < 2147483648) : (!decide (m ≤ x)) = true ↔ n < M := by
  subst hx hm
  simp only [Bool.not_eq_true', decide_eq_false_iff_not]
  rw [tp_le hM hn]; omega
theorem tp_Ok_oo {q l w c : Int32} {l1 : Nat} (h : tp_Ok r) (ho : tp_cl (r 8) < 6) (hl : l = nI l1) (hl1 : l1 < tp_cl (r 2)) (hk : (q = 0 ∧ ∃ w1 c1, w = nI w1 ∧ w1 ≤ 2 ∧ c = nI c1 ∧ c1 ≤ 59) ∨ (q = 1 ∧ c = -1 ∧ ∃ w1, w = nI w1 ∧ w1 ≤ 99)) : tp_Ok (tp_oo r q l w c) := by
  obtain ⟨h0, h1, h2, h3, h4, h5, h6⟩ := h
  have b1 := (tp_r1 h0).2
  have b2 := (tp_r2 h0).2
  obtain ⟨n, n2, n1, n3⟩ := tp_xx (tp_r8 h0)
  unfold tp_cl at ho
  rw [n3] at ho
  unfold tp_oo tp_cl
  rw [n3, n1, nI_1]
  generalize hx : tp_up (tp_up (tp_up (tp_up (tp_up r (80 + 4 * n) q) (81 + 4 * n) l) (82 + 4 * n) w) (83 + 4 * n) c) 8 (nI (n + 1)) = x
  have en : ∀ i, i < 80 → i ≠ 8 → x i = r i := by
    intro i h1 h2; subst hx; simp (disch := omega) only [tp_un]
  have e8 : x 8 = nI (n + 1) := by subst hx; simp (disch := omega) only [tp_us]
  have ek : ∀ j k, j < 4 → k < n → x (80 + j + 4 * k) = r (80 + j + 4 * k) := by
    intro j k h1 h2; subst hx; simp (disch := omega) only [tp_un]
  have ea : x (80 + 4 * n) = q ∧ x (81 + 4 * n) = l ∧ x (82 + 4 * n) = w ∧ x (83 + 4 * n) = c := by
    subst hx; refine ⟨?_, ?_, ?_, ?_⟩ <;> simp (disch := omega) only [tp_us, tp_un]
  have hq : tp_N 1 q := by rcases hk with ⟨z, -⟩ | ⟨z, -⟩ <;> subst z; exact ⟨0, by decide, rfl⟩; exact ⟨1, by decide, rfl⟩
  have hw : tp_N 99 w := by
    rcases hk with ⟨-, w1, c1, z1, z2, -⟩ | ⟨-, -, w1, z1, z2⟩
    · exact ⟨w1, by omega, z1⟩
    · exact ⟨w1, z2, z1⟩
  have hc : tp_M 59 c := by
    rcases hk with ⟨-, w1, c1, z1, z2, z3, z4⟩ | ⟨-, z, -⟩
    · exact Or.inr ⟨c1, z4, z3⟩
    · exact Or.inl z
  have rx : tp_rng x := by
    subst hx
    exact tp_rng_up (tp_rng_up (tp_rng_up (tp_rng_up (tp_rng_up h0 ((tp_in1 (tp_kd_ok n (by omega))).mpr hq)) (tp_inN (tp_kd_ol n (by omega)) hl (by omega))) ((tp_in1 (tp_kd_ow n (by omega))).mpr hw)) ((tp_in2 (tp_kd_oc n (by omega))).mpr hc)) (tp_inN rfl rfl (by omega))
  have c8 : tp_cl (x 8) = n + 1 := by rw [e8]; exact tp_cn (by omega)
  refine ⟨rx, fun m hm => ?_, fun k hk' => ?_, fun l hl' => ?_, fun z => ?_, fun z => ?_, fun z => ?_⟩
  · rw [en 1 (by decide) (by decide)] at hm
    rw [en _ (by omega) (by omega), en 0 (by decide) (by decide)]
    exact h1 m hm
  · rw [c8] at hk'
    rw [en 2 (by decide) (by decide)]
    by_cases z : k = n
    · subst z
      rw [ea.1, ea.2.1, ea.2.2.1, ea.2.2.2]
      refine ⟨by rw [hl]; unfold tp_cl; rw [tp_cn (by omega)]; exact hl1, fun z => ?_, fun z => ?_⟩
      · rcases hk with ⟨-, w1, c1, z1, z2, z3, z4⟩ | ⟨z5, -⟩
        · rw [z1, z3]
          exact ⟨by unfold tp_cl; rw [tp_cn (by omega)]; exact z2, fun y => (tp_m1n (by omega)).mp y⟩
        · subst z5; exact absurd z (by decide)
      · rcases hk with ⟨z5, -⟩ | ⟨-, z5, -⟩
        · exact absurd z5 z
        · exact z5
    · have g0 := ek 0 k (by decide) (by omega)
      have g1 := ek 1 k (by decide) (by omega)
      have g2 := ek 2 k (by decide) (by omega)
      have g3 := ek 3 k (by decide) (by omega)
      rw [show 80 + 0 + 4 * k = 80 + 4 * k by omega] at g0
      rw [show 80 + 1 + 4 * k = 81 + 4 * k by omega] at g1
      rw [show 80 + 2 + 4 * k = 82 + 4 * k by omega] at g2
      rw [show 80 + 3 + 4 * k = 83 + 4 * k by omega] at g3
      rw [g0, g1, g2, g3]
      exact h2 k (by unfold tp_cl; rw [n3]; omega)
  · rw [en 2 (by decide) (by decide)] at hl'
    rw [en _ (by omega) (by omega), en _ (by omega) (by omega), en 13 (by decide) (by decide)]
    exact h3 l hl'
  · rw [en 13 (by decide) (by decide)] at z
    obtain ⟨y1, y2, y3, y4⟩ := h4 z
    unfold tp_cl at y1
    rw [n3] at y1
    refine ⟨by rw [c8]; omega, ?_, ?_, ?_⟩
    · exact (ek 0 0 (by decide) y1).trans y2
    · rw [en 13 (by decide) (by decide)]; exact (ek 1 0 (by decide) y1).trans y3
    · rw [en 15 (by decide) (by decide)]; exact y4
  · rw [en 15 (by decide) (by decide)] at z
    obtain ⟨y1, y2⟩ := h5 z
    unfold tp_cl at y1
    rw [n3] at y1
    exact ⟨by rw [c8]; omega, fun y => y2 ((ek 0 0 (by decide) y1).symm.trans y)⟩
  · rw [en 15 (by decide) (by decide)] at z
    rw [en 14 (by decide) (by decide)]
    exact h6 z
theorem tp_fw_N (g : Nat) : ∀ n, tp_fw r g n = -1 ∨ ∃ l, l < n ∧ tp_fw r g n = nI l ∧ r (50 + 4 * l) = nI g ∧ ¬ r (49 + 4 * l) ≤ 0
  | 0 => Or.inl rfl
  | n + 1 => by
    unfold tp_fw
    split
    · rename_i c
      unfold tp_fwc at c
      simp only [Bool.and_eq_true, Bool.not_eq_true', decide_eq_false_iff_not, decide_eq_true_iff] at c
      exact Or.inr ⟨n, by omega, rfl, c.1, c.2.1⟩
    · rcases tp_fw_N g n with z | ⟨l, z1, z2, z3⟩
      · exact Or.inl z
      · exact Or.inr ⟨l, by omega, z2, z3⟩
theorem tp_Ok_se (h : tp_Ok r) (ho : tp_cl (r 8) = 0) : ∀ (n g : Nat), g + n ≤ 3 → tp_Ok (tp_se r n g)
  | 0, _, _ => h
  | n + 1, g, hg => by
    unfold tp_se
    split
    · rename_i c
      simp only [Bool.and_eq_true, Bool.not_eq_true', decide_eq_false_iff_not] at c
      obtain ⟨c1, c2⟩ := c
      unfold tp_dk at c1
      simp only [Bool.and_eq_true, Bool.not_eq_true', decide_eq_false_iff_not] at c1
      obtain ⟨-, c3, c4, -⟩ := c1
      obtain ⟨d, d2, d1, d3⟩ := tp_xx (tp_rga h.1 (show g < 3 by omega))
      rw [d1, tp_k1, tp_le (by omega) (by omega)] at c3
      rw [d1, tp_k60, tp_le (by omega) (by omega)] at c4
      rcases tp_fw_N (r := r) g (tp_cl (r 2)) with z | ⟨l, z1, z2, -⟩
      · exact absurd z c2
      · refine tp_Ok_oo h (by omega) z2 z1 (Or.inl ⟨rfl, g, d - 1, rfl, by omega, ?_, by omega⟩)
        rw [d1, tp_k1, tp_sb (by omega)]
    · exact tp_Ok_se h ho n (g + 1) (by omega)
theorem tp_Ok_ho3 (h : tp_Ok r) : tp_Ok (tp_ho3 r) := by
  unfold tp_ho3
  split
  · split
    · have : tp_cl (r 8) = 0 := by rw [‹r 8 = 0›]; rfl
      have b0 := (tp_r0 h.1).2
      exact tp_Ok_se h this _ 0 (by omega)
    · exact h
  · exact h
theorem tp_Ok_hour (h : tp_Ok r) : tp_Ok (tp_hour r) := tp_Ok_ho3 (tp_Ok_goes (tp_Ok_ho2 (tp_Ok_ho1 (tp_Ok_up h (tp_in_any rfl) (by unfold tp_fr; omega)))))
theorem tp_Ok_hrs (n : Nat) (h : tp_Ok r) : tp_Ok (tp_hrs n r) := tp_nf_inv n (fun _ _ _ q => tp_Ok_hour q) h
end TPA
