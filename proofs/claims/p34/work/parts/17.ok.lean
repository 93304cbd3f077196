/-! What the calls keep of a state. -/
def tp_fr (i : Nat) : Prop := (3 ≤ i ∧ i ≤ 7) ∨ (9 ≤ i ∧ i ≤ 12) ∨ i = 16 ∨ i = 17 ∨ (18 ≤ i ∧ i < 24) ∨ (24 ≤ i ∧ i < 48 ∧ i % 4 ≠ 0) ∨ (48 ≤ i ∧ i < 80 ∧ i % 4 < 2)
theorem tp_Ok_up {r : tp_R} {i : Nat} {x : Int32} (h : tp_Ok r) (hx : tp_in i x) (hf : tp_fr i) : tp_Ok (tp_up r i x) := by
  obtain ⟨h0, h1, h2, h3, h4, h5, h6⟩ := h
  have e : ∀ j, ¬ tp_fr j → tp_up r i x j = r j := fun j hj => tp_un (fun q => hj (q ▸ hf))
  have b1 := (tp_r1 h0).2
  have f0 := e 0 (by unfold tp_fr; omega)
  have f1 := e 1 (by unfold tp_fr; omega)
  have f2 := e 2 (by unfold tp_fr; omega)
  have f8 := e 8 (by unfold tp_fr; omega)
  have f13 := e 13 (by unfold tp_fr; omega)
  have f14 := e 14 (by unfold tp_fr; omega)
  have f15 := e 15 (by unfold tp_fr; omega)
  have fo : ∀ j, 80 ≤ j → tp_up r i x j = r j := fun j hj => e j (by unfold tp_fr; omega)
  refine ⟨tp_rng_up h0 hx, fun m hm => ?_, fun k hk => ?_, fun l hl => ?_, ?_, ?_, ?_⟩
  · rw [f1] at hm
    rw [e (24 + 4 * m) (by unfold tp_fr; omega), f0]
    exact h1 m hm
  · rw [f8] at hk
    rw [fo _ (by omega), fo (80 + 4 * k) (by omega), fo (82 + 4 * k) (by omega), fo (83 + 4 * k) (by omega), f2]
    exact h2 k hk
  · rw [f2] at hl
    rw [e (50 + 4 * l) (by unfold tp_fr; omega), e (51 + 4 * l) (by unfold tp_fr; omega), f13]
    exact h3 l hl
  · rw [f13, f8, fo 80 (by omega), fo 81 (by omega), f15]
    exact h4
  · rw [f15, f8, fo 80 (by omega)]
    exact h5
  · rw [f15, f14]
    exact h6
theorem tp_nf_inv {f : Nat → tp_R → tp_R} {P : tp_R → Prop} : ∀ (n : Nat) {r : tp_R}, (∀ k r, k < n → P r → P (f k r)) → P r → P (tp_nf f n r)
  | 0, _, _, h => h
  | n + 1, _, hf, h => hf n _ (Nat.lt_succ_self n) (tp_nf_inv n (fun k r hk => hf k r (Nat.lt_succ_of_lt hk)) h)
theorem tp_any_f {p : Nat → Bool} : ∀ {n : Nat}, tp_any p n = false ↔ ∀ k, k < n → p k = false
  | 0 => by simp [tp_any]
  | n + 1 => by
    rw [tp_any, Bool.or_eq_false_iff, tp_any_f]
    constructor
    · rintro ⟨a, b⟩ k hk
      rcases Nat.lt_succ_iff_lt_or_eq.mp hk with q | q
      · exact a k q
      · rw [q]; exact b
    · intro a
      exact ⟨fun k hk => a k (by omega), a n (by omega)⟩
theorem tp_any_t {p : Nat → Bool} {n k : Nat} (hk : k < n) (h : p k = true) : tp_any p n = true := by
  rcases e : tp_any p n with _ | _
  · rw [tp_any_f.mp e k hk] at h; cases h
  · rfl
theorem tp_cl0 : tp_cl 0 = 0 := rfl
theorem tp_in_any {i : Nat} {x : Int32} (e : tp_kd i = (0, 0)) : tp_in i x := tp_in0 (by rw [e])
theorem tp_inN {i h n : Nat} {x : Int32} (e : tp_kd i = (1, h)) (hx : x = nI n) (hn : n ≤ h) : tp_in i x := (tp_in1 e).mpr ⟨n, hn, hx⟩
theorem tp_inM {i h n : Nat} {x : Int32} (e : tp_kd i = (2, h)) (hx : x = nI n) (hn : n ≤ h) : tp_in i x := (tp_in2 e).mpr (Or.inr ⟨n, hn, hx⟩)
theorem tp_inm1 {i h : Nat} (e : tp_kd i = (2, h)) : tp_in i (-1) := (tp_in2 e).mpr (Or.inl rfl)
theorem tp_Ok_dig {G : Int32} {g : Nat} (hg : g < 3) : ∀ (n : Nat) {r : tp_R}, tp_Ok r → tp_Ok (tp_dig G (18 + 2 * g) n r)
  | 0, _, h => h
  | n + 1, r, h => by
    unfold tp_dig
    split
    · exact h
    · rename_i c1
      split
      · exact h
      · obtain ⟨e1, e2⟩ := tp_rga h.1 hg
        rw [e1, tp_k60, tp_le (by decide) (by omega)] at c1
        refine tp_Ok_dig hg n (tp_Ok_up (tp_Ok_up (tp_Ok_up h (tp_in_any ?_) (by unfold tp_fr; omega)) (tp_inN (n := tp_cl (r (18 + 2 * g)) + 1) (tp_kd_ga g hg) ?_ (by omega)) (by unfold tp_fr; omega)) (tp_in_any rfl) (by unfold tp_fr; omega))
        · rw [show 18 + 2 * g + 1 = 19 + 2 * g by omega]; exact tp_kd_gs g hg
        · rw [← nI_1, ← e1]
theorem tp_Ok_mi1 {m : Nat} (hm : m < 6) {r : tp_R} (h : tp_Ok r) : tp_Ok (tp_mi1 m r) := by
  have hg := (tp_rmg h.1 hm).2
  unfold tp_mi1
  split
  · exact h
  · split
    · refine tp_Ok_dig (by omega) _ (tp_Ok_up (tp_Ok_up h (tp_in_any (tp_kd_ms m hm)) (by unfold tp_fr; omega)) (tp_in_any (tp_kd_gs _ (by omega))) (by unfold tp_fr; omega))
    · exact tp_Ok_up (tp_Ok_up h (tp_in_any (tp_kd_md m hm)) (by unfold tp_fr; omega)) (tp_in_any rfl) (by unfold tp_fr; omega)
theorem tp_Ok_bu1 {l : Nat} (hl : l < 8) {r : tp_R} (h : tp_Ok r) : tp_Ok (tp_bu1 l r) := by
  unfold tp_bu1
  split
  · exact h
  · rename_i c
    obtain ⟨e1, e2⟩ := tp_rlo h.1 hl
    rw [e1, tp_k0, tp_le (by omega) (by decide)] at c
    refine tp_Ok_up (tp_Ok_up h (tp_inN (n := tp_cl (r (49 + 4 * l)) - 1) (tp_kd_lo l hl) ?_ (by omega)) (by unfold tp_fr; omega)) (tp_in_any rfl) (by unfold tp_fr; omega)
    rw [← tp_sb (by omega), ← e1]; rfl
theorem tp_Ok_ho1 {r : tp_R} (h : tp_Ok r) : tp_Ok (tp_ho1 r) :=
  tp_nf_inv _ (fun k r hk hr => tp_Ok_mi1 (Nat.lt_of_lt_of_le hk (tp_r1 h.1).2) hr) h
theorem tp_Ok_ho2 {r : tp_R} (h : tp_Ok r) : tp_Ok (tp_ho2 r) :=
  tp_nf_inv _ (fun k r hk hr => tp_Ok_bu1 (Nat.lt_of_lt_of_le hk (tp_r2 h.1).2) hr) h
/-- where the lad goes -/
theorem tp_goal {r : tp_R} (h : tp_Ok r) (ho : 0 < tp_cl (r 8)) : (tp_gg r = nI (tp_cl (tp_gg r)) ∧ tp_cl (tp_gg r) ≤ 2) ∧ (tp_gc r = nI (tp_cl (tp_gc r)) ∧ tp_cl (tp_gc r) ≤ 59) ∧ tp_cl (r 81) < tp_cl (r 2) ∧ (r 80 = 0 → r 13 = -1 → r (50 + 4 * tp_cl (r 81)) ≠ -1 ∧ r (51 + 4 * tp_cl (r 81)) ≠ -1) := by
  obtain ⟨h0, h1, h2, h3, h4, h5, h6⟩ := h
  obtain ⟨a1, a2, a3⟩ := h2 0 ho
  have bl := (tp_r2 h0).2
  have al : tp_cl (r 81) < tp_cl (r 2) := a1
  have hung : r 13 = -1 → r (50 + 4 * tp_cl (r 81)) ≠ -1 ∧ r (51 + 4 * tp_cl (r 81)) ≠ -1 := by
    intro q
    have := h3 _ al
    rw [q] at this
    constructor
    · intro z; exact (tp_n1m (n := tp_cl (r 81)) (by omega)).mp (this (Or.inl z))
    · intro z; exact (tp_n1m (n := tp_cl (r 81)) (by omega)).mp (this (Or.inr z))
  have gL : r 13 = -1 → (r (50 + 4 * tp_cl (r 81)) = nI (tp_cl (r (50 + 4 * tp_cl (r 81)))) ∧ tp_cl (r (50 + 4 * tp_cl (r 81))) ≤ 2) ∧ (r (51 + 4 * tp_cl (r 81)) = nI (tp_cl (r (51 + 4 * tp_cl (r 81)))) ∧ tp_cl (r (51 + 4 * tp_cl (r 81))) ≤ 59) := by
    intro q
    obtain ⟨q1, q2⟩ := hung q
    rcases tp_rlg h0 (show tp_cl (r 81) < 8 by omega) with w | w
    · exact absurd w q1
    · rcases tp_rlc h0 (show tp_cl (r 81) < 8 by omega) with z | z
      · exact absurd z q2
      · exact ⟨w, z⟩
  refine ⟨?_, ?_, al, fun _ => hung⟩
  · unfold tp_gg
    split
    · rename_i c1
      split
      · rename_i c2; exact (gL c2).1
      · exact ⟨(tp_row h0 (show 0 < 6 by decide)).1, (a2 c1).1⟩
    · rename_i c1
      split
      · exact tp_r11 h0
      · refine (gL ?_).1
        rcases tp_r13 h0 with w | w
        · exact w
        · exact absurd (h4 (by rw [w.1]; intro z; exact (tp_m1n (by omega)).mp z)).2.1 c1
  · unfold tp_gc
    split
    · rename_i c1
      split
      · rename_i c2; exact (gL c2).2
      · rcases tp_roc h0 (show 0 < 6 by decide) with w | w
        · exact absurd w (a2 c1).2
        · exact w
    · rename_i c1
      split
      · exact ⟨rfl, by rw [tp_cl0]; omega⟩
      · refine (gL ?_).2
        rcases tp_r13 h0 with w | w
        · exact w
        · exact absurd (h4 (by rw [w.1]; intro z; exact (tp_m1n (by omega)).mp z)).2.1 c1
