/-! What the reference's functions compute over its rows: an hour. -/
theorem tp_dig_n {G : Int32} {g i : Nat} (h10 : i ≠ 10) (h1 : i ≠ 18 + 2 * g) (h2 : i ≠ 19 + 2 * g) : ∀ (n : Nat) (r : tp_R), tp_dig G (18 + 2 * g) n r i = r i
  | 0, _ => rfl
  | n + 1, r => by
    unfold tp_dig
    split
    · rfl
    · split
      · rfl
      · rw [tp_dig_n h10 h1 h2 n]
        simp (disch := omega) only [tp_un]
theorem tp_mi1_n {m i : Nat} {r : tp_R} (hm : m < 6) (hr : tp_rng r) (h : i < 18 ∨ 48 ≤ i) (h10 : i ≠ 10) (h9 : i ≠ 9) : tp_mi1 m r i = r i := by
  have hg := (tp_rmg hr hm).2
  unfold tp_mi1
  split
  · rfl
  · split
    · rw [tp_dig_n h10 (by omega) (by omega)]
      simp (disch := omega) only [tp_un]
    · simp (disch := omega) only [tp_un]
section TPH
variable {u : tl_S} {b : Nat} {r : tp_R}
theorem tp_nf_mi (h : tp_Ok r) (i : Nat) (hi : i ≤ tp_cl (r 1)) : tp_Ok (tp_nf tp_mi1 i r) ∧ tp_nf tp_mi1 i r 1 = r 1 := by
  have b1 := (tp_r1 h.1).2
  refine tp_nf_inv (P := fun x => tp_Ok x ∧ x 1 = r 1) i (fun k x hk hx => ⟨tp_Ok_mi1 (by omega) hx.1, ?_⟩) ⟨h, rfl⟩
  rw [tp_mi1_n (by omega) hx.1.1 (by omega) (by decide) (by decide)]
  exact hx.2
theorem tp_nf_s (f : Nat → tp_R → tp_R) (n : Nat) (r : tp_R) : tp_nf f (n + 1) r = f n (tp_nf f n r) := rfl
theorem tp_hrs_s (n : Nat) (r : tp_R) : tp_hrs (n + 1) r = tp_hour (tp_hrs n r) := by
  unfold tp_hrs
  rw [tp_nf_s]
end TPH
