/-! The lad's way stands on the orders, the lamps' places and his own place only. -/
def tz_LI (i : Nat) : Prop := i = 8 ∨ i = 11 ∨ i = 12 ∨ i = 13 ∨ i = 15 ∨ (48 ≤ i ∧ i < 80 ∧ 2 ≤ i % 4) ∨ (80 ≤ i ∧ i < 104)
def tz_LE (r q : tp_R) : Prop := ∀ i, tz_LI i → r i = q i
section TZLE
variable {r q p : tp_R}
theorem tz_LE_r : tz_LE r r := fun _ _ => rfl
theorem tz_LE_s (h : tz_LE r q) : tz_LE q r := fun i hi => (h i hi).symm
theorem tz_LE_t (h : tz_LE r q) (g : tz_LE q p) : tz_LE r p := fun i hi => (h i hi).trans (g i hi)
theorem tz_LE_u {k : Nat} {x y : Int32} (h : tz_LE r q) (e : x = y ∨ ¬ tz_LI k) : tz_LE (tp_up r k x) (tp_up q k y) := fun i hi => by
  by_cases c : i = k
  · subst c
    rw [tp_us, tp_us]
    exact e.resolve_right (fun w => w hi)
  · rw [tp_un c, tp_un c]; exact h i hi
theorem tz_LE_od (h : tz_LE r q) (h8 : tp_cl (r 8) ≤ 6) : tz_LE (tp_od 0 r) (tp_od 0 q) := fun i hi => by
  have e8 := h 8 (Or.inl rfl)
  unfold tp_od
  rw [← e8]
  by_cases c : 80 + 4 * 0 ≤ i ∧ i < 80 + 4 * (tp_cl (r 8) - 1)
  · rw [if_pos c, if_pos c]
    exact h _ (by unfold tz_LI; omega)
  · rw [if_neg c, if_neg c]
    exact tz_LE_u h (Or.inl rfl) i hi
theorem tz_l7 (hr : tp_rng r) : tp_cl (r 81) ≤ 7 := (tp_rol hr (show 0 < 6 by decide)).2
theorem tz_LE_e (h : tz_LE r q) (hr : tp_rng r) : r 8 = q 8 ∧ r 11 = q 11 ∧ r 12 = q 12 ∧ r 13 = q 13 ∧ r 15 = q 15 ∧ r 80 = q 80 ∧ r 81 = q 81 ∧ r 82 = q 82 ∧ r 83 = q 83 ∧ r (50 + 4 * tp_cl (r 81)) = q (50 + 4 * tp_cl (r 81)) ∧ r (51 + 4 * tp_cl (r 81)) = q (51 + 4 * tp_cl (r 81)) := by
  have := tz_l7 hr
  refine ⟨h _ ?_, h _ ?_, h _ ?_, h _ ?_, h _ ?_, h _ ?_, h _ ?_, h _ ?_, h _ ?_, h _ ?_, h _ ?_⟩ <;> unfold tz_LI <;> omega
theorem tz_LE_gg (h : tz_LE r q) (hr : tp_rng r) : tp_gg q = tp_gg r := by
  obtain ⟨e8, e11, e12, e13, e15, e80, e81, e82, e83, e50, e51⟩ := tz_LE_e h hr
  unfold tp_gg
  rw [← e81, ← e80, ← e13, ← e82, ← e15, ← e11, ← e50]
theorem tz_LE_gc (h : tz_LE r q) (hr : tp_rng r) : tp_gc q = tp_gc r := by
  obtain ⟨e8, e11, e12, e13, e15, e80, e81, e82, e83, e50, e51⟩ := tz_LE_e h hr
  unfold tp_gc
  rw [← e81, ← e80, ← e13, ← e83, ← e15, ← e51]
theorem tz_LE_at (h : tz_LE r q) (hr : tp_rng r) : tp_at q = tp_at r := by
  obtain ⟨e8, e11, e12, -⟩ := tz_LE_e h hr
  unfold tp_at
  rw [tz_LE_gg h hr, tz_LE_gc h hr, ← e11, ← e12]
theorem tz_LE_pr2 {l : Nat} {x y : Int32} (h : tz_LE r q) (hl : l ≤ 7) : tz_LE (tp_pr2 l x r) (tp_pr2 l y q) :=
  tz_LE_u (tz_LE_u (tz_LE_u (tz_LE_u h (Or.inr (by unfold tz_LI; omega))) (Or.inr (by unfold tz_LI; omega))) (Or.inl rfl)) (Or.inl rfl)
theorem tz_LE_pour {l : Nat} (h : tz_LE r q) (hl : l ≤ 7) : tz_LE (tp_pour l r) (tp_pour l q) := by
  have k : tz_LE (tp_up r (49 + 4 * l) (r (49 + 4 * l) + r 14)) (tp_up q (49 + 4 * l) (q (49 + 4 * l) + q 14)) := tz_LE_u h (Or.inr (by unfold tz_LI; omega))
  unfold tp_pour tp_pr1
  split <;> split <;> exact tz_LE_pr2 k hl
theorem tz_LE_tk1 {x y : Int32} (h : tz_LE r q) : tz_LE (tp_tk1 x r) (tp_tk1 y q) :=
  tz_LE_u (tz_LE_u (tz_LE_u h (Or.inr (by unfold tz_LI; omega))) (Or.inr (by unfold tz_LI; omega))) (Or.inl rfl)
theorem tz_LE_take (h : tz_LE r q) : tz_LE (tp_take r) (tp_take q) := by
  unfold tp_take
  split <;> split <;> exact tz_LE_tk1 h
theorem tz_pour_8 {l : Nat} : tp_pour l r 8 = r 8 := by
  unfold tp_pour tp_pr1 tp_pr2
  split <;> (rw [tp_un (by decide), tp_un (by decide), tp_un (by decide), tp_un (by omega), tp_un (by omega)])
theorem tz_LE_han (h : tz_LE r q) (hr : tp_rng r) : tz_LE (tp_han r) (tp_han q) := by
  obtain ⟨e8, e11, e12, e13, e15, e80, e81, e82, e83, e50, e51⟩ := tz_LE_e h hr
  have l7 := tz_l7 hr
  have b8 := (tp_r8 hr).2
  unfold tp_han
  rw [← e81, ← e80, ← e13, ← e82, ← e83, ← e15, ← e50]
  by_cases c1 : r 80 = 0
  · rw [if_pos c1, if_pos c1]
    by_cases c2 : r 13 = -1
    · rw [if_pos c2, if_pos c2]
      exact tz_LE_u (tz_LE_u (tz_LE_u (tz_LE_u h (Or.inl rfl)) (Or.inl rfl)) (Or.inl rfl)) (Or.inl rfl)
    · rw [if_neg c2, if_neg c2]
      refine tz_LE_od (tz_LE_u (tz_LE_u (tz_LE_u (tz_LE_u h (Or.inl rfl)) (Or.inl rfl)) (Or.inl rfl)) (Or.inl rfl)) ?_
      rw [tp_un (by decide), tp_un (by omega), tp_un (by omega), tp_un (by decide)]
      exact b8
  · rw [if_neg c1, if_neg c1]
    by_cases c2 : r 15 = 0
    · rw [if_pos c2, if_pos c2]; exact tz_LE_take h
    · rw [if_neg c2, if_neg c2]
      refine tz_LE_od (tz_LE_pour (tz_LE_u h (Or.inl rfl)) l7) ?_
      rw [tz_pour_8, tp_un (by decide)]
      exact b8
theorem tz_LE_ha : ∀ (n : Nat) {r q : tp_R}, tp_Ok r → tz_LE r q → tz_LE (tp_ha n r) (tp_ha n q)
  | 0, _, _, _, h => h
  | n + 1, r, q, hk, h => by
    have e8 := (tz_LE_e h hk.1).1
    unfold tp_ha
    rw [← e8, tz_LE_at h hk.1]
    by_cases c : r 8 ≤ 0
    · rw [if_pos c, if_pos c]; exact h
    · rw [if_neg c, if_neg c]
      by_cases c2 : tp_at r = true
      · rw [if_pos c2, if_pos c2]
        exact tz_LE_ha n (tp_Ok_han hk ((tp_pos hk).mp c)).1 (tz_LE_han h hk.1)
      · rw [if_neg c2, if_neg c2]; exact h
theorem tz_LE_hal (hk : tp_Ok r) (h : tz_LE r q) : tz_LE (tp_hal r) (tp_hal q) := tz_LE_ha 12 hk h
theorem tz_LE_st (hk : tp_Ok r) (h : tz_LE r q) : tz_LE (tp_st r) (tp_st q) := by
  obtain ⟨e8, e11, e12, -⟩ := tz_LE_e h hk.1
  unfold tp_st
  rw [tz_LE_gg h hk.1, tz_LE_gc h hk.1, ← e11, ← e12]
  split
  · split
    · exact tz_LE_u h (Or.inl rfl)
    · exact tz_LE_u h (Or.inl rfl)
  · split
    · exact tz_LE_u (tz_LE_u h (Or.inl rfl)) (Or.inl rfl)
    · exact tz_LE_u h (Or.inl rfl)
theorem tz_LE_gs : ∀ (n : Nat) {r q : tp_R}, tp_Os r → tz_LE r q → tz_LE (tp_gs n r) (tp_gs n q)
  | 0, _, _, _, h => h
  | n + 1, r, q, ho, h => by
    have e8 := (tz_LE_e h ho.1.1).1
    unfold tp_gs
    rw [← e8]
    by_cases c : r 8 ≤ 0
    · rw [if_pos c, if_pos c]; exact h
    · rw [if_neg c, if_neg c]
      have k := tp_Os_st ho c
      exact tz_LE_gs n (tp_Os_hal k) (tz_LE_hal k (tz_LE_st ho.1 h))
theorem tz_gs_s (n : Nat) (r : tp_R) : tp_gs (n + 1) r = if r 8 ≤ 0 then r else tp_gs n (tp_hal (tp_st r)) := rfl
theorem tz_gs_add (n : Nat) : ∀ (m : Nat) (r : tp_R), tp_gs (m + n) r = tp_gs n (tp_gs m r) := by
  intro m
  induction m with
  | zero => intro r; rw [Nat.zero_add]; rfl
  | succ m ih =>
    intro r
    rw [show m + 1 + n = m + n + 1 by omega, tz_gs_s, tz_gs_s]
    by_cases c : r 8 ≤ 0
    · rw [if_pos c, if_pos c, (tp_gs_n8 c n).1]
    · rw [if_neg c, if_neg c]
      exact ih _
theorem tz_hal_Os (h : tp_Os r) : tp_hal r = r := by
  rcases h.2 with c | c
  · show tp_ha (11 + 1) r = r
    unfold tp_ha
    rw [if_pos c]
  · exact tp_hal_na c
theorem tz_ho1_n {i : Nat} (h : tp_Ok r) (hi : i < 18 ∨ 48 ≤ i) (h10 : i ≠ 10) (h9 : i ≠ 9) : tp_ho1 r i = r i := by
  have b1 := (tp_r1 h.1).2
  exact (tp_nf_inv (P := fun x => tp_Ok x ∧ x i = r i) (tp_cl (r 1)) (fun k x hk hx => ⟨tp_Ok_mi1 (by omega) hx.1, by rw [tp_mi1_n (by omega) hx.1.1 hi h10 h9]; exact hx.2⟩) ⟨h, rfl⟩).2
theorem tz_bu1_m {l i : Nat} (h : i ≠ 49 + 4 * l) (h5 : i ≠ 5) : tp_bu1 l r i = r i := by
  unfold tp_bu1
  split
  · rfl
  · rw [tp_un h5, tp_un h]
theorem tz_ho2_m {i : Nat} (h : tp_rng r) (hi : i < 48 ∨ 80 ≤ i ∨ i % 4 ≠ 1) (h5 : i ≠ 5) : tp_ho2 r i = r i := by
  have b2 := (tp_r2 h).2
  exact tp_nf_inv (P := fun x => x i = r i) (tp_cl (r 2)) (fun k x hk hx => by rw [tz_bu1_m (by omega) h5]; exact hx) rfl
/-- an hour of the lad -/
theorem tz_LE_hour {P : Nat} (hk : tp_Ok r) (hP : P < 1000) (h16 : r 16 = nI P) (h17 : r 17 = 0) : tz_LE (tp_hour r) (tp_gs P (tp_hal r)) ∧ tp_hour r 16 = nI P ∧ tp_hour r 17 = 0 := by
  unfold tp_hour
  have kx : tp_Ok (tp_up r 3 (r 3 + 1)) := tp_Ok_up hk (tp_in_any rfl) (by unfold tp_fr; omega)
  generalize hx : tp_up r 3 (r 3 + 1) = x at kx
  have xe : ∀ i, i ≠ 3 → x i = r i := fun i a => by rw [← hx, tp_un a]
  have ky := tp_Ok_ho1 kx
  have ye : ∀ i, i < 18 ∨ 48 ≤ i → i ≠ 9 → i ≠ 10 → i ≠ 3 → tp_ho1 x i = r i := fun i a b c d => (tz_ho1_n kx a c b).trans (xe i d)
  generalize tp_ho1 x = y at ky ye
  have kz := tp_Ok_ho2 ky
  have ze : ∀ i, i < 18 ∨ 48 ≤ i → i ≠ 9 → i ≠ 10 → i ≠ 3 → i ≠ 5 → (i < 48 ∨ 80 ≤ i ∨ i % 4 ≠ 1) → tp_ho2 y i = r i := fun i a b c d e f => (tz_ho2_m ky.1 f e).trans (ye i a b c d)
  generalize tp_ho2 y = z at kz ze
  have le : tz_LE z r := fun i hi => by
    unfold tz_LI at hi
    exact ze i (by omega) (by omega) (by omega) (by omega) (by omega) (by omega)
  have z16 : z 16 = nI P := (ze 16 (by omega) (by omega) (by omega) (by omega) (by omega) (by omega)).trans h16
  have z17 : z 17 = 0 := (ze 17 (by omega) (by omega) (by omega) (by omega) (by omega) (by omega)).trans h17
  have g16 : tp_goes z 16 = z 16 := tp_goes_n (by omega) (by omega) (by omega) (by omega) (by omega) (by omega) (by omega) (by omega) (by omega)
  have g17 : tp_goes z 17 = z 17 := tp_goes_n (by omega) (by omega) (by omega) (by omega) (by omega) (by omega) (by omega) (by omega) (by omega)
  have e3 : tp_ho3 (tp_goes z) = tp_goes z := by
    unfold tp_ho3
    rw [if_neg (by rw [g17, z17]; decide)]
  rw [e3, g16, g17]
  refine ⟨?_, z16, z17⟩
  unfold tp_goes
  rw [z16, tz_cn (by omega)]
  exact tz_LE_gs P (tp_Os_hal kz) (tz_LE_hal kz le)
/-- some hours of the lad -/
theorem tz_LE_hrs {P : Nat} (hk : tp_Ok r) (hP : P < 1000) (h16 : r 16 = nI P) (h17 : r 17 = 0) (i : Nat) : tz_LE (tp_hrs (i + 1) r) (tp_gs ((i + 1) * P) (tp_hal r)) ∧ tp_hrs (i + 1) r 16 = nI P ∧ tp_hrs (i + 1) r 17 = 0 := by
  induction i with
  | zero =>
    have h := tz_LE_hour hk hP h16 h17
    rw [Nat.zero_add, Nat.one_mul, tp_hrs1]
    exact h
  | succ i ih =>
    obtain ⟨a1, a2, a3⟩ := ih
    have kh := tp_Ok_hrs (i + 1) hk
    obtain ⟨b1, b2, b3⟩ := tz_LE_hour kh hP a2 a3
    rw [tp_hrs_s]
    refine ⟨?_, b2, b3⟩
    have c1 := tz_LE_gs P (tp_Os_hal kh) (tz_LE_hal kh a1)
    rw [tz_hal_Os (tp_Os_gs _ (tp_Os_hal hk)), ← tz_gs_add] at c1
    rw [Nat.succ_mul (i + 1)]
    exact tz_LE_t b1 c1
theorem tz_gs_gn : ∀ (N : Nat) {z : tp_R}, tp_gs N z 8 ≤ 0 → ∀ m, tp_gs m z 8 ≤ 0 ↔ tp_gn N z ≤ m
  | 0, z, h, m => by
    have h : z 8 ≤ 0 := h
    rw [(tp_gs_n8 h m).1]
    exact ⟨fun _ => Nat.zero_le _, fun _ => h⟩
  | N + 1, z, h, m => by
    by_cases c : z 8 ≤ 0
    · rw [(tp_gs_n8 c m).1, (tp_gs_n8 c (N + 1)).2]
      exact ⟨fun _ => Nat.zero_le _, fun _ => c⟩
    · unfold tp_gs at h
      rw [if_neg c] at h
      have ih := tz_gs_gn N h
      have eg : tp_gn (N + 1) z = tp_gn N (tp_hal (tp_st z)) + 1 := by
        show (if z 8 ≤ 0 then 0 else tp_gn N (tp_hal (tp_st z)) + 1) = _
        rw [if_neg c]
      rw [eg]
      cases m with
      | zero => exact ⟨fun w => absurd w c, fun w => absurd w (by omega)⟩
      | succ m =>
        have es : tp_gs (m + 1) z = tp_gs m (tp_hal (tp_st z)) := by
          show (if z 8 ≤ 0 then z else tp_gs m (tp_hal (tp_st z))) = _
          rw [if_neg c]
        rw [es, ih m]
        omega
/-- the steps that are left -/
def tz_stp (r : tp_R) : Nat := tp_gn 1440 (tp_hal r)
theorem tz_stp_gs (hk : tp_Ok r) (m : Nat) : tp_gs m (tp_hal r) 8 ≤ 0 ↔ tz_stp r ≤ m := tz_gs_gn 1440 (tp_gs_end 1440 (tp_Os_hal hk) (tp_W_le (tp_Os_hal hk).1)) m
theorem tz_stp_b : tz_stp r ≤ 1440 := tp_gn_le _ _
/-- when the lad has done -/
theorem tz_lad_at {P : Nat} (hk : tp_Ok r) (hP : P < 1000) (h16 : r 16 = nI P) (h17 : r 17 = 0) (i : Nat) : tp_hrs (i + 1) r 8 = 0 ↔ tz_stp r ≤ (i + 1) * P := by
  have h8 := (tz_LE_hrs hk hP h16 h17 i).1 8 (Or.inl rfl)
  obtain ⟨k, k2, k1, k3⟩ := tp_xx (tp_r8 (tp_Ok_hrs (i + 1) hk).1)
  rw [← tz_stp_gs hk, ← h8, k1, tp_k0, tp_eq (by omega) (by decide), tp_le (by omega) (by decide)]
  omega
/-- r q differ in nothing of the lad's -/
theorem tz_stp_LE (hk : tp_Ok r) (h : tz_LE r q) (hq : tp_Ok q) : tz_stp r = tz_stp q := by
  have key : ∀ m, tp_gs m (tp_hal r) 8 = tp_gs m (tp_hal q) 8 := fun m => tz_LE_gs m (tp_Os_hal hk) (tz_LE_hal hk h) 8 (Or.inl rfl)
  have a1 := (tz_stp_gs hk (tz_stp q)).mp (by rw [key]; exact (tz_stp_gs hq _).mpr (Nat.le_refl _))
  have b1 := (tz_stp_gs hq (tz_stp r)).mp (by rw [← key]; exact (tz_stp_gs hk _).mpr (Nat.le_refl _))
  exact Nat.le_antisymm a1 b1
end TZLE
theorem tz_dnn : ∀ (n i : Nat) (r : tp_R), (tp_dnn n i r = -1 ∧ ∀ j, j < n → tp_hrs j r 8 ≠ 0) ∨ ∃ j, j < n ∧ tp_dnn n i r = nI (i + j) ∧ (∀ m, m < j → tp_hrs m r 8 ≠ 0) ∧ tp_hrs j r 8 = 0
  | 0, _, _ => Or.inl ⟨rfl, fun _ h => absurd h (Nat.not_lt_zero _)⟩
  | n + 1, i, r => by
    have ih := tz_dnn n (i + 1) (tp_hour r)
    unfold tp_dnn
    by_cases c : r 8 = 0
    · rw [if_pos c]
      exact Or.inr ⟨0, by omega, rfl, fun _ h => absurd h (Nat.not_lt_zero _), c⟩
    · rw [if_neg c]
      have z : ∀ {k : Nat}, (∀ m, m < k → tp_hrs m (tp_hour r) 8 ≠ 0) → ∀ m, m < k + 1 → tp_hrs m r 8 ≠ 0 := fun h m hm => by
        rcases m with _ | m
        · exact c
        · rw [tp_hrs_r]; exact h m (by omega)
      rcases ih with ⟨i1, i2⟩ | ⟨j, j1, j2, j3, j4⟩
      · exact Or.inl ⟨i1, z i2⟩
      · refine Or.inr ⟨j + 1, by omega, ?_, z j3, ?_⟩
        · rw [j2]; congr 1; omega
        · rw [tp_hrs_r]; exact j4
