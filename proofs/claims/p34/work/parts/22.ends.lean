/-! Cells dug in hours; the lad's way has an end. -/
def tp_S (r : tp_R) : Nat := tp_cl (r 18) + tp_cl (r 20) + tp_cl (r 22)
def tp_dug (k : Nat) (r q : tp_R) : Prop := q 10 = r 10 + nI k ∧ tp_S q = tp_S r + k
theorem tp_dug_same {r q : tp_R} (h10 : q 10 = r 10) (h1 : q 18 = r 18) (h2 : q 20 = r 20) (h3 : q 22 = r 22) : tp_dug 0 r q := by
  unfold tp_dug tp_S
  rw [h10, h1, h2, h3, nI_0, Int32.add_zero]
  exact ⟨rfl, rfl⟩
theorem tp_dug_tr {j k : Nat} {r q p : tp_R} (h1 : tp_dug j r q) (h2 : tp_dug k q p) : tp_dug (j + k) r p := by
  unfold tp_dug at *
  rw [h2.1, h2.2, h1.1, h1.2, Int32.add_assoc, nI_add]
  exact ⟨rfl, by omega⟩
def tp_dg (r q : tp_R) : Prop := ∃ k, tp_dug k r q
theorem tp_dg_tr {r q p : tp_R} (h1 : tp_dg r q) (h2 : tp_dg q p) : tp_dg r p := by
  obtain ⟨j, h1⟩ := h1
  obtain ⟨k, h2⟩ := h2
  exact ⟨j + k, tp_dug_tr h1 h2⟩
theorem tp_dg_up {r q : tp_R} {i : Nat} {x : Int32} (h : tp_dg r q) (h10 : i ≠ 10) (h1 : i ≠ 18) (h2 : i ≠ 20) (h3 : i ≠ 22) : tp_dg r (tp_up q i x) :=
  tp_dg_tr h ⟨0, tp_dug_same (tp_un (by omega)) (tp_un (by omega)) (tp_un (by omega)) (tp_un (by omega))⟩
theorem tp_dg_rf (r : tp_R) : tp_dg r r := ⟨0, tp_dug_same rfl rfl rfl rfl⟩
theorem tp_S_up {r : tp_R} {g d : Nat} (hg : g < 3) (e : r (18 + 2 * g) = nI d) (hd : d < 60) : tp_S (tp_up r (18 + 2 * g) (nI (d + 1))) = tp_S r + 1 := by
  unfold tp_S tp_cl
  have h1 : (nI d).toNatClampNeg = d := tp_cn (by omega)
  have h2 : (nI (d + 1)).toNatClampNeg = d + 1 := tp_cn (by omega)
  have : g = 0 ∨ g = 1 ∨ g = 2 := by omega
  rcases this with rfl | rfl | rfl
  · rw [show r 18 = nI d from e, show tp_up r (18 + 2 * 0) (nI (d + 1)) 18 = nI (d + 1) from rfl, show tp_up r (18 + 2 * 0) (nI (d + 1)) 20 = r 20 from rfl, show tp_up r (18 + 2 * 0) (nI (d + 1)) 22 = r 22 from rfl, h1, h2]; omega
  · rw [show r 20 = nI d from e, show tp_up r (18 + 2 * 1) (nI (d + 1)) 18 = r 18 from rfl, show tp_up r (18 + 2 * 1) (nI (d + 1)) 20 = nI (d + 1) from rfl, show tp_up r (18 + 2 * 1) (nI (d + 1)) 22 = r 22 from rfl, h1, h2]; omega
  · rw [show r 22 = nI d from e, show tp_up r (18 + 2 * 2) (nI (d + 1)) 18 = r 18 from rfl, show tp_up r (18 + 2 * 2) (nI (d + 1)) 20 = r 20 from rfl, show tp_up r (18 + 2 * 2) (nI (d + 1)) 22 = nI (d + 1) from rfl, h1, h2]; omega
theorem tp_dg_dig {G : Int32} {g : Nat} (hg : g < 3) : ∀ (n : Nat) {r : tp_R}, tp_Ok r → tp_dg r (tp_dig G (18 + 2 * g) n r)
  | 0, r, _ => tp_dg_rf r
  | n + 1, r, h => by
    unfold tp_dig
    split
    · exact tp_dg_rf r
    · rename_i c1
      split
      · exact tp_dg_rf r
      · obtain ⟨d, d2, d1, d3⟩ := tp_xx (tp_rga h.1 hg)
        rw [d1, tp_k60, tp_le (by decide) (by omega)] at c1
        have K : tp_Ok (tp_up (tp_up (tp_up r (18 + 2 * g + 1) (r (18 + 2 * g + 1) - tp_hd G (r (18 + 2 * g)))) (18 + 2 * g) (r (18 + 2 * g) + 1)) 10 (r 10 + 1)) := by
          refine tp_Ok_up (tp_Ok_up (tp_Ok_up h (tp_in_any ?_) (by unfold tp_fr; omega)) (tp_inN (n := d + 1) (tp_kd_ga g hg) ?_ (by omega)) (by unfold tp_fr; omega)) (tp_in_any rfl) (by unfold tp_fr; omega)
          · rw [show 18 + 2 * g + 1 = 19 + 2 * g by omega]; exact tp_kd_gs g hg
          · rw [d1, nI_1]
        refine tp_dg_tr ?_ (tp_dg_dig hg n K)
        refine ⟨1, ?_, ?_⟩
        · rw [tp_us]; rfl
        · have e1 : ∀ x : tp_R, ∀ y, tp_S (tp_up x 10 y) = tp_S x := fun x y => rfl
          rw [e1, d1, nI_1, tp_S_up hg (by rw [tp_un (by omega)]; exact d1) (by omega)]
          unfold tp_S
          rw [tp_un (by omega), tp_un (by omega), tp_un (by omega)]
theorem tp_dg_mi1 {m : Nat} (hm : m < 6) {r : tp_R} (h : tp_Ok r) : tp_dg r (tp_mi1 m r) := by
  have hg := (tp_rmg h.1 hm).2
  unfold tp_mi1
  split
  · exact tp_dg_rf r
  · split
    · refine tp_dg_tr (q := tp_up (tp_up r (26 + 4 * m) (r (26 + 4 * m) + r (25 + 4 * m))) (19 + 2 * tp_cl (r (24 + 4 * m))) (r (19 + 2 * tp_cl (r (24 + 4 * m))) + r (25 + 4 * m))) ?_ (tp_dg_dig (by omega) _ (tp_Ok_up (tp_Ok_up h (tp_in_any (tp_kd_ms m hm)) (by unfold tp_fr; omega)) (tp_in_any (tp_kd_gs _ (by omega))) (by unfold tp_fr; omega)))
      exact tp_dg_up (tp_dg_up (tp_dg_rf r) (by omega) (by omega) (by omega) (by omega)) (by omega) (by omega) (by omega) (by omega)
    · exact tp_dg_up (tp_dg_up (tp_dg_rf r) (by omega) (by omega) (by omega) (by omega)) (by omega) (by omega) (by omega) (by omega)
theorem tp_dg_bu1 {l : Nat} {r : tp_R} : tp_dg r (tp_bu1 l r) := by
  unfold tp_bu1
  split
  · exact tp_dg_rf r
  · exact tp_dg_up (tp_dg_up (tp_dg_rf r) (by omega) (by omega) (by omega) (by omega)) (by omega) (by omega) (by omega) (by omega)
theorem tp_nf_rel {f : Nat → tp_R → tp_R} {P : tp_R → Prop} {Q : tp_R → tp_R → Prop} (hr : ∀ r, Q r r) (ht : ∀ a b c, Q a b → Q b c → Q a c) : ∀ (n : Nat) {r : tp_R}, (∀ k r, k < n → P r → P (f k r) ∧ Q r (f k r)) → P r → Q r (tp_nf f n r)
  | 0, r, _, _ => hr r
  | n + 1, r, hf, h => ht _ _ _ (tp_nf_rel hr ht n (fun k r hk => hf k r (Nat.lt_succ_of_lt hk)) h) (hf n _ (Nat.lt_succ_self n) (tp_nf_inv n (fun k r hk hp => (hf k r (Nat.lt_succ_of_lt hk) hp).1) h)).2
theorem tp_dg_se {r : tp_R} : ∀ (n g : Nat), tp_dg r (tp_se r n g)
  | 0, _ => tp_dg_rf r
  | n + 1, g => by
    unfold tp_se
    split
    · unfold tp_oo
      exact tp_dg_up (tp_dg_up (tp_dg_up (tp_dg_up (tp_dg_up (tp_dg_rf r) (by omega) (by omega) (by omega) (by omega)) (by omega) (by omega) (by omega) (by omega)) (by omega) (by omega) (by omega) (by omega)) (by omega) (by omega) (by omega) (by omega)) (by omega) (by omega) (by omega) (by omega)
    · exact tp_dg_se n (g + 1)
theorem tp_dg_hour {r : tp_R} (h : tp_Ok r) : tp_dg r (tp_hour r) := by
  have h1 : tp_Ok (tp_up r 3 (r 3 + 1)) := tp_Ok_up h (tp_in_any rfl) (by unfold tp_fr; omega)
  refine tp_dg_tr (tp_dg_up (i := 3) (x := r 3 + 1) (tp_dg_rf r) (by decide) (by decide) (by decide) (by decide)) (tp_dg_tr (q := tp_ho1 (tp_up r 3 (r 3 + 1))) ?_ ?_)
  · exact tp_nf_rel (P := tp_Ok) tp_dg_rf (fun _ _ _ => tp_dg_tr) _ (fun k r hk q => ⟨tp_Ok_mi1 (Nat.lt_of_lt_of_le hk (tp_r1 h1.1).2) q, tp_dg_mi1 (Nat.lt_of_lt_of_le hk (tp_r1 h1.1).2) q⟩) h1
  · refine tp_dg_tr (q := tp_ho2 (tp_ho1 (tp_up r 3 (r 3 + 1)))) ?_ ?_
    · exact tp_nf_rel (P := fun _ => True) tp_dg_rf (fun _ _ _ => tp_dg_tr) _ (fun k r hk q => ⟨trivial, tp_dg_bu1⟩) trivial
    · show tp_dg _ (tp_ho3 (tp_goes (tp_ho2 (tp_ho1 (tp_up r 3 (r 3 + 1))))))
      generalize tp_ho2 (tp_ho1 (tp_up r 3 (r 3 + 1))) = x
      refine tp_dg_tr (q := tp_goes x) ⟨0, tp_dug_same ?_ ?_ ?_ ?_⟩ ?_
      · exact tp_goes_n (by decide) (by decide) (by decide) (by decide) (by decide) (by decide) (by decide) (by decide) (by decide)
      · exact tp_goes_n (by decide) (by decide) (by decide) (by decide) (by decide) (by decide) (by decide) (by decide) (by decide)
      · exact tp_goes_n (by decide) (by decide) (by decide) (by decide) (by decide) (by decide) (by decide) (by decide) (by decide)
      · exact tp_goes_n (by decide) (by decide) (by decide) (by decide) (by decide) (by decide) (by decide) (by decide) (by decide)
      · unfold tp_ho3
        split
        · split
          · exact tp_dg_se _ _
          · exact tp_dg_rf _
        · exact tp_dg_rf _
/-- in n hours at most 180 cells are dug -/
theorem tp_hrs_dug (n : Nat) {r : tp_R} (h : tp_Ok r) : ∃ k, k ≤ 180 ∧ tp_hrs n r 10 - r 10 = nI k := by
  obtain ⟨k, k1, k2⟩ : tp_dg r (tp_hrs n r) := tp_nf_rel (P := tp_Ok) tp_dg_rf (fun _ _ _ => tp_dg_tr) n (fun _ _ _ q => ⟨tp_Ok_hour q, tp_dg_hour q⟩) h
  have h' := tp_Ok_hrs n h
  have a := (tp_rga h'.1 (show 0 < 3 by decide)).2
  have b := (tp_rga h'.1 (show 1 < 3 by decide)).2
  have c := (tp_rga h'.1 (show 2 < 3 by decide)).2
  refine ⟨k, ?_, ?_⟩
  · have a : tp_cl (tp_hrs n r 18) ≤ 60 := a
    have b : tp_cl (tp_hrs n r 20) ≤ 60 := b
    have c : tp_cl (tp_hrs n r 22) ≤ 60 := c
    unfold tp_S at k2
    omega
  · rw [k1, Int32.add_comm, Int32.add_sub_cancel]
/-! ### the way -/
def tp_di (r : tp_R) : Nat := if tp_cl (tp_gg r) = tp_cl (r 11) then (tp_cl (tp_gc r) - tp_cl (r 12)) + (tp_cl (r 12) - tp_cl (tp_gc r)) else tp_cl (r 12) + tp_cl (tp_gc r)
def tp_W (r : tp_R) : Nat := if r 8 ≤ 0 then 0 else tp_di r + 118 * (tp_pot r - 1)
theorem tp_at_di {r : tp_R} (h : tp_Ok r) (ho : 0 < tp_cl (r 8)) : tp_at r = true ↔ tp_di r = 0 := by
  rw [tp_at_iff h ho]
  unfold tp_di
  split <;> omega
theorem tp_di_le {r : tp_R} (h : tp_Ok r) (ho : 0 < tp_cl (r 8)) : tp_di r ≤ 118 := by
  obtain ⟨q1, q2, -, -⟩ := tp_goal h ho
  have := (tp_r12 h.1).2
  unfold tp_di
  split <;> omega
theorem tp_gc_st {r : tp_R} : tp_gc (tp_st r) = tp_gc r := by
  unfold tp_gc
  simp (disch := omega) only [tp_st_n]
theorem tp_gg_st {r : tp_R} : tp_gg (tp_st r) = tp_gg r := by
  by_cases c : tp_gg r = r 11
  · have e11 : tp_st r 11 = r 11 := by
      unfold tp_st
      rw [if_pos c]
      split <;> rw [tp_un (by decide)]
    unfold tp_gg
    simp (disch := omega) only [tp_st_n, e11]
  · have : ¬ (¬ r 80 = 0 ∧ r 15 = 0) := by
      rintro ⟨a, b⟩
      apply c
      unfold tp_gg
      rw [if_neg a, if_pos b]
    unfold tp_gg
    simp (disch := omega) only [tp_st_n]
    split
    · rfl
    · split
      · exact absurd ⟨‹_›, ‹_›⟩ this
      · rfl
theorem tp_di_st {r : tp_R} (h : tp_Os r) (c : ¬ r 8 ≤ 0) : tp_di (tp_st r) + 1 = tp_di r := by
  have ho := (tp_pos h.1).mp c
  have ha := h.2.resolve_left c
  have hn : ¬ tp_at r = true := by rw [ha]; decide
  rw [tp_at_iff h.1 ho] at hn
  obtain ⟨q1, q2, -, -⟩ := tp_goal h.1 ho
  unfold tp_di
  rw [tp_gc_st, tp_gg_st]
  obtain ⟨a, a2, a1, a3⟩ := tp_xx q1
  obtain ⟨b, b2, b1, b3⟩ := tp_xx q2
  obtain ⟨x, x2, x1, x3⟩ := tp_xx (tp_r11 h.1.1)
  obtain ⟨d, d2, d1, d3⟩ := tp_xx (tp_r12 h.1.1)
  unfold tp_st
  unfold tp_cl at hn ⊢
  rw [a3, b3, x3, d3] at hn
  rw [a3, b3, x3, d3, a1, b1, x1, d1]
  simp (disch := omega) only [tp_eq, tp_le, tp_k0]
  by_cases e : a = x
  · subst e
    simp only [if_true]
    split
    · rw [tp_un (by decide), tp_us, x3, sb_m1 (by omega), tp_cn (by omega), if_pos rfl]; omega
    · rw [tp_un (by decide), tp_us, x3, nI_1, tp_cn (by omega), if_pos rfl]; omega
  · simp only [if_neg e]
    split
    · rw [tp_us, tp_un (by decide), tp_us, tp_k1, tp_cn (by omega), tp_cn (by omega), if_pos rfl]; omega
    · rw [tp_un (by decide), tp_us, x3, if_neg e, tp_k1, tp_sb (by omega), tp_cn (by omega)]; omega
theorem tp_pot_st {r : tp_R} : tp_pot (tp_st r) = tp_pot r := by
  unfold tp_pot
  simp (disch := omega) only [tp_st_n]
theorem tp_pot_pos {r : tp_R} (ho : 0 < tp_cl (r 8)) : 0 < tp_pot r := by
  unfold tp_pot
  split <;> omega
theorem tp_W_ha : ∀ (n : Nat) {r : tp_R}, tp_Ok r → tp_W (tp_ha n r) ≤ tp_W r
  | 0, _, _ => Nat.le_refl _
  | n + 1, r, h => by
    unfold tp_ha
    split
    · exact Nat.le_refl _
    · rename_i c
      split
      · rename_i ca
        have ho := (tp_pos h).mp c
        obtain ⟨k1, k2⟩ := tp_Ok_han h ho
        refine Nat.le_trans (tp_W_ha n k1) ?_
        unfold tp_W
        rw [if_neg c]
        split
        · omega
        · rename_i c2
          have ho2 := (tp_pos k1).mp c2
          have := tp_di_le k1 ho2
          have := tp_pot_pos ho2
          omega
      · exact Nat.le_refl _
theorem tp_W_le {r : tp_R} (h : tp_Ok r) : tp_W r ≤ 1440 := by
  unfold tp_W
  split
  · omega
  · have ho := (tp_pos h).mp ‹_›
    have := tp_di_le h ho
    have := tp_pot_le h
    omega
theorem tp_W_st {r : tp_R} (h : tp_Os r) (c : ¬ r 8 ≤ 0) : tp_W (tp_hal (tp_st r)) + 1 ≤ tp_W r := by
  have k := tp_W_ha 12 (tp_Os_st h c)
  have d := tp_di_st h c
  unfold tp_hal
  have e : tp_W (tp_st r) + 1 = tp_W r := by
    unfold tp_W
    rw [tp_st_n (by decide) (by decide), if_neg c, if_neg c, tp_pot_st]
    omega
  omega
theorem tp_W_0 {r : tp_R} (h : tp_Os r) (hw : tp_W r = 0) : r 8 ≤ 0 := by
  by_cases c : r 8 ≤ 0
  · exact c
  · have ho := (tp_pos h.1).mp c
    have ha := h.2.resolve_left c
    unfold tp_W at hw
    rw [if_neg c] at hw
    have := (tp_at_di h.1 ho).mpr (by omega)
    rw [ha] at this
    cases this
theorem tp_gs_end : ∀ (n : Nat) {r : tp_R}, tp_Os r → tp_W r ≤ n → tp_gs n r 8 ≤ 0
  | 0, r, h, hw => by
    show r 8 ≤ 0
    exact tp_W_0 h (by omega)
  | n + 1, r, h, hw => by
    unfold tp_gs
    split
    · assumption
    · have := tp_W_st h ‹_›
      exact tp_gs_end n (tp_Os_hal (tp_Os_st h ‹_›)) (by omega)
theorem tp_gn_le : ∀ (n : Nat) (r : tp_R), tp_gn n r ≤ n
  | 0, _ => Nat.le_refl _
  | n + 1, r => by
    unfold tp_gn
    split
    · omega
    · have := tp_gn_le n (tp_hal (tp_st r)); omega
