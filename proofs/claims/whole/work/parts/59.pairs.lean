/-! A call of the class beside the same call of the reference. -/
def tp_JJ (z : Nat) (u : tl_S) : Prop := ∃ (len : Nat) (tx now : tp_R) (hn : Nat) (hist : Nat → tp_R) (sl : Nat → Bool) (kp : Nat → tp_R), tp_CI z len tx now hn hist sl kp u ∧ tp_MI (z + 559) len tx now hn hist sl kp u ∧ tp_SO len tx now hn hist sl kp
def tl_o64 (z t : Nat) (r : Int32) (v : tl_S) : tl_S := if t = 0 then (v.1, v.2.1, tl_uL v.2.2 (z + 566) 0 r.toInt64) else v
def tp_St (z : Nat) (l : List Nat) (fc : tl_S → Option (Nat × Int32 × tl_S)) (fm : tl_S → Option (Int32 × tl_S)) (u : tl_S) : Prop :=
  ∃ t r v, fc u = some (t, r, v) ∧ (t = 0 ∨ t ∈ l) ∧ ∃ r2 w, fm (tl_o64 z t r v) = some (r2, w) ∧ w.1 (z + 559) 0 = nI (tp_cd l t) ∧ (t = 0 → r2 = r) ∧ w.2.2 = (tl_o64 z t r v).2.2 ∧ tp_JJ z w
def tp_Sn (z : Nat) (fc fm : tl_S → Option (Int32 × tl_S)) (u : tl_S) : Prop := ∃ r v w, fc u = some (r, v) ∧ fm v = some (r, w) ∧ tp_JJ z w
section TSA
variable {z len len2 : Nat} {tx now tx2 now2 : tp_R} {hn hn2 : Nat} {hist hist2 : Nat → tp_R} {sl sl2 : Nat → Bool} {kp kp2 : Nat → tp_R} {u v w : tl_S}
theorem tl_ov2 {t : Nat} {r : Int32} : (tl_o64 z t r v).1 = v.1 ∧ (tl_o64 z t r v).2.1 = v.2.1 := by
  unfold tl_o64
  split <;> exact ⟨rfl, rfl⟩
theorem tp_MI_c (h : tp_MI (z + 559) len tx now hn hist sl kp u) (e : ∀ q, z + 559 ≤ q → q < z + 566 → v.1 q = u.1 q) : tp_MI (z + 559) len tx now hn hist sl kp v := by
  obtain ⟨a1, a2, a3, a4, a5, a6, a7, a8⟩ := h
  have e0 := e (z + 559) (by omega) (by omega)
  have e1 := e (z + 559 + 1) (by omega) (by omega)
  have e2 := e (z + 559 + 2) (by omega) (by omega)
  have e3 := e (z + 559 + 3) (by omega) (by omega)
  have e4 := e (z + 559 + 4) (by omega) (by omega)
  have e5 := e (z + 559 + 5) (by omega) (by omega)
  have e6 := e (z + 559 + 6) (by omega) (by omega)
  exact ⟨by rw [e0]; exact a1, by rw [e1]; exact a2, by rw [e2]; exact a3, by rw [e3]; exact a4, by rw [e0]; exact a5, by rw [e4]; exact a6, by rw [e6]; exact a7, by rw [e5]; exact a8⟩
theorem tp_Mn_c2 {a : Nat} {r : tp_R} (h : tp_Mn a r u) (e1 : ∀ q, a ≤ q → q < a + 29 → v.1 q = u.1 q) (e2 : v.2.1 = u.2.1) : tp_Mn a r v := tp_Mn_f h (fun q h1 h2 => ⟨e1 q h1 h2, by rw [e2]⟩)
theorem tp_CI_c (h : tp_CI z len tx now hn hist sl kp u) (e1 : ∀ q, z ≤ q → q < z + 559 → v.1 q = u.1 q) (e2 : v.2.1 = u.2.1) : tp_CI z len tx now hn hist sl kp v := by
  obtain ⟨⟨a1, a2, a3, a4, a5, a6⟩, ⟨old, b1, b2, b3, b4⟩, b5⟩ := h
  refine ⟨⟨by rw [e1 (z + 1) (by omega) (by omega)]; exact a1, fun i hi => by rw [e1 (z + 2) (by omega) (by omega)]; exact a2 i hi, tp_Mn_c2 a3 (fun q h1 h2 => e1 q (by omega) (by omega)) e2, tp_Mn_c2 a4 (fun q h1 h2 => e1 q (by omega) (by omega)) e2, tp_Mp_f a5 (by rw [e2]), fun s hs => ?_⟩, ⟨old, b1, by rw [e1 (z + 91) (by omega) (by omega)]; exact b2, by rw [e1 (z + 91) (by omega) (by omega)]; exact b3, fun i hi => ?_⟩, fun j hj => tp_Mp_f (b5 j hj) (by rw [e2])⟩
  · obtain ⟨c1, c2, c3⟩ := a6 s hs
    exact ⟨tp_Mp_f c1 (by rw [e2]), by rw [e1 (z + 500) (by omega) (by omega)]; exact c2, fun q => tp_Mn_c2 (c3 q) (fun q h1 h2 => e1 q (by unfold tp_ks at h1; omega) (by unfold tp_ks at h2; omega)) e2⟩
  · have : (old + i) % 14 < 14 := Nat.mod_lt _ (by decide)
    exact tp_Mn_c2 (b4 i hi) (fun q h1 h2 => e1 q (by unfold tp_hs at h1; omega) (by unfold tp_hs at h2; omega)) e2
theorem tx_of {l : List Nat} {t k : Nat} {x : Int32} {fc : tl_S → Option (Nat × Int32 × tl_S)} {fm : tl_S → Option (Int32 × tl_S)} (hM : tp_MI (z + 559) len tx now hn hist sl kp u) (hS : tp_SO len2 tx2 now2 hn2 hist2 sl2 kp2)
    (hA : tp_T (fc u) (tp_CA z u t x len2 tx2 now2 hn2 hist2 sl2 kp2)) (hR : ∀ v, tp_MI (z + 559) len tx now hn hist sl kp v → tp_T (fm v) (tp_QQ (z + 559) v k x len2 tx2 now2 hn2 hist2 sl2 kp2)) (hk : k = tp_cd l t) (hl : t = 0 ∨ t ∈ l) (h0 : t = 0 → k = 0) : tp_St z l fc fm u := by
  obtain ⟨⟨t', r, v⟩, e1, a1, a2, a3, a4⟩ := hA
  have a1 : t' = t := a1
  subst a1
  have a2 : t' = 0 → r = x := a2
  have a3 : tp_FR (tp_ZS z) u v := a3
  have a4 : tp_CI z len2 tx2 now2 hn2 hist2 sl2 kp2 v := a4
  obtain ⟨o1, o2⟩ := tl_ov2 (z := z) (v := v) (t := t') (r := r)
  have hM2 : tp_MI (z + 559) len tx now hn hist sl kp (tl_o64 z t' r v) := tp_MI_c hM (fun q h1 h2 => by rw [o1]; exact (a3.1 q (by unfold tp_ZS; omega)).1)
  obtain ⟨⟨r2, w⟩, e2, b1, b2, b3, b4⟩ := hR _ hM2
  have b1 : w.1 (z + 559) 0 = nI k := b1
  have b2 : tp_FM (z + 559) (tl_o64 z t' r v) w := b2
  have b3 : k = 0 → r2 = x := b3
  refine ⟨t', r, v, e1, hl, r2, w, e2, by rw [b1, hk], fun q => (b3 (h0 q)).trans (a2 q).symm, by rw [b2.2], _, _, _, _, _, _, _, ?_, b4, hS⟩
  exact tp_CI_c a4 (fun q h1 h2 => by rw [b2.1 q (by omega), o1]) (by rw [b2.2, o2])
theorem tx_ofn {x : Int32} {fc fm : tl_S → Option (Int32 × tl_S)} (hM : tp_MI (z + 559) len tx now hn hist sl kp u) (hS : tp_SO len2 tx2 now2 hn2 hist2 sl2 kp2)
    (hA : tp_T (fc u) (fun p => tp_CA z u 0 x len2 tx2 now2 hn2 hist2 sl2 kp2 (0, p.1, p.2))) (hR : ∀ v, tp_MI (z + 559) len tx now hn hist sl kp v → tp_T (fm v) (tp_QQ (z + 559) v 0 x len2 tx2 now2 hn2 hist2 sl2 kp2)) : tp_Sn z fc fm u := by
  obtain ⟨⟨r, v⟩, e1, a1, a2, a3, a4⟩ := hA
  have a2 : (0 : Nat) = 0 → r = x := a2
  have a3 : tp_FR (tp_ZS z) u v := a3
  have a4 : tp_CI z len2 tx2 now2 hn2 hist2 sl2 kp2 v := a4
  have hM2 : tp_MI (z + 559) len tx now hn hist sl kp v := tp_MI_c hM (fun q h1 h2 => (a3.1 q (by unfold tp_ZS; omega)).1)
  obtain ⟨⟨r2, w⟩, e2, b1, b2, b3, b4⟩ := hR _ hM2
  have b2 : tp_FM (z + 559) v w := b2
  have b3 : (0 : Nat) = 0 → r2 = x := b3
  have er : r2 = r := (b3 rfl).trans (a2 rfl).symm
  subst er
  exact ⟨r2, v, w, e1, e2, _, _, _, _, _, _, _, tp_CI_c a4 (fun q h1 h2 => b2.1 q (by omega)) (by rw [b2.2]), b4, hS⟩
theorem tp_cond {α : Type} {o : Option α} {P Q : α → Prop} (h : tp_T o P) (e : ∀ p, P p = Q p) : tp_T o Q := tp_mono h (fun p hp => e p ▸ hp)

theorem tx_about (h : tp_JJ z u) {w : Int32} : tp_St z [2] (f9_about z w) (f10_about (z + 559) w) u := by
  obtain ⟨len, tx, now, hn, hist, sl, kp, hC, hM, hS⟩ := h
  rcases e : tp_iw w 0 12 with _ | _
  · exact tx_of (t := 2) (k := 1) (x := 0) hM hS (tp_cond (tc_about hC hS) (fun p => by simp only [e, Bool.false_eq_true, if_false])) (fun v hv => tp_cond (tm_about hv hS) (fun p => by simp only [e, Bool.false_eq_true, if_false])) rfl (Or.inr (by decide)) (fun z => absurd z (by decide))
  · exact tx_of (t := 0) (k := 0) (x := tp_ab now (tp_cl w)) hM hS (tp_cond (tc_about hC hS) (fun p => by simp only [e, if_true])) (fun v hv => tp_cond (tm_about hv hS) (fun p => by simp only [e, if_true])) rfl (Or.inl rfl) (fun _ => rfl)
theorem tx_lad (h : tp_JJ z u) {w : Int32} : tp_St z [2] (f9_lad z w) (f10_lad (z + 559) w) u := by
  obtain ⟨len, tx, now, hn, hist, sl, kp, hC, hM, hS⟩ := h
  rcases e : tp_iw w 0 3 with _ | _
  · exact tx_of (t := 2) (k := 1) (x := 0) hM hS (tp_cond (tc_lad hC hS) (fun p => by simp only [e, Bool.false_eq_true, if_false])) (fun v hv => tp_cond (tm_lad hv hS) (fun p => by simp only [e, Bool.false_eq_true, if_false])) rfl (Or.inr (by decide)) (fun z => absurd z (by decide))
  · exact tx_of (t := 0) (k := 0) (x := tp_dq now (tp_cl w)) hM hS (tp_cond (tc_lad hC hS) (fun p => by simp only [e, if_true])) (fun v hv => tp_cond (tm_lad hv hS) (fun p => by simp only [e, if_true])) rfl (Or.inl rfl) (fun _ => rfl)
theorem tx_darkIn (h : tp_JJ z u) {g : Int32} : tp_St z [1] (f9_darkIn z g) (f10_darkIn (z + 559) g) u := by
  obtain ⟨len, tx, now, hn, hist, sl, kp, hC, hM, hS⟩ := h
  rcases e : tp_ig now g with _ | _
  · exact tx_of (t := 1) (k := 1) (x := 0) hM hS (tp_cond (tc_darkIn hC hS) (fun p => by simp only [e, Bool.false_eq_true, if_false])) (fun v hv => tp_cond (tm_darkIn hv hS) (fun p => by simp only [e, Bool.false_eq_true, if_false])) rfl (Or.inr (by decide)) (fun z => absurd z (by decide))
  · exact tx_of (t := 0) (k := 0) (x := tp_dkn (tp_cl g) 201 0 now) hM hS (tp_cond (tc_darkIn hC hS) (fun p => by simp only [e, if_true])) (fun v hv => tp_cond (tm_darkIn hv hS) (fun p => by simp only [e, if_true])) rfl (Or.inl rfl) (fun _ => rfl)
theorem tx_steps (h : tp_JJ z u) {g c g2 c2 : Int32} : tp_St z [1] (f9_steps z g c g2 c2) (f10_steps (z + 559) g c g2 c2) u := by
  obtain ⟨len, tx, now, hn, hist, sl, kp, hC, hM, hS⟩ := h
  rcases e : (tp_ic now g c && tp_ic now g2 c2) with _ | _
  · exact tx_of (t := 1) (k := 1) (x := 0) hM hS (tp_cond (tc_steps hC hS) (fun p => by simp only [e, Bool.false_eq_true, if_false])) (fun v hv => tp_cond (tm_steps hv hS) (fun p => by simp only [e, Bool.false_eq_true, if_false])) rfl (Or.inr (by decide)) (fun z => absurd z (by decide))
  · exact tx_of (t := 0) (k := 0) (x := tp_bt g c g2 c2) hM hS (tp_cond (tc_steps hC hS) (fun p => by simp only [e, if_true])) (fun v hv => tp_cond (tm_steps hv hS) (fun p => by simp only [e, if_true])) rfl (Or.inl rfl) (fun _ => rfl)
theorem tx_simulate (h : tp_JJ z u) {x : Int64} {n : Int32} : tp_St z [2] (f9_simulate z x n) (f10_simulate (z + 559) x n) u := by
  obtain ⟨len, tx, now, hn, hist, sl, kp, hC, hM, hS⟩ := h
  rcases e : tp_iw n 1 60 with _ | _
  · exact tx_of (t := 2) (k := 1) (x := 0) hM hS (tp_cond (tc_simulate hC hS) (fun p => by simp only [e, Bool.false_eq_true, if_false])) (fun v hv => tp_cond (tm_simulate hv hS) (fun p => by simp only [e, Bool.false_eq_true, if_false])) rfl (Or.inr (by decide)) (fun z => absurd z (by decide))
  · exact tx_of (t := 0) (k := 0) (x := tp_sq2 (tp_sm (tp_cl n) x now) now) hM hS (tp_cond (tc_simulate hC hS) (fun p => by simp only [e, if_true])) (fun v hv => tp_cond (tm_simulate hv hS) (fun p => by simp only [e, if_true])) rfl (Or.inl rfl) (fun _ => rfl)
theorem tx_galleryOf (h : tp_JJ z u) {g w : Int32} : tp_St z [1, 2] (f9_galleryOf z g w) (f10_galleryOf (z + 559) g w) u := by
  obtain ⟨len, tx, now, hn, hist, sl, kp, hC, hM, hS⟩ := h
  rcases e : tp_ig now g with _ | _
  · exact tx_of (t := 1) (k := 1) (x := 0) hM hS (tp_cond (tc_galleryOf hC hS) (fun p => by simp only [e, Bool.false_eq_true, if_false])) (fun v hv => tp_cond (tm_galleryOf hv hS) (fun p => by simp only [e, Bool.false_eq_true, if_false])) rfl (Or.inr (by decide)) (fun z => absurd z (by decide))
  · rcases e2 : tp_iw w 0 5 with _ | _
    · exact tx_of (t := 2) (k := 2) (x := 0) hM hS (tp_cond (tc_galleryOf hC hS) (fun p => by simp only [e, e2, Bool.false_eq_true, if_false, if_true])) (fun v hv => tp_cond (tm_galleryOf hv hS) (fun p => by simp only [e, e2, Bool.false_eq_true, if_false, if_true])) rfl (Or.inr (by decide)) (fun z => absurd z (by decide))
    · exact tx_of (t := 0) (k := 0) (x := tp_gq now (tp_cl g) (tp_cl w)) hM hS (tp_cond (tc_galleryOf hC hS) (fun p => by simp only [e, e2, if_true])) (fun v hv => tp_cond (tm_galleryOf hv hS) (fun p => by simp only [e, e2, if_true])) rfl (Or.inl rfl) (fun _ => rfl)
theorem tx_minerOf (h : tp_JJ z u) {g w : Int32} : tp_St z [1, 2] (f9_minerOf z g w) (f10_minerOf (z + 559) g w) u := by
  obtain ⟨len, tx, now, hn, hist, sl, kp, hC, hM, hS⟩ := h
  rcases e : tp_im now g with _ | _
  · exact tx_of (t := 1) (k := 1) (x := 0) hM hS (tp_cond (tc_minerOf hC hS) (fun p => by simp only [e, Bool.false_eq_true, if_false])) (fun v hv => tp_cond (tm_minerOf hv hS) (fun p => by simp only [e, Bool.false_eq_true, if_false])) rfl (Or.inr (by decide)) (fun z => absurd z (by decide))
  · rcases e2 : tp_iw w 0 3 with _ | _
    · exact tx_of (t := 2) (k := 2) (x := 0) hM hS (tp_cond (tc_minerOf hC hS) (fun p => by simp only [e, e2, Bool.false_eq_true, if_false, if_true])) (fun v hv => tp_cond (tm_minerOf hv hS) (fun p => by simp only [e, e2, Bool.false_eq_true, if_false, if_true])) rfl (Or.inr (by decide)) (fun z => absurd z (by decide))
    · exact tx_of (t := 0) (k := 0) (x := now (24 + 4 * tp_cl g + tp_cl w)) hM hS (tp_cond (tc_minerOf hC hS) (fun p => by simp only [e, e2, if_true])) (fun v hv => tp_cond (tm_minerOf hv hS) (fun p => by simp only [e, e2, if_true])) rfl (Or.inl rfl) (fun _ => rfl)
theorem tx_lampOf (h : tp_JJ z u) {g w : Int32} : tp_St z [1, 2] (f9_lampOf z g w) (f10_lampOf (z + 559) g w) u := by
  obtain ⟨len, tx, now, hn, hist, sl, kp, hC, hM, hS⟩ := h
  rcases e : tp_il now g with _ | _
  · exact tx_of (t := 1) (k := 1) (x := 0) hM hS (tp_cond (tc_lampOf hC hS) (fun p => by simp only [e, Bool.false_eq_true, if_false])) (fun v hv => tp_cond (tm_lampOf hv hS) (fun p => by simp only [e, Bool.false_eq_true, if_false])) rfl (Or.inr (by decide)) (fun z => absurd z (by decide))
  · rcases e2 : tp_iw w 0 4 with _ | _
    · exact tx_of (t := 2) (k := 2) (x := 0) hM hS (tp_cond (tc_lampOf hC hS) (fun p => by simp only [e, e2, Bool.false_eq_true, if_false, if_true])) (fun v hv => tp_cond (tm_lampOf hv hS) (fun p => by simp only [e, e2, Bool.false_eq_true, if_false, if_true])) rfl (Or.inr (by decide)) (fun z => absurd z (by decide))
    · exact tx_of (t := 0) (k := 0) (x := tp_lq now (tp_cl g) (tp_cl w)) hM hS (tp_cond (tc_lampOf hC hS) (fun p => by simp only [e, e2, if_true])) (fun v hv => tp_cond (tm_lampOf hv hS) (fun p => by simp only [e, e2, if_true])) rfl (Or.inl rfl) (fun _ => rfl)
theorem tx_orderOf (h : tp_JJ z u) {g w : Int32} : tp_St z [1, 2] (f9_orderOf z g w) (f10_orderOf (z + 559) g w) u := by
  obtain ⟨len, tx, now, hn, hist, sl, kp, hC, hM, hS⟩ := h
  rcases e : tp_io now g with _ | _
  · exact tx_of (t := 1) (k := 1) (x := 0) hM hS (tp_cond (tc_orderOf hC hS) (fun p => by simp only [e, Bool.false_eq_true, if_false])) (fun v hv => tp_cond (tm_orderOf hv hS) (fun p => by simp only [e, Bool.false_eq_true, if_false])) rfl (Or.inr (by decide)) (fun z => absurd z (by decide))
  · rcases e2 : tp_iw w 0 3 with _ | _
    · exact tx_of (t := 2) (k := 2) (x := 0) hM hS (tp_cond (tc_orderOf hC hS) (fun p => by simp only [e, e2, Bool.false_eq_true, if_false, if_true])) (fun v hv => tp_cond (tm_orderOf hv hS) (fun p => by simp only [e, e2, Bool.false_eq_true, if_false, if_true])) rfl (Or.inr (by decide)) (fun z => absurd z (by decide))
    · exact tx_of (t := 0) (k := 0) (x := now (80 + 4 * tp_cl g + tp_cl w)) hM hS (tp_cond (tc_orderOf hC hS) (fun p => by simp only [e, e2, if_true])) (fun v hv => tp_cond (tm_orderOf hv hS) (fun p => by simp only [e, e2, if_true])) rfl (Or.inl rfl) (fun _ => rfl)
theorem tx_lit (h : tp_JJ z u) {g w : Int32} : tp_St z [1, 2] (f9_lit z g w) (f10_lit (z + 559) g w) u := by
  obtain ⟨len, tx, now, hn, hist, sl, kp, hC, hM, hS⟩ := h
  rcases e : tp_ig now g with _ | _
  · exact tx_of (t := 1) (k := 1) (x := 0) hM hS (tp_cond (tc_lit hC hS) (fun p => by simp only [e, Bool.false_eq_true, if_false])) (fun v hv => tp_cond (tm_lit hv hS) (fun p => by simp only [e, Bool.false_eq_true, if_false])) rfl (Or.inr (by decide)) (fun z => absurd z (by decide))
  · rcases e2 : tp_iw w 0 1 with _ | _
    · exact tx_of (t := 2) (k := 2) (x := 0) hM hS (tp_cond (tc_lit hC hS) (fun p => by simp only [e, e2, Bool.false_eq_true, if_false, if_true])) (fun v hv => tp_cond (tm_lit hv hS) (fun p => by simp only [e, e2, Bool.false_eq_true, if_false, if_true])) rfl (Or.inr (by decide)) (fun z => absurd z (by decide))
    · exact tx_of (t := 0) (k := 0) (x := nI (tp_litn now (tp_cl g))) hM hS (tp_cond (tc_lit hC hS) (fun p => by simp only [e, e2, if_true])) (fun v hv => tp_cond (tm_lit hv hS) (fun p => by simp only [e, e2, if_true])) rfl (Or.inl rfl) (fun _ => rfl)
theorem tx_depthIn (h : tp_JJ z u) {g n : Int32} : tp_St z [1, 2] (f9_depthIn z g n) (f10_depthIn (z + 559) g n) u := by
  obtain ⟨len, tx, now, hn, hist, sl, kp, hC, hM, hS⟩ := h
  rcases e : tp_ig now g with _ | _
  · exact tx_of (t := 1) (k := 1) (x := 0) hM hS (tp_cond (tc_depthIn hC hS) (fun p => by simp only [e, Bool.false_eq_true, if_false])) (fun v hv => tp_cond (tm_depthIn hv hS) (fun p => by simp only [e, Bool.false_eq_true, if_false])) rfl (Or.inr (by decide)) (fun z => absurd z (by decide))
  · rcases e2 : tp_iw n 1 200 with _ | _
    · exact tx_of (t := 2) (k := 2) (x := 0) hM hS (tp_cond (tc_depthIn hC hS) (fun p => by simp only [e, e2, Bool.false_eq_true, if_false, if_true])) (fun v hv => tp_cond (tm_depthIn hv hS) (fun p => by simp only [e, e2, Bool.false_eq_true, if_false, if_true])) rfl (Or.inr (by decide)) (fun z => absurd z (by decide))
    · exact tx_of (t := 0) (k := 0) (x := tp_hrs (tp_cl n) now (18 + 2 * tp_cl g)) hM hS (tp_cond (tc_depthIn hC hS) (fun p => by simp only [e, e2, if_true])) (fun v hv => tp_cond (tm_depthIn hv hS) (fun p => by simp only [e, e2, if_true])) rfl (Or.inl rfl) (fun _ => rfl)
theorem tx_append (h : tp_JJ z u) {a : Int32} : tp_St z [2, 3] (f9_append z a) (f10_append (z + 559) a) u := by
  obtain ⟨len, tx, now, hn, hist, sl, kp, hC, hM, hS⟩ := h
  rcases e : tp_iw a 0 255 with _ | _
  · exact tx_of (t := 2) (k := 1) (x := 0) hM hS (tp_cond (tc_append hC hS) (fun p => by simp only [e, Bool.false_eq_true, if_false])) (fun v hv => tp_cond (tm_append hv hS) (fun p => by simp only [e, Bool.false_eq_true, if_false])) rfl (Or.inr (by decide)) (fun z => absurd z (by decide))
  · by_cases c : len = 120
    · exact tx_of (t := 3) (k := 2) (x := 0) hM hS (tp_cond (tc_append hC hS) (fun p => by simp only [e, if_true, if_pos c])) (fun v hv => tp_cond (tm_append hv hS) (fun p => by simp only [e, if_true, if_pos c])) rfl (Or.inr (by decide)) (fun z => absurd z (by decide))
    · obtain ⟨s1, s2, s3⟩ := id hS
      have S2 : tp_SO (len + 1) (tp_up tx len a) now hn hist sl kp := by
        refine ⟨by omega, fun i hi => ?_, s3⟩
        unfold tp_up
        by_cases q : i = len
        · rw [if_pos q]
          obtain ⟨n, -, n1, n2⟩ := tp_iw_N (L := 0) (B := 255) rfl rfl (by decide) (by decide) e
          exact ⟨n, n1, n2⟩
        · rw [if_neg q]; exact s2 i (by omega)
      exact tx_of (t := 0) (k := 0) (x := nI (len + 1)) hM S2 (tp_cond (tc_append hC hS) (fun p => by simp only [e, if_true, if_neg c])) (fun v hv => tp_cond (tm_append hv hS) (fun p => by simp only [e, if_true, if_neg c])) rfl (Or.inl rfl) (fun _ => rfl)
theorem tx_clearText (h : tp_JJ z u) : tp_Sn z (f9_clearText z) (f10_clearText (z + 559)) u := by
  obtain ⟨len, tx, now, hn, hist, sl, kp, hC, hM, hS⟩ := h
  exact tx_ofn hM ⟨Nat.zero_le _, fun i hi => absurd hi (Nat.not_lt_zero _), hS.2.2⟩ (tc_clearText hC) (fun v hv => tm_clearText hv)
theorem tx_errorPosition (h : tp_JJ z u) : tp_Sn z (f9_errorPosition z) (f10_errorPosition (z + 559)) u := by
  obtain ⟨len, tx, now, hn, hist, sl, kp, hC, hM, hS⟩ := h
  exact tx_ofn hM hS (tc_errorPosition hC hS) (fun v hv => tm_errorPosition hv hS)
theorem tx_doneIn (h : tp_JJ z u) : tp_Sn z (f9_doneIn z) (f10_doneIn (z + 559)) u := by
  obtain ⟨len, tx, now, hn, hist, sl, kp, hC, hM, hS⟩ := h
  exact tx_ofn hM hS (tc_doneIn hC hS) (fun v hv => tm_doneIn hv hS)
theorem tx_load (h : tp_JJ z u) : tp_St z [3] (f9_load z) (f10_load (z + 559)) u := by
  obtain ⟨len, tx, now, hn, hist, sl, kp, hC, hM, hS⟩ := h
  by_cases e : (tp_txt tx len).1 = -1
  · have S2 : tp_SO len tx (tp_txt tx len).2.1 0 hist (fun _ => false) kp := ⟨hS.1, hS.2.1, tp_Ok_txt, Nat.zero_le _, fun i hi => absurd hi (Nat.not_lt_zero _), fun s hs q => absurd (show false = true from q) (by decide)⟩
    exact tx_of (t := 0) (k := 0) (x := (tp_txt tx len).2.2) hM S2 (tp_cond (tc_load hC hS) (fun p => by simp only [if_pos e])) (fun v hv => tp_cond (tm_load hv hS) (fun p => by simp only [if_pos e])) rfl (Or.inl rfl) (fun _ => rfl)
  · exact tx_of (t := 3) (k := 1) (x := 0) hM hS (tp_cond (tc_load hC hS) (fun p => by simp only [if_neg e])) (fun v hv => tp_cond (tm_load hv hS) (fun p => by simp only [if_neg e])) rfl (Or.inr (by decide)) (fun z => absurd z (by decide))
theorem tx_undo (h : tp_JJ z u) : tp_St z [3] (f9_undo z) (f10_undo (z + 559)) u := by
  obtain ⟨len, tx, now, hn, hist, sl, kp, hC, hM, hS⟩ := h
  by_cases e : hn = 0
  · exact tx_of (t := 3) (k := 1) (x := 0) hM hS (tp_cond (tc_undo hC hS) (fun p => by simp only [if_pos e])) (fun v hv => tp_cond (tm_undo hv hS) (fun p => by simp only [if_pos e])) rfl (Or.inr (by decide)) (fun z => absurd z (by decide))
  · obtain ⟨s1, s2, s3, s4, s5, s6⟩ := id hS
    have S2 : tp_SO len tx (hist (hn - 1)) (hn - 1) hist sl kp := ⟨s1, s2, s5 _ (by omega), by omega, fun i hi => s5 i (by omega), s6⟩
    exact tx_of (t := 0) (k := 0) (x := nI (hn - 1)) hM S2 (tp_cond (tc_undo hC hS) (fun p => by simp only [if_neg e])) (fun v hv => tp_cond (tm_undo hv hS) (fun p => by simp only [if_neg e])) rfl (Or.inl rfl) (fun _ => rfl)
theorem tx_bestCell (h : tp_JJ z u) {l g n : Int32} : tp_St z [1, 2, 3] (f9_bestCell z l g n) (f10_bestCell (z + 559) l g n) u := by
  obtain ⟨len, tx, now, hn, hist, sl, kp, hC, hM, hS⟩ := h
  have hc : ∀ e i p : Bool, tp_ro e i p = tp_cd [1, 2, 3] (tp_ro e i p) ∧ (tp_ro e i p = 0 ∨ tp_ro e i p ∈ [1, 2, 3]) := by decide
  exact tx_of hM hS (tc_bestCell hC hS) (fun v hv => tm_bestCell hv hS) (hc _ _ _).1 (hc _ _ _).2 (fun z => z)
theorem tx_runScript (h : tp_JJ z u) {n : Int32} {s : Int64} : tp_St z [2] (f9_runScript z n s) (f10_runScript (z + 559) n s) u := by
  obtain ⟨len, tx, now, hn, hist, sl, kp, hC, hM, hS⟩ := h
  by_cases e : tp_rsk n s
  · obtain ⟨N, SS, h1, h2, h3, h4, h5⟩ := id e
    have hu : ∀ N2 S2, N2 ≤ 3 → n = nI N2 → s = lN S2 → S2 < 1000000 ^ N2 → N2 = N ∧ S2 = SS := by
      intro N2 S2 g1 g2 g3 g4
      have e1 : N2 = N := (tp_eq (by omega) (by omega)).mp (g2.symm.trans h3)
      subst e1
      have := (tp_pw_le (j := N2) h2).1
      have e2 : (lN S2 = lN SS) = (S2 = SS) := propext (pk_lEQ (by omega) (by omega))
      exact ⟨rfl, e2.mp (g3.symm.trans h4)⟩
    refine tx_of (t := 0) (k := 0) (x := tp_srn SS N 0 now) hM hS (tp_mono (tc_runScript hC hS) (fun p hp => ?_)) (fun v hv => tp_mono (tm_runScript hv hS) (fun p hp => ?_)) rfl (Or.inl rfl) (fun _ => rfl)
    · rcases hp with ⟨N2, S2, g1, g2, g3, g4, g5, g6⟩ | ⟨g1, g2⟩
      · obtain ⟨e1, e2⟩ := hu N2 S2 g2 g3 g4 g5
        subst e1
        subst e2
        exact g6
      · exact absurd e g1
    · rcases hp with ⟨N2, S2, g1, g2, g3, g4, g5, g6⟩ | ⟨g1, g2⟩
      · obtain ⟨e1, e2⟩ := hu N2 S2 g2 g3 g4 g5
        subst e1
        subst e2
        exact g6
      · exact absurd e g1
  · refine tx_of (t := 2) (k := 1) (x := 0) hM hS (tp_mono (tc_runScript hC hS) (fun p hp => ?_)) (fun v hv => tp_mono (tm_runScript hv hS) (fun p hp => ?_)) rfl (Or.inr (by decide)) (fun z => absurd z (by decide))
    · rcases hp with ⟨N2, S2, g1, g2, g3, g4, g5, g6⟩ | ⟨g1, g2⟩
      · exact absurd ⟨N2, S2, g1, g2, g3, g4, g5⟩ e
      · exact g2
    · rcases hp with ⟨N2, S2, g1, g2, g3, g4, g5, g6⟩ | ⟨g1, g2⟩
      · exact absurd ⟨N2, S2, g1, g2, g3, g4, g5⟩ e
      · exact g2
theorem tx_save (h : tp_JJ z u) {s : Int32} : tp_St z [1] (f9_save z s) (f10_save (z + 559) s) u := by
  obtain ⟨len, tx, now, hn, hist, sl, kp, hC, hM, hS⟩ := h
  rcases e : tp_iw s 0 1 with _ | _
  · exact tx_of (t := 1) (k := 1) (x := 0) hM hS (tp_cond (tc_save hC hS) (fun p => by simp only [e, Bool.false_eq_true, if_false])) (fun v hv => tp_cond (tm_save hv hS) (fun p => by simp only [e, Bool.false_eq_true, if_false])) rfl (Or.inr (by decide)) (fun z => absurd z (by decide))
  · obtain ⟨s1, s2, s3, s4, s5, s6⟩ := id hS
    have S2 : tp_SO len tx now hn hist (tp_sl2 sl (tp_cl s)) (tp_kp2 kp (tp_cl s) now) := by
      refine ⟨s1, s2, s3, s4, s5, fun i hi q => ?_⟩
      unfold tp_kp2
      unfold tp_sl2 at q
      by_cases c : i = tp_cl s
      · rw [if_pos c]; exact s3
      · rw [if_neg c] at q ⊢
        exact s6 i hi q
    exact tx_of (t := 0) (k := 0) (x := now 3) hM S2 (tp_cond (tc_save hC hS) (fun p => by simp only [e, if_true])) (fun v hv => tp_cond (tm_save hv hS) (fun p => by simp only [e, if_true])) rfl (Or.inl rfl) (fun _ => rfl)
theorem tx_restore (h : tp_JJ z u) {s : Int32} : tp_St z [1, 3] (f9_restore z s) (f10_restore (z + 559) s) u := by
  obtain ⟨len, tx, now, hn, hist, sl, kp, hC, hM, hS⟩ := h
  rcases e : tp_iw s 0 1 with _ | _
  · exact tx_of (t := 1) (k := 1) (x := 0) hM hS (tp_cond (tc_restore hC hS) (fun p => by simp only [e, Bool.false_eq_true, if_false])) (fun v hv => tp_cond (tm_restore hv hS) (fun p => by simp only [e, Bool.false_eq_true, if_false])) rfl (Or.inr (by decide)) (fun z => absurd z (by decide))
  · rcases e2 : sl (tp_cl s) with _ | _
    · exact tx_of (t := 3) (k := 2) (x := 0) hM hS (tp_cond (tc_restore hC hS) (fun p => by simp only [e, e2, Bool.false_eq_true, if_false, if_true])) (fun v hv => tp_cond (tm_restore hv hS) (fun p => by simp only [e, e2, Bool.false_eq_true, if_false, if_true])) rfl (Or.inr (by decide)) (fun z => absurd z (by decide))
    · obtain ⟨s1, s2, s3, s4, s5, s6⟩ := id hS
      obtain ⟨n, -, n1, hn1⟩ := tp_iw_N (L := 0) (B := 1) rfl rfl (by decide) (by decide) e
      have hcl : tp_cl s < 2 := by
        rw [hn1]
        unfold tp_cl
        rw [tp_cn (by omega)]; omega
      have S2 : tp_SO len tx (kp (tp_cl s)) 0 hist sl kp := ⟨s1, s2, s6 _ hcl e2, Nat.zero_le _, fun i hi => absurd hi (Nat.not_lt_zero _), s6⟩
      exact tx_of (t := 0) (k := 0) (x := kp (tp_cl s) 3) hM S2 (tp_cond (tc_restore hC hS) (fun p => by simp only [e, e2, if_true])) (fun v hv => tp_cond (tm_restore hv hS) (fun p => by simp only [e, e2, if_true])) rfl (Or.inl rfl) (fun _ => rfl)
theorem tx_act {l : List Nat} {q : Nat} {A B C D : Int32} {fc : tl_S → Option (Nat × Int32 × tl_S)} {fm : tl_S → Option (Int32 × tl_S)} (hM : tp_MI (z + 559) len tx now hn hist sl kp u) (hS : tp_SO len tx now hn hist sl kp) (hA : tp_T (fc u) (tp_CB z u q A B C D len tx now hn hist sl kp)) (hR : ∀ v, tp_MI (z + 559) len tx now hn hist sl kp v → tp_T (fm v) (tp_AQ (z + 559) v l q A B C D len tx now hn hist sl kp)) (h0 : 0 ∉ l) (hl : tp_rf q A B C D now = 0 ∨ tp_rf q A B C D now ∈ l) : tp_St z l fc fm u := by
  by_cases c : tp_rf q A B C D now = 0
  · refine tx_of (t := 0) (k := 0) (x := tp_pa q A B now) hM (tp_SO_push hS (tp_Ok_pf hS.2.2.1 c)) (tp_mono hA (fun p hp => hp.2 c)) (fun v hv => tp_mono (hR v hv) (fun p hp => ?_)) (tp_cd0 l h0).symm (Or.inl rfl) (fun _ => rfl)
    obtain ⟨p1, p2, p3, p4⟩ := hp
    rw [c, tp_cd0 l h0] at p1
    exact ⟨p1, p2, fun _ => (p3 c).1, (p3 c).2⟩
  · refine tx_of (t := tp_rf q A B C D now) (k := tp_cd l (tp_rf q A B C D now)) (x := 0) hM hS (tp_mono hA (fun p hp => hp.1 c)) (fun v hv => tp_mono (hR v hv) (fun p hp => ?_)) rfl hl (fun z => absurd z c)
    obtain ⟨p1, p2, p3, p4⟩ := hp
    refine ⟨p1, p2, fun k0 => ?_, p4 c⟩
    exfalso
    have hk : ∀ (l : List Nat) (t : Nat), t ∈ l → tp_cd l t ≠ 0 := by
      intro l
      induction l with
      | nil => intro t h; cases h
      | cons a l ih =>
        intro t h
        unfold tp_cd
        by_cases e : t = a
        · rw [if_pos e]; decide
        · rw [if_neg e]
          have := ih t ((List.mem_cons.mp h).resolve_left e)
          rw [if_neg this]; omega
    exact hk l _ (hl.resolve_left c) k0

theorem tx_gallery (h : tp_JJ z u) {a : Int32} : tp_St z [2, 3] (f9_gallery z a) (f10_gallery (z + 559) a) u := by
  obtain ⟨len, tx, now, hn, hist, sl, kp, hC, hM, hS⟩ := h
  have hc : ∀ i p : Bool, tp_ro true i p = 0 ∨ tp_ro true i p ∈ [2, 3] := by decide
  refine tx_act hM hS (tc_cgallery hC hS) (fun v hv => tm_gallery hv hS) (by decide) ?_
  unfold tp_rf
  rw [if_pos rfl]
  exact hc _ _
theorem tx_miner (h : tp_JJ z u) {a b : Int32} : tp_St z [1, 2, 3] (f9_miner z a b) (f10_miner (z + 559) a b) u := by
  obtain ⟨len, tx, now, hn, hist, sl, kp, hC, hM, hS⟩ := h
  have hc : ∀ e i p : Bool, tp_ro e i p = 0 ∨ tp_ro e i p ∈ [1, 2, 3] := by decide
  refine tx_act hM hS (tc_cminer hC hS) (fun v hv => tm_miner hv hS) (by decide) ?_
  unfold tp_rf
  rw [if_neg (by decide), if_pos rfl]
  exact hc _ _ _
theorem tx_send (h : tp_JJ z u) {a b : Int32} : tp_St z [1] (f9_send z a b) (f10_send (z + 559) a b) u := by
  obtain ⟨len, tx, now, hn, hist, sl, kp, hC, hM, hS⟩ := h
  have hc : ∀ e : Bool, tp_ro e true true = 0 ∨ tp_ro e true true ∈ [1] := by decide
  refine tx_act hM hS (tc_csend hC hS) (fun v hv => tm_send hv hS) (by decide) ?_
  unfold tp_rf
  rw [if_neg (by decide), if_neg (by decide), if_pos rfl]
  exact hc _
theorem tx_lamp (h : tp_JJ z u) {a b c d : Int32} : tp_St z [1, 2, 3] (f9_lamp z a b c d) (f10_lamp (z + 559) a b c d) u := by
  obtain ⟨len, tx, now, hn, hist, sl, kp, hC, hM, hS⟩ := h
  have hc : ∀ e i p : Bool, tp_ro e i p = 0 ∨ tp_ro e i p ∈ [1, 2, 3] := by decide
  refine tx_act hM hS (tc_clamp hC hS) (fun v hv => tm_lamp hv hS) (by decide) ?_
  unfold tp_rf
  rw [if_neg (by decide), if_neg (by decide), if_neg (by decide), if_pos rfl]
  exact hc _ _ _
theorem tx_store (h : tp_JJ z u) {a : Int32} : tp_St z [2, 3] (f9_store z a) (f10_store (z + 559) a) u := by
  obtain ⟨len, tx, now, hn, hist, sl, kp, hC, hM, hS⟩ := h
  have hc : ∀ i p : Bool, tp_ro true i p = 0 ∨ tp_ro true i p ∈ [2, 3] := by decide
  refine tx_act hM hS (tc_cstore hC hS) (fun v hv => tm_store hv hS) (by decide) ?_
  unfold tp_rf
  rw [if_neg (by decide), if_neg (by decide), if_neg (by decide), if_neg (by decide), if_pos rfl]
  exact hc _ _
theorem tx_hang (h : tp_JJ z u) {a b c : Int32} : tp_St z [1, 3] (f9_hang z a b c) (f10_hang (z + 559) a b c) u := by
  obtain ⟨len, tx, now, hn, hist, sl, kp, hC, hM, hS⟩ := h
  have hc : ∀ e p : Bool, tp_ro e true p = 0 ∨ tp_ro e true p ∈ [1, 3] := by decide
  refine tx_act hM hS (tc_chang hC hS) (fun v hv => tm_hang hv hS) (by decide) ?_
  unfold tp_rf
  rw [if_neg (by decide), if_neg (by decide), if_neg (by decide), if_neg (by decide), if_neg (by decide), if_pos rfl]
  exact hc _ _
theorem tx_fill (h : tp_JJ z u) {a b : Int32} : tp_St z [1, 2, 3] (f9_fill z a b) (f10_fill (z + 559) a b) u := by
  obtain ⟨len, tx, now, hn, hist, sl, kp, hC, hM, hS⟩ := h
  have hc : ∀ e i p : Bool, tp_ro e i p = 0 ∨ tp_ro e i p ∈ [1, 2, 3] := by decide
  refine tx_act hM hS (tc_cfill hC hS) (fun v hv => tm_fill hv hS) (by decide) ?_
  unfold tp_rf
  rw [if_neg (by decide), if_neg (by decide), if_neg (by decide), if_neg (by decide), if_neg (by decide), if_neg (by decide), if_pos rfl]
  exact hc _ _ _
theorem tx_drop (h : tp_JJ z u) {a : Int32} : tp_St z [1, 3] (f9_drop z a) (f10_drop (z + 559) a) u := by
  obtain ⟨len, tx, now, hn, hist, sl, kp, hC, hM, hS⟩ := h
  have hc : ∀ e p : Bool, tp_ro e true p = 0 ∨ tp_ro e true p ∈ [1, 3] := by decide
  refine tx_act hM hS (tc_cdrop hC hS) (fun v hv => tm_drop hv hS) (by decide) ?_
  unfold tp_rf
  rw [if_neg (by decide), if_neg (by decide), if_neg (by decide), if_neg (by decide), if_neg (by decide), if_neg (by decide), if_neg (by decide), if_pos rfl]
  exact hc _ _
theorem tx_set (h : tp_JJ z u) {a b : Int32} : tp_St z [2] (f9_set z a b) (f10_set (z + 559) a b) u := by
  obtain ⟨len, tx, now, hn, hist, sl, kp, hC, hM, hS⟩ := h
  have hc : ∀ i : Bool, tp_ro true i true = 0 ∨ tp_ro true i true ∈ [2] := by decide
  refine tx_act hM hS (tc_cset hC hS) (fun v hv => tm_set hv hS) (by decide) ?_
  unfold tp_rf
  rw [if_neg (by decide), if_neg (by decide), if_neg (by decide), if_neg (by decide), if_neg (by decide), if_neg (by decide), if_neg (by decide), if_neg (by decide), if_pos rfl]
  exact hc _
theorem tx_hours (h : tp_JJ z u) {a : Int32} : tp_St z [2] (f9_hours z a) (f10_hours (z + 559) a) u := by
  obtain ⟨len, tx, now, hn, hist, sl, kp, hC, hM, hS⟩ := h
  have hc : ∀ i : Bool, tp_ro true i true = 0 ∨ tp_ro true i true ∈ [2] := by decide
  refine tx_act hM hS (tc_chours hC hS) (fun v hv => tm_hours hv hS) (by decide) ?_
  unfold tp_rf
  rw [if_neg (by decide), if_neg (by decide), if_neg (by decide), if_neg (by decide), if_neg (by decide), if_neg (by decide), if_neg (by decide), if_neg (by decide), if_neg (by decide)]
  exact hc _
end TSA