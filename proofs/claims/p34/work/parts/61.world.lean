/-! The world of two objects, each told as a state: what is now, what is remembered, the slots. -/
abbrev tz_S : Type := tp_R × (Nat × (Nat → tp_R)) × ((Nat → Bool) × (Nat → tp_R))
abbrev tz_U : Type := Nat → tz_S
def tz_I (a : Nat) (s : tz_S) (u : tl_S) : Prop := tp_CI a 0 (fun _ => 0) s.1 s.2.1.1 s.2.1.2 s.2.2.1 s.2.2.2 u
def tz_SO (s : tz_S) : Prop := tp_SO 0 (fun _ => 0) s.1 s.2.1.1 s.2.1.2 s.2.2.1 s.2.2.2
def tz_on (E : tl_E) (a : Nat) : Prop := a = E.2.1 ∨ a = E.2.1 + 559
def tz_A (E : tl_E) (U : tz_U) (u : tl_S) : Prop := ∀ a, tz_on E a → tz_I a (U a) u ∧ tz_SO (U a)
def tz_HU (E : tl_E) (U : tz_U) : Heap → Prop := fun H => ∃ u, tz_A E U u ∧ tl_HB E u H
/-- it answers x, and the states are U then -/
def tz_Q (E : tl_E) (x : Int32) (U : tz_U) : Option Value → Heap → Prop := fun q H => ∃ v, (q = some (.int x) ∧ tz_A E U v) ∧ tl_HB E v H
def tz_set (U : tz_U) (a : Nat) (s : tz_S) : tz_U := fun b => if b = a then s else U b
theorem tz_set_s (U : tz_U) (a : Nat) (s : tz_S) : tz_set U a s a = s := if_pos rfl
theorem tz_set_n {U : tz_U} {a b : Nat} {s : tz_S} (h : b ≠ a) : tz_set U a s b = U b := if_neg h
theorem tz_set_i (U : tz_U) (a : Nat) : tz_set U a (U a) = U := by
  funext b
  unfold tz_set
  by_cases c : b = a
  · rw [if_pos c, c]
  · rw [if_neg c]
theorem tz_set_w (U : tz_U) (a : Nat) (s t : tz_S) : tz_set (tz_set U a s) a t = tz_set U a t := by
  funext b
  unfold tz_set
  by_cases c : b = a
  · rw [if_pos c, if_pos c]
  · rw [if_neg c, if_neg c, if_neg c]
def tz_o (a : Nat) (p : Nat × Int32 × tz_S) (U : tz_U) : Option (Int32 × tz_U) := some (tz_an p.1 p.2.1, tz_set U a p.2.2)
def tz_oo (a : Nat) (p : Option (Nat × Int32 × tz_S)) (U : tz_U) : Option (Int32 × tz_U) := match p with
  | some p => tz_o a p U
  | none => none
theorem tz_T9 {E : tl_E} {a : Nat} (h : tz_on E a) : tl_T E.2.1 a = some 9 := by
  unfold tl_T
  rcases h with rfl | rfl
  · rw [if_pos (Nat.le_refl _), Nat.sub_self]; rfl
  · rw [if_pos (Nat.le_add_right _ _), Nat.add_sub_cancel_left]; decide +kernel
theorem tz_CI_out {z len : Nat} {tx now : tp_R} {hn : Nat} {hist : Nat → tp_R} {sl : Nat → Bool} {kp : Nat → tp_R} {u v : tl_S} {S : Nat → Prop} (h : tp_CI z len tx now hn hist sl kp u) (e : tp_FR S u v) (hS : ∀ q, S q → z + 559 ≤ q ∨ q < z) : tp_CI z len tx now hn hist sl kp v := by
  refine tp_CI_fr h e (fun q hq => by have := hS q hq; omega) ?_ (tp_Mn_FR h.1.2.2.1 e (fun q h6 h7 h8 => by have := hS q h8; omega)) (tp_Mp_FR h.1.2.2.2.2.1 e (fun h8 => by have := hS _ h8; omega))
  rw [(e.1 (z + 1) (fun q => by have := hS _ q; omega)).1]; exact h.1.1
/-- a call of one object of the two -/
theorem tz_of {E : tl_E} {a t : Nat} {x : Int32} {s : tz_S} {U : tz_U} {u : tl_S} {fc : tl_S → Option (Nat × Int32 × tl_S)} (ha : tz_on E a) (hA : tz_A E U u) (hC : tp_T (fc u) (tp_CA a u t x 0 (fun _ => 0) s.1 s.2.1.1 s.2.1.2 s.2.2.1 s.2.2.2)) (hS : tz_SO s) : ∃ r v, fc u = some (t, r, v) ∧ tz_an t r = tz_an t x ∧ tz_A E (tz_set U a s) v := by
  obtain ⟨⟨t', r, v⟩, e, a1, a2, a3, a4⟩ := hC
  have a1 : t' = t := a1
  subst a1
  have a2 : t' = 0 → r = x := a2
  have a3 : tp_FR (tp_ZS a) u v := a3
  refine ⟨r, v, e, ?_, fun b hb => ?_⟩
  · unfold tz_an
    by_cases c : t' = 0
    · rw [if_pos c, if_pos c, a2 c]
    · rw [if_neg c, if_neg c]
  · by_cases c : b = a
    · subst c
      rw [tz_set_s]
      exact ⟨a4, hS⟩
    · rw [tz_set_n c]
      refine ⟨tz_CI_out (hA b hb).1 a3 (fun q hq => ?_), (hA b hb).2⟩
      unfold tp_ZS at hq
      rcases ha with rfl | rfl <;> rcases hb with rfl | rfl <;> omega
/-! ### the calls, over a state: what is thrown (0: nothing), what is answered, the state behind it -/
def tz_append (c : Int32) (s : tz_S) : Option (Nat × Int32 × tz_S) := if tp_iw c 0 255 = true then none else some (2, 0, s)
def tz_about (w : Int32) (s : tz_S) : Nat × Int32 × tz_S := if tp_iw w 0 12 = true then (0, tp_ab s.1 (tp_cl w), s) else (2, 0, s)
def tz_told (g w : Int32) (s : tz_S) : Nat × Int32 × tz_S := if tp_ig s.1 g = true then (if tp_iw w 0 5 = true then (0, tp_gq s.1 (tp_cl g) (tp_cl w), s) else (2, 0, s)) else (1, 0, s)
def tz_worker (m w : Int32) (s : tz_S) : Nat × Int32 × tz_S := if tp_im s.1 m = true then (if tp_iw w 0 3 = true then (0, s.1 (24 + 4 * tp_cl m + tp_cl w), s) else (2, 0, s)) else (1, 0, s)
def tz_glow (l w : Int32) (s : tz_S) : Nat × Int32 × tz_S := if tp_il s.1 l = true then (if tp_iw w 0 4 = true then (0, tp_lq s.1 (tp_cl l) (tp_cl w), s) else (2, 0, s)) else (1, 0, s)
def tz_lad (w : Int32) (s : tz_S) : Nat × Int32 × tz_S := if tp_iw w 0 3 = true then (0, tp_dq s.1 (tp_cl w), s) else (2, 0, s)
def tz_order (k w : Int32) (s : tz_S) : Nat × Int32 × tz_S := if tp_io s.1 k = true then (if tp_iw w 0 3 = true then (0, s.1 (80 + 4 * tp_cl k + tp_cl w), s) else (2, 0, s)) else (1, 0, s)
def tz_lit (g w : Int32) (s : tz_S) : Nat × Int32 × tz_S := if tp_ig s.1 g = true then (if tp_iw w 0 1 = true then (0, nI (tp_litn s.1 (tp_cl g)), s) else (2, 0, s)) else (1, 0, s)
def tz_act (q : Nat) (a b c d : Int32) (s : tz_S) : Nat × Int32 × tz_S :=
  if tp_rf q a b c d s.1 = 0 then (0, tp_pa q a b s.1, (tp_pf q a b c d s.1, (tp_pn s.2.1.1, tp_ph s.2.1.1 s.2.1.2 s.1), s.2.2)) else (tp_rf q a b c d s.1, 0, s)
def tz_undo (s : tz_S) : Nat × Int32 × tz_S := if s.2.1.1 = 0 then (3, 0, s) else (0, nI (s.2.1.1 - 1), (s.2.1.2 (s.2.1.1 - 1), (s.2.1.1 - 1, s.2.1.2), s.2.2))
def tz_dark (g : Int32) (s : tz_S) : Nat × Int32 × tz_S := if tp_ig s.1 g = true then (0, tp_dkn (tp_cl g) 201 0 s.1, s) else (1, 0, s)
def tz_deep (g n : Int32) (s : tz_S) : Nat × Int32 × tz_S := if tp_ig s.1 g = true then (if tp_iw n 1 200 = true then (0, tp_hrs (tp_cl n) s.1 (18 + 2 * tp_cl g), s) else (2, 0, s)) else (1, 0, s)
def tz_done (s : tz_S) : Int32 := tp_dnn 201 0 (tp_up s.1 17 0)
def tz_best (l g n : Int32) (s : tz_S) : Nat × Int32 × tz_S := (tp_ro (tp_il s.1 l && tp_ig s.1 g) (tp_iw n 1 100) (!decide (6 ≤ s.1 8)), (tp_bc s.1 (tp_cl l) (tp_cl g) (tp_cl n) (tp_cl (s.1 (18 + 2 * tp_cl g)))).1, s)
def tz_steps (g c g2 c2 : Int32) (s : tz_S) : Nat × Int32 × tz_S := if (tp_ic s.1 g c && tp_ic s.1 g2 c2) = true then (0, tp_bt g c g2 c2, s) else (1, 0, s)
def tz_script (n : Int32) (x : Int64) (s : tz_S) : Option (Nat × Int32 × tz_S) := if n = 0 ∨ (n = 1 ∧ ¬ x < 1000000) then some (2, 0, s) else none
def tz_sim (x : Int64) (n : Int32) (s : tz_S) : Nat × Int32 × tz_S := if tp_iw n 1 60 = true then (0, tp_sq2 (tp_sm (tp_cl n) x s.1) s.1, s) else (2, 0, s)
def tz_keep (i : Int32) (s : tz_S) : Nat × Int32 × tz_S := if tp_iw i 0 1 = true then (0, s.1 3, (s.1, s.2.1, (tp_sl2 s.2.2.1 (tp_cl i), tp_kp2 s.2.2.2 (tp_cl i) s.1))) else (1, 0, s)
def tz_back (i : Int32) (s : tz_S) : Nat × Int32 × tz_S := if tp_iw i 0 1 = true then (if s.2.2.1 (tp_cl i) = true then (0, s.2.2.2 (tp_cl i) 3, (s.2.2.2 (tp_cl i), (0, s.2.1.2), s.2.2)) else (3, 0, s)) else (1, 0, s)
def tz_R1 (E : tl_E) (a : Nat) (U : tz_U) (u : tl_S) (fc : tl_S → Option (Nat × Int32 × tl_S)) (p : Nat × Int32 × tz_S) : Prop := ∃ r v, fc u = some (p.1, r, v) ∧ tz_an p.1 r = tz_an p.1 p.2.1 ∧ tz_A E (tz_set U a p.2.2) v
section TZA
variable {E : tl_E} {a : Nat} {U : tz_U} {u : tl_S}
theorem tz_if {c : Prop} [Decidable c] {α : Type} {o : Option α} {P Q : α → Prop} {R : Prop} (h : tp_T o (fun p => if c then P p else Q p)) (h1 : c → tp_T o P → R) (h2 : ¬ c → tp_T o Q → R) : R := by
  by_cases e : c
  · exact h1 e (tp_mono h (fun p hp => by rw [if_pos e] at hp; exact hp))
  · exact h2 e (tp_mono h (fun p hp => by rw [if_neg e] at hp; exact hp))
theorem tz_about_ok (ha : tz_on E a) (hA : tz_A E U u) (w : Int32) : tz_R1 E a U u (f9_about a w) (tz_about w (U a)) := by
  obtain ⟨hI, hS⟩ := hA a ha
  unfold tz_about
  exact tz_if (tc_about hI hS) (fun c h => by rw [if_pos c]; exact tz_of ha hA h hS) (fun c h => by rw [if_neg c]; exact tz_of ha hA h hS)
theorem tz_lad_ok (ha : tz_on E a) (hA : tz_A E U u) (w : Int32) : tz_R1 E a U u (f9_lad a w) (tz_lad w (U a)) := by
  obtain ⟨hI, hS⟩ := hA a ha
  unfold tz_lad
  exact tz_if (tc_lad hI hS) (fun c h => by rw [if_pos c]; exact tz_of ha hA h hS) (fun c h => by rw [if_neg c]; exact tz_of ha hA h hS)
theorem tz_dark_ok (ha : tz_on E a) (hA : tz_A E U u) (w : Int32) : tz_R1 E a U u (f9_darkIn a w) (tz_dark w (U a)) := by
  obtain ⟨hI, hS⟩ := hA a ha
  unfold tz_dark
  exact tz_if (tc_darkIn hI hS) (fun c h => by rw [if_pos c]; exact tz_of ha hA h hS) (fun c h => by rw [if_neg c]; exact tz_of ha hA h hS)
theorem tz_steps_ok (ha : tz_on E a) (hA : tz_A E U u) (g c g2 c2 : Int32) : tz_R1 E a U u (f9_steps a g c g2 c2) (tz_steps g c g2 c2 (U a)) := by
  obtain ⟨hI, hS⟩ := hA a ha
  unfold tz_steps
  exact tz_if (tc_steps hI hS) (fun c h => by rw [if_pos c]; exact tz_of ha hA h hS) (fun c h => by rw [if_neg c]; exact tz_of ha hA h hS)
theorem tz_sim_ok (ha : tz_on E a) (hA : tz_A E U u) (x : Int64) (n : Int32) : tz_R1 E a U u (f9_simulate a x n) (tz_sim x n (U a)) := by
  obtain ⟨hI, hS⟩ := hA a ha
  unfold tz_sim
  exact tz_if (tc_simulate hI hS) (fun c h => by rw [if_pos c]; exact tz_of ha hA h hS) (fun c h => by rw [if_neg c]; exact tz_of ha hA h hS)
theorem tz_told_ok (ha : tz_on E a) (hA : tz_A E U u) (g w : Int32) : tz_R1 E a U u (f9_galleryOf a g w) (tz_told g w (U a)) := by
  obtain ⟨hI, hS⟩ := hA a ha
  unfold tz_told
  exact tz_if (tc_galleryOf hI hS) (fun c h => by
    rw [if_pos c]
    exact tz_if h (fun c h => by rw [if_pos c]; exact tz_of ha hA h hS) (fun c h => by rw [if_neg c]; exact tz_of ha hA h hS)) (fun c h => by rw [if_neg c]; exact tz_of ha hA h hS)
theorem tz_worker_ok (ha : tz_on E a) (hA : tz_A E U u) (g w : Int32) : tz_R1 E a U u (f9_minerOf a g w) (tz_worker g w (U a)) := by
  obtain ⟨hI, hS⟩ := hA a ha
  unfold tz_worker
  exact tz_if (tc_minerOf hI hS) (fun c h => by
    rw [if_pos c]
    exact tz_if h (fun c h => by rw [if_pos c]; exact tz_of ha hA h hS) (fun c h => by rw [if_neg c]; exact tz_of ha hA h hS)) (fun c h => by rw [if_neg c]; exact tz_of ha hA h hS)
theorem tz_glow_ok (ha : tz_on E a) (hA : tz_A E U u) (g w : Int32) : tz_R1 E a U u (f9_lampOf a g w) (tz_glow g w (U a)) := by
  obtain ⟨hI, hS⟩ := hA a ha
  unfold tz_glow
  exact tz_if (tc_lampOf hI hS) (fun c h => by
    rw [if_pos c]
    exact tz_if h (fun c h => by rw [if_pos c]; exact tz_of ha hA h hS) (fun c h => by rw [if_neg c]; exact tz_of ha hA h hS)) (fun c h => by rw [if_neg c]; exact tz_of ha hA h hS)
theorem tz_order_ok (ha : tz_on E a) (hA : tz_A E U u) (g w : Int32) : tz_R1 E a U u (f9_orderOf a g w) (tz_order g w (U a)) := by
  obtain ⟨hI, hS⟩ := hA a ha
  unfold tz_order
  exact tz_if (tc_orderOf hI hS) (fun c h => by
    rw [if_pos c]
    exact tz_if h (fun c h => by rw [if_pos c]; exact tz_of ha hA h hS) (fun c h => by rw [if_neg c]; exact tz_of ha hA h hS)) (fun c h => by rw [if_neg c]; exact tz_of ha hA h hS)
theorem tz_lit_ok (ha : tz_on E a) (hA : tz_A E U u) (g w : Int32) : tz_R1 E a U u (f9_lit a g w) (tz_lit g w (U a)) := by
  obtain ⟨hI, hS⟩ := hA a ha
  unfold tz_lit
  exact tz_if (tc_lit hI hS) (fun c h => by
    rw [if_pos c]
    exact tz_if h (fun c h => by rw [if_pos c]; exact tz_of ha hA h hS) (fun c h => by rw [if_neg c]; exact tz_of ha hA h hS)) (fun c h => by rw [if_neg c]; exact tz_of ha hA h hS)
theorem tz_deep_ok (ha : tz_on E a) (hA : tz_A E U u) (g w : Int32) : tz_R1 E a U u (f9_depthIn a g w) (tz_deep g w (U a)) := by
  obtain ⟨hI, hS⟩ := hA a ha
  unfold tz_deep
  exact tz_if (tc_depthIn hI hS) (fun c h => by
    rw [if_pos c]
    exact tz_if h (fun c h => by rw [if_pos c]; exact tz_of ha hA h hS) (fun c h => by rw [if_neg c]; exact tz_of ha hA h hS)) (fun c h => by rw [if_neg c]; exact tz_of ha hA h hS)
theorem tz_best_ok (ha : tz_on E a) (hA : tz_A E U u) (l g n : Int32) : tz_R1 E a U u (f9_bestCell a l g n) (tz_best l g n (U a)) := by
  obtain ⟨hI, hS⟩ := hA a ha
  exact tz_of ha hA (tc_bestCell hI hS) hS
theorem tz_append_ok (ha : tz_on E a) (hA : tz_A E U u) (c : Int32) {p : Nat × Int32 × tz_S} (h : tz_append c (U a) = some p) : tz_R1 E a U u (f9_append a c) p := by
  obtain ⟨hI, hS⟩ := hA a ha
  unfold tz_append at h
  by_cases e : tp_iw c 0 255 = true
  · rw [if_pos e] at h; cases h
  · rw [if_neg e] at h; cases h
    refine tz_of ha hA (tp_mono (tc_append hI hS) (fun p hp => ?_)) hS
    rw [if_neg e] at hp
    exact hp
theorem tz_script_ok (ha : tz_on E a) (hA : tz_A E U u) (n : Int32) (x : Int64) {p : Nat × Int32 × tz_S} (h : tz_script n x (U a) = some p) : tz_R1 E a U u (f9_runScript a n x) p := by
  obtain ⟨hI, hS⟩ := hA a ha
  unfold tz_script at h
  by_cases e : n = 0 ∨ (n = 1 ∧ ¬ x < 1000000)
  · rw [if_pos e] at h; cases h
    refine tz_of ha hA (tp_mono (tc_runScript hI hS) (fun p hp => ?_)) hS
    rcases hp with ⟨N, S, h1, h2, h3, h4, h5, -⟩ | ⟨-, hp⟩
    · exfalso
      rcases e with e | ⟨e, e2⟩
      · rw [e, tp_k0, tp_eq (by decide) (by omega)] at h3; omega
      · rw [e, tp_k1, tp_eq (by decide) (by omega)] at h3
        subst h3
        apply e2
        rw [h4, show (1000000 : Int64) = lN 1000000 from rfl, pk_lLT (by omega) (by decide)]
        omega
    · exact hp
  · rw [if_neg e] at h; cases h
theorem tz_undo_ok (ha : tz_on E a) (hA : tz_A E U u) : tz_R1 E a U u (f9_undo a) (tz_undo (U a)) := by
  obtain ⟨hI, hS⟩ := hA a ha
  unfold tz_undo
  refine tz_if (tc_undo hI hS) (fun c h => by rw [if_pos c]; exact tz_of ha hA h hS) (fun c h => by
    rw [if_neg c]
    refine tz_of ha hA h ?_
    obtain ⟨h1, h2, h3, h4, h5, h6⟩ := hS
    exact ⟨h1, h2, h5 _ (by omega), (show (U a).2.1.1 - 1 ≤ 14 by omega), fun i (hi : i < (U a).2.1.1 - 1) => h5 i (by omega), h6⟩)
theorem tz_keep_ok (ha : tz_on E a) (hA : tz_A E U u) (i : Int32) : tz_R1 E a U u (f9_save a i) (tz_keep i (U a)) := by
  obtain ⟨hI, hS⟩ := hA a ha
  unfold tz_keep
  refine tz_if (tc_save hI hS) (fun c h => by
    rw [if_pos c]
    refine tz_of ha hA h ?_
    obtain ⟨h1, h2, h3, h4, h5, h6⟩ := hS
    refine ⟨h1, h2, h3, h4, h5, fun s hs q => ?_⟩
    show tp_Ok (if s = tp_cl i then (U a).1 else (U a).2.2.2 s)
    have q : (if s = tp_cl i then true else (U a).2.2.1 s) = true := q
    by_cases e : s = tp_cl i
    · rw [if_pos e]; exact h3
    · rw [if_neg e] at q ⊢; exact h6 s hs q) (fun c h => by rw [if_neg c]; exact tz_of ha hA h hS)
theorem tz_back_ok (ha : tz_on E a) (hA : tz_A E U u) (i : Int32) : tz_R1 E a U u (f9_restore a i) (tz_back i (U a)) := by
  obtain ⟨hI, hS⟩ := hA a ha
  unfold tz_back
  refine tz_if (tc_restore hI hS) (fun c h => by
    rw [if_pos c]
    refine tz_if h (fun c2 h => by
      rw [if_pos c2]
      refine tz_of ha hA h ?_
      obtain ⟨h1, h2, h3, h4, h5, h6⟩ := hS
      obtain ⟨n, n0, n1, e⟩ := tp_iw_N (L := 0) (B := 1) rfl rfl (by decide) (by decide) c
      subst e
      have hcl : tp_cl (nI n) = n := tp_cn (by omega)
      rw [hcl] at c2 ⊢
      exact ⟨h1, h2, h6 n (by omega) c2, by show (0 : Nat) ≤ 14; omega, fun i hi => absurd hi (Nat.not_lt_zero _), h6⟩) (fun c2 h => by rw [if_neg c2]; exact tz_of ha hA h hS)) (fun c h => by rw [if_neg c]; exact tz_of ha hA h hS)
theorem tz_SO_act {s : tz_S} (hS : tz_SO s) {q : Nat} {A B C D : Int32} (h : tp_rf q A B C D s.1 = 0) : tz_SO (tp_pf q A B C D s.1, (tp_pn s.2.1.1, tp_ph s.2.1.1 s.2.1.2 s.1), s.2.2) := by
  obtain ⟨h1, h2, h3, h4, h5, h6⟩ := hS
  refine ⟨h1, h2, tp_Ok_pf h3 h, ?_, fun i hi => ?_, h6⟩
  · show tp_pn s.2.1.1 ≤ 14
    unfold tp_pn
    split <;> omega
  · show tp_Ok (tp_ph s.2.1.1 s.2.1.2 s.1 i)
    have hi : i < tp_pn s.2.1.1 := hi
    unfold tp_pn at hi
    unfold tp_ph
    by_cases c : s.2.1.1 = 14
    · rw [if_pos c] at hi ⊢
      by_cases c2 : i = 13
      · rw [if_pos c2]; exact h3
      · rw [if_neg c2]; exact h5 _ (by omega)
    · rw [if_neg c] at hi ⊢
      by_cases c2 : i = s.2.1.1
      · rw [if_pos c2]; exact h3
      · rw [if_neg c2]; exact h5 _ (by omega)
theorem tz_act_of (ha : tz_on E a) (hA : tz_A E U u) {fc : tl_S → Option (Nat × Int32 × tl_S)} {q : Nat} {A B C D : Int32} (h : tp_T (fc u) (tp_CB a u q A B C D 0 (fun _ => 0) (U a).1 (U a).2.1.1 (U a).2.1.2 (U a).2.2.1 (U a).2.2.2)) : tz_R1 E a U u fc (tz_act q A B C D (U a)) := by
  obtain ⟨hI, hS⟩ := hA a ha
  unfold tz_act
  by_cases c : tp_rf q A B C D (U a).1 = 0
  · rw [if_pos c]
    exact tz_of ha hA (tp_mono h (fun p hp => hp.2 c)) (tz_SO_act hS c)
  · rw [if_neg c]
    exact tz_of ha hA (tp_mono h (fun p hp => hp.1 c)) hS
theorem tz_cgallery_ok (ha : tz_on E a) (hA : tz_A E U u) (x : Int32)  : tz_R1 E a U u (f9_gallery a x) (tz_act 1 x 0 0 0 (U a)) := tz_act_of ha hA (tc_cgallery (hA a ha).1 (hA a ha).2)
theorem tz_cminer_ok (ha : tz_on E a) (hA : tz_A E U u) (x y : Int32)  : tz_R1 E a U u (f9_miner a x y) (tz_act 2 x y 0 0 (U a)) := tz_act_of ha hA (tc_cminer (hA a ha).1 (hA a ha).2)
theorem tz_csend_ok (ha : tz_on E a) (hA : tz_A E U u) (x y : Int32)  : tz_R1 E a U u (f9_send a x y) (tz_act 3 x y 0 0 (U a)) := tz_act_of ha hA (tc_csend (hA a ha).1 (hA a ha).2)
theorem tz_clamp_ok (ha : tz_on E a) (hA : tz_A E U u) (x y w d : Int32)  : tz_R1 E a U u (f9_lamp a x y w d) (tz_act 4 x y w d (U a)) := tz_act_of ha hA (tc_clamp (hA a ha).1 (hA a ha).2)
theorem tz_cstore_ok (ha : tz_on E a) (hA : tz_A E U u) (x : Int32)  : tz_R1 E a U u (f9_store a x) (tz_act 5 x 0 0 0 (U a)) := tz_act_of ha hA (tc_cstore (hA a ha).1 (hA a ha).2)
theorem tz_chang_ok (ha : tz_on E a) (hA : tz_A E U u) (x y w : Int32)  : tz_R1 E a U u (f9_hang a x y w) (tz_act 6 x y w 0 (U a)) := tz_act_of ha hA (tc_chang (hA a ha).1 (hA a ha).2)
theorem tz_cfill_ok (ha : tz_on E a) (hA : tz_A E U u) (x y : Int32)  : tz_R1 E a U u (f9_fill a x y) (tz_act 7 x y 0 0 (U a)) := tz_act_of ha hA (tc_cfill (hA a ha).1 (hA a ha).2)
theorem tz_cdrop_ok (ha : tz_on E a) (hA : tz_A E U u) (x : Int32)  : tz_R1 E a U u (f9_drop a x) (tz_act 8 x 0 0 0 (U a)) := tz_act_of ha hA (tc_cdrop (hA a ha).1 (hA a ha).2)
theorem tz_cset_ok (ha : tz_on E a) (hA : tz_A E U u) (x y : Int32)  : tz_R1 E a U u (f9_set a x y) (tz_act 9 x y 0 0 (U a)) := tz_act_of ha hA (tc_cset (hA a ha).1 (hA a ha).2)
theorem tz_chours_ok (ha : tz_on E a) (hA : tz_A E U u) (x : Int32)  : tz_R1 E a U u (f9_hours a x) (tz_act 10 x 0 0 0 (U a)) := tz_act_of ha hA (tc_chours (hA a ha).1 (hA a ha).2)
end TZA
