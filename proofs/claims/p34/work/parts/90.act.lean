/-! What holds of a state with its history; one thing done: it depends on the state only. -/
/-- the state at a place of the history: the last one is now -/
def tz_at (s : tz_S) (j : Nat) : tp_R := if j = s.2.1.1 then s.1 else s.2.1.2 j
theorem tz_at_n (s : tz_S) : tz_at s s.2.1.1 = s.1 := if_pos rfl
theorem tz_at_h {s : tz_S} {j : Nat} (h : j < s.2.1.1) : tz_at s j = s.2.1.2 j := if_neg (by omega)
def tz_J (T : Nat) (s : tz_S) : Prop := tz_SO s ∧ tz_V T s.1 ∧ (∀ i, i < s.2.1.1 → tz_V T (s.2.1.2 i) ∨ ∃ t, t < 2 ∧ tz_at s (i + 1) 3 = nI t) ∧ (∀ i, i < 2 → s.2.2.1 i = true → tz_V T (s.2.2.2 i))
/-- the state s is k actions after the state s0, and e of its history are gone -/
def tz_B (k : Nat) (s0 s : tz_S) : Prop := k ≤ s.2.1.1 ∧ s.2.1.1 ≤ 14 ∧ ∃ e, s.2.1.1 - k + e = s0.2.1.1 ∧ (∀ j, j ≤ s.2.1.1 - k → tz_at s j = tz_at s0 (j + e)) ∧ s.2.2 = s0.2.2
section TZJ
variable {T T2 k : Nat} {s s0 : tz_S} {q : Nat} {A B C D : Int32}
theorem tz_J_le (h : tz_J T s) (hT : T ≤ T2) : tz_J T2 s := by
  obtain ⟨h1, h2, h3, h4⟩ := h
  refine ⟨h1, tz_V_le h2 hT, fun i hi => ?_, fun i hi e => tz_V_le (h4 i hi e) hT⟩
  rcases h3 i hi with h | h
  · exact Or.inl (tz_V_le h hT)
  · exact Or.inr h
theorem tz_B_0 (h : tz_SO s) : tz_B 0 s s := ⟨Nat.zero_le _, h.2.2.2.1, 0, rfl, fun _ _ => rfl, rfl⟩
theorem tz_B_J (h : tz_B 0 s0 s) (hJ : tz_J T s0) : tz_J T s := by
  obtain ⟨-, b2, e, b3, b4, b5⟩ := h
  obtain ⟨⟨o1, o2, o3, o4, o5, o6⟩, j2, j3, j4⟩ := hJ
  rw [Nat.sub_zero] at b3 b4
  have en : s.1 = s0.1 := by
    have := b4 _ (Nat.le_refl _)
    rw [tz_at_n, b3, tz_at_n] at this
    exact this
  have eh : ∀ i, i < s.2.1.1 → s.2.1.2 i = s0.2.1.2 (i + e) := fun i hi => by
    have := b4 i (by omega)
    rw [tz_at_h hi, tz_at_h (by omega)] at this
    exact this
  refine ⟨⟨Nat.zero_le _, o2, en ▸ o3, b2, fun i hi => ?_, fun i hi h => ?_⟩, en ▸ j2, fun i hi => ?_, fun i hi h => ?_⟩
  · rw [eh i hi]; exact o5 _ (by omega)
  · rw [b5] at h ⊢; exact o6 i hi h
  · rw [eh i hi, b4 (i + 1) (by omega), show i + 1 + e = i + e + 1 by omega]
    exact j3 _ (by omega)
  · rw [b5] at h ⊢; exact j4 i hi h
/-- an action that is done -/
theorem tz_act_0 (c : tp_rf q A B C D s.1 = 0) : tz_act q A B C D s = (0, tp_pa q A B s.1, (tp_pf q A B C D s.1, (tp_pn s.2.1.1, tp_ph s.2.1.1 s.2.1.2 s.1), s.2.2)) := if_pos c
theorem tz_act_1 (c : tp_rf q A B C D s.1 ≠ 0) : tz_act q A B C D s = (tp_rf q A B C D s.1, 0, s) := if_neg c
theorem tz_push (hn : s.2.1.1 ≤ 14) (x : tp_R) : ∃ e, tp_pn s.2.1.1 + e = s.2.1.1 + 1 ∧ tp_pn s.2.1.1 ≤ 14 ∧ (e ≠ 0 → s.2.1.1 = 14) ∧ ∀ j, j < tp_pn s.2.1.1 → tz_at (x, (tp_pn s.2.1.1, tp_ph s.2.1.1 s.2.1.2 s.1), s.2.2) j = tz_at s (j + e) ∧ tp_ph s.2.1.1 s.2.1.2 s.1 j = tz_at s (j + e) := by
  have key : ∀ e, tp_pn s.2.1.1 + e = s.2.1.1 + 1 → (∀ j, j < tp_pn s.2.1.1 → tp_ph s.2.1.1 s.2.1.2 s.1 j = tz_at s (j + e)) → ∀ j, j < tp_pn s.2.1.1 → tz_at (x, (tp_pn s.2.1.1, tp_ph s.2.1.1 s.2.1.2 s.1), s.2.2) j = tz_at s (j + e) ∧ tp_ph s.2.1.1 s.2.1.2 s.1 j = tz_at s (j + e) := fun e he h j hj => by
    refine ⟨?_, h j hj⟩
    rw [tz_at_h (s := (x, (tp_pn s.2.1.1, tp_ph s.2.1.1 s.2.1.2 s.1), s.2.2)) hj]
    exact h j hj
  by_cases c : s.2.1.1 = 14
  · have ep : tp_pn s.2.1.1 = 14 := if_pos c
    refine ⟨1, by omega, by omega, fun _ => c, key 1 (by omega) (fun j hj => ?_)⟩
    unfold tp_ph tz_at
    rw [if_pos c]
    by_cases c2 : j = 13
    · rw [if_pos c2, if_pos (by omega)]
    · rw [if_neg c2, if_neg (by omega)]
  · have ep : tp_pn s.2.1.1 = s.2.1.1 + 1 := if_neg c
    refine ⟨0, by omega, by omega, fun h => absurd rfl h, key 0 (by omega) (fun j hj => ?_)⟩
    unfold tp_ph tz_at
    rw [if_neg c]
    by_cases c2 : j = s.2.1.1
    · rw [if_pos c2, if_pos (by omega)]
    · rw [if_neg c2, if_neg (by omega), Nat.add_zero]
theorem tz_J_act (h : tz_J T s) (h1 : 1 ≤ q) (h2 : q ≤ 10) : tz_J (T + tz_hq q A) (tz_act q A B C D s).2.2 := by
  by_cases c : tp_rf q A B C D s.1 = 0
  · rw [tz_act_0 c]
    obtain ⟨hS, hV, hH, hK⟩ := h
    have le : T ≤ T + tz_hq q A := Nat.le_add_right _ _
    obtain ⟨e, e1, e2, e3, e4⟩ := tz_push hS.2.2.2.1 (tp_pf q A B C D s.1)
    refine ⟨tz_SO_act hS c, tz_pf_k hV h1 h2 c, fun i (hi : i < tp_pn s.2.1.1) => ?_, fun i hi e => tz_V_le (hK i hi e) le⟩
    show tz_V _ (tp_ph s.2.1.1 s.2.1.2 s.1 i) ∨ _
    rw [(e4 i hi).2]
    by_cases c2 : i + e = s.2.1.1
    · rw [c2, tz_at_n]; exact Or.inl (tz_V_le hV le)
    · have hl : i + e < s.2.1.1 := by omega
      have hl2 : i + 1 < tp_pn s.2.1.1 := by omega
      rcases hH _ hl with w | w
      · rw [tz_at_h hl]; exact Or.inl (tz_V_le w le)
      · rw [(e4 (i + 1) hl2).1, show i + 1 + e = i + e + 1 by omega]
        exact Or.inr w
  · rw [tz_act_1 c]
    exact tz_J_le h (Nat.le_add_right _ _)
theorem tz_B_act (h : tz_B k s0 s) (hk : k + 1 ≤ 14) (c : tp_rf q A B C D s.1 = 0) : tz_B (k + 1) s0 (tz_act q A B C D s).2.2 := by
  rw [tz_act_0 c]
  obtain ⟨b1, b2, f, b3, b4, b5⟩ := h
  obtain ⟨e, e1, e2, e3, e4⟩ := tz_push b2 (tp_pf q A B C D s.1)
  have hle : k + 1 ≤ tp_pn s.2.1.1 := by
    by_cases c0 : e = 0
    · omega
    · have := e3 c0
      unfold tp_pn
      rw [if_pos this]; exact hk
  have e0 : e = 0 ∨ e = 1 := by
    by_cases c0 : e = 0
    · exact Or.inl c0
    · have := e3 c0
      have p : tp_pn s.2.1.1 = 14 := if_pos this
      omega
  refine ⟨hle, e2, e + f, ?_, fun j (hj : j ≤ tp_pn s.2.1.1 - (k + 1)) => ?_, b5⟩
  · show tp_pn s.2.1.1 - (k + 1) + (e + f) = _
    omega
  · rw [(e4 j (by omega)).1, b4 _ (by omega), Nat.add_assoc]
theorem tz_undo_1 (h : 0 < s.2.1.1) : tz_undo s = (0, nI (s.2.1.1 - 1), (s.2.1.2 (s.2.1.1 - 1), (s.2.1.1 - 1, s.2.1.2), s.2.2)) := if_neg (by omega)
theorem tz_undo_at (j : Nat) (h : 0 < s.2.1.1) (hj : j < s.2.1.1) : tz_at (s.2.1.2 (s.2.1.1 - 1), (s.2.1.1 - 1, s.2.1.2), s.2.2) j = tz_at s j := by
  rw [tz_at_h hj]
  unfold tz_at
  show (if j = s.2.1.1 - 1 then s.2.1.2 (s.2.1.1 - 1) else s.2.1.2 j) = _
  by_cases c : j = s.2.1.1 - 1
  · rw [if_pos c, c]
  · rw [if_neg c]
theorem tz_B_undo (h : tz_B (k + 1) s0 s) : (tz_undo s).1 = 0 ∧ tz_B k s0 (tz_undo s).2.2 := by
  obtain ⟨b1, b2, f, b3, b4, b5⟩ := h
  have hp : 0 < s.2.1.1 := by omega
  rw [tz_undo_1 hp]
  refine ⟨rfl, show k ≤ s.2.1.1 - 1 by omega, show s.2.1.1 - 1 ≤ 14 by omega, f, show s.2.1.1 - 1 - k + f = _ by omega, fun j (hj : j ≤ s.2.1.1 - 1 - k) => ?_, b5⟩
  rw [tz_undo_at j hp (by omega)]
  exact b4 j (by omega)
theorem tz_J_undo (h : tz_J T s) (ht : ∀ t, t < 2 → s.1 3 ≠ nI t) : tz_J T (tz_undo s).2.2 := by
  by_cases hp : s.2.1.1 = 0
  · have : tz_undo s = (3, 0, s) := if_pos hp
    rw [this]; exact h
  · have hp : 0 < s.2.1.1 := by omega
    obtain ⟨⟨o1, o2, o3, o4, o5, o6⟩, j2, j3, j4⟩ := h
    rw [tz_undo_1 hp]
    refine ⟨⟨o1, o2, o5 _ (by omega), show s.2.1.1 - 1 ≤ 14 by omega, fun i (hi : i < s.2.1.1 - 1) => o5 i (by omega), o6⟩, ?_, fun i (hi : i < s.2.1.1 - 1) => ?_, j4⟩
    · rcases j3 (s.2.1.1 - 1) (by omega) with w | ⟨t, t1, t2⟩
      · exact w
      · rw [show s.2.1.1 - 1 + 1 = s.2.1.1 by omega, tz_at_n] at t2
        exact absurd t2 (ht t t1)
    · rw [tz_undo_at _ hp (by omega)]
      exact j3 i (by omega)
theorem tz_J_keep (h : tz_J T s) (x : Int32) : tz_J T (tz_keep x s).2.2 := by
  unfold tz_keep
  by_cases c : tp_iw x 0 1 = true
  · rw [if_pos c]
    obtain ⟨⟨o1, o2, o3, o4, o5, o6⟩, j2, j3, j4⟩ := h
    refine ⟨⟨o1, o2, o3, o4, o5, fun i hi q => ?_⟩, j2, j3, fun i hi q => ?_⟩
    all_goals
      have q : (if i = tp_cl x then true else s.2.2.1 i) = true := q
    · show tp_Ok (if i = tp_cl x then s.1 else s.2.2.2 i)
      by_cases e : i = tp_cl x
      · rw [if_pos e]; exact o3
      · rw [if_neg e] at q ⊢; exact o6 i hi q
    · show tz_V T (if i = tp_cl x then s.1 else s.2.2.2 i)
      by_cases e : i = tp_cl x
      · rw [if_pos e]; exact j2
      · rw [if_neg e] at q ⊢; exact j4 i hi q
  · rw [if_neg c]; exact h
theorem tz_J_back (h : tz_J T s) (x : Int32) : tz_J T (tz_back x s).2.2 := by
  unfold tz_back
  by_cases c : tp_iw x 0 1 = true
  · rw [if_pos c]
    by_cases c2 : s.2.2.1 (tp_cl x) = true
    · rw [if_pos c2]
      obtain ⟨⟨o1, o2, o3, o4, o5, o6⟩, j2, j3, j4⟩ := h
      obtain ⟨n, n0, n1, e⟩ := tp_iw_N (L := 0) (B := 1) rfl rfl (by decide) (by decide) c
      subst e
      have hcl : tp_cl (nI n) = n := tp_cn (by omega)
      rw [hcl] at c2 ⊢
      exact ⟨⟨o1, o2, o6 n (by omega) c2, Nat.zero_le _, fun i hi => absurd hi (Nat.not_lt_zero _), o6⟩, j4 n (by omega) c2, fun i hi => absurd hi (Nat.not_lt_zero _), j4⟩
    · rw [if_neg c2]; exact h
  · rw [if_neg c]; exact h
end TZJ
/-- what f answers, and the state behind it, depend on the state before it only -/
def tz_D (T : Nat) (s : tz_S) (f : Nat → tz_U → Option (Int32 × tz_U)) : Prop := ∃ r s', tz_J T s' ∧ ∀ a U, U a = s → f a U = some (r, tz_set U a s')
section TZD
variable {T n g : Nat} {s : tz_S} {f : Nat → tz_U → Option (Int32 × tz_U)}
theorem tz_D_of {F : tz_S → Nat × Int32 × tz_S} (hJ : tz_J T (F s).2.2) (h : ∀ a U, U a = s → f a U = tz_o a (F (U a)) U) : tz_D T s f :=
  ⟨tz_an (F s).1 (F s).2.1, (F s).2.2, hJ, fun a U e => by rw [h a U e, e]; rfl⟩
theorem tz_D_a {q : Nat} {A B C D : Int32} (hJ : tz_J T s) (h1 : 1 ≤ q) (h2 : q ≤ 9) (h : ∀ a U, U a = s → f a U = tz_o a (tz_act q A B C D (U a)) U) : tz_D (T + 9) s f :=
  tz_D_of (F := tz_act q A B C D) (tz_J_le (tz_J_act hJ h1 (by omega)) (by unfold tz_hq; rw [if_neg (by omega)]; omega)) h
theorem tz_D_i {x : Int32} (hJ : tz_J T s) (h : ∀ a U, U a = s → f a U = some (x, U)) : tz_D T s f :=
  ⟨x, s, hJ, fun a U e => by rw [h a U e, ← e, tz_set_i]⟩
theorem tz_D_le {T2 : Nat} (h : tz_D T s f) (hT : T ≤ T2) : tz_D T2 s f := by
  obtain ⟨r, s', h1, h2⟩ := h
  exact ⟨r, s', tz_J_le h1 hT, h2⟩
theorem tz_q16 (hn : n < 2147483648) : (nI n - nI n / 16 * 16).toInt = ((n % 16 : Nat) : Int) := by
  have : nI n - nI n / 16 * 16 = nI (n % 16) := pk_rem (d := 16) hn (by decide) (by decide)
  rw [this, tp_ti (by omega)]
theorem tz_p54_0 {x3 x4 x6 : Int32} (hJ : tz_J T s) (hg : g < tp_cl (s.1 0)) (hn : n < 2147483648) (hc : n % 16 = 0) : tz_D (T + 9) s (fun a U => fL_act_p54 a (nI n) x3 x4 (nI g) x6 U) := by
  by_cases c : x3 - x3 / 3 * 3 = 0
  · exact tz_D_a hJ (q := 1) (by decide) (by decide) (fun a U h => by
      unfold fL_act_p54
      rw [tz_q16 hn, if_neg (by omega), if_pos (by omega), if_pos c, tz_b2i]
      exact gc_9)
  · exact tz_D_a hJ (q := 5) (by decide) (by decide) (fun a U h => by
      unfold fL_act_p54
      rw [tz_q16 hn, if_neg (by omega), if_pos (by omega), if_neg c, tz_b2i]
      exact gc_12)
theorem tz_p54_1 {x3 x4 x6 : Int32} (hJ : tz_J T s) (hg : g < tp_cl (s.1 0)) (hn : n < 2147483648) (hc : n % 16 = 1) : tz_D (T + 9) s (fun a U => fL_act_p54 a (nI n) x3 x4 (nI g) x6 U) := by
  exact tz_D_a hJ (q := 2) (by decide) (by decide) (fun a U h => by
    unfold fL_act_p54
    rw [tz_q16 hn, if_neg (by omega), if_neg (by omega), if_pos (by omega), tz_b2i]
    exact gc_10)
theorem tz_p54_2 {x3 x4 x6 : Int32} (hJ : tz_J T s) (hg : g < tp_cl (s.1 0)) (hn : n < 2147483648) (hc : n % 16 = 2) : tz_D (T + 9) s (fun a U => fL_act_p54 a (nI n) x3 x4 (nI g) x6 U) := by
  have hr := hJ.2.1.1.1.1
  have b0 := (tp_r0 hr).2
  have hd := (hJ.2.1.2.1.2 g hg).1
  obtain ⟨d, d2, d1, d3⟩ := tp_xx (tp_rga hr (show g < 3 by omega))
  have d3 : tz_d s.1 g = d := d3
  exact tz_D_a hJ (q := 4) (by decide) (by decide) (fun a U h => by
    unfold fL_act_p54
    rw [tz_q16 hn, if_neg (by omega), if_neg (by omega), if_neg (by omega), if_pos (by omega), gT_0 (by rw [h]; exact hr) (by rw [h]; exact hg), tp_b2S, h, d1, tl_gs (by rw [tp_k0, tp_eq (by omega) (by decide)]; omega), tz_b2i, ← h]
    exact rfl)
theorem tz_p54_3 {x3 x4 x6 : Int32} (hJ : tz_J T s) (hg : g < tp_cl (s.1 0)) (hn : n < 2147483648) (hc : n % 16 = 3) : tz_D (T + 9) s (fun a U => fL_act_p54 a (nI n) x3 x4 (nI g) x6 U) := by
  have hr := hJ.2.1.1.1.1
  have b0 := (tp_r0 hr).2
  have hd := (hJ.2.1.2.1.2 g hg).1
  obtain ⟨d, d2, d1, d3⟩ := tp_xx (tp_rga hr (show g < 3 by omega))
  have d3 : tz_d s.1 g = d := d3
  exact tz_D_a hJ (q := 4) (by decide) (by decide) (fun a U h => by
    unfold fL_act_p54
    rw [tz_q16 hn, if_neg (by omega), if_neg (by omega), if_neg (by omega), if_neg (by omega), if_pos (by omega), gT_0 (by rw [h]; exact hr) (by rw [h]; exact hg), tp_b2S, h, d1, tl_gs (by rw [tp_k0, tp_eq (by omega) (by decide)]; omega), tz_b2i, ← h]
    exact rfl)
theorem tz_p54_4 {x3 x4 x6 : Int32} (hJ : tz_J T s) (hg : g < tp_cl (s.1 0)) (hn : n < 2147483648) (hc : n % 16 = 4) : tz_D (T + 9) s (fun a U => fL_act_p54 a (nI n) x3 x4 (nI g) x6 U) := by
  have hr := hJ.2.1.1.1.1
  have b0 := (tp_r0 hr).2
  have hd := (hJ.2.1.2.1.2 g hg).1
  obtain ⟨d, d2, d1, d3⟩ := tp_xx (tp_rga hr (show g < 3 by omega))
  have d3 : tz_d s.1 g = d := d3
  exact tz_D_a hJ (q := 6) (by decide) (by decide) (fun a U h => by
    unfold fL_act_p54
    rw [tz_q16 hn, if_neg (by omega), if_neg (by omega), if_neg (by omega), if_neg (by omega), if_neg (by omega), if_pos (by omega), gT_0 (by rw [h]; exact hr) (by rw [h]; exact hg), tp_b2S, h, d1, tl_gs (by rw [tp_k0, tp_eq (by omega) (by decide)]; omega), tz_b2i, ← h]
    exact gc_13)
theorem tz_p54_5 {x3 x4 x6 : Int32} (hJ : tz_J T s) (hg : g < tp_cl (s.1 0)) (hn : n < 2147483648) (hc : n % 16 = 5) : tz_D (T + 9) s (fun a U => fL_act_p54 a (nI n) x3 x4 (nI g) x6 U) := by
  have hr := hJ.2.1.1.1.1
  have b0 := (tp_r0 hr).2
  have hd := (hJ.2.1.2.1.2 g hg).1
  obtain ⟨d, d2, d1, d3⟩ := tp_xx (tp_rga hr (show g < 3 by omega))
  have d3 : tz_d s.1 g = d := d3
  exact tz_D_a hJ (q := 6) (by decide) (by decide) (fun a U h => by
    unfold fL_act_p54
    rw [tz_q16 hn, if_neg (by omega), if_neg (by omega), if_neg (by omega), if_neg (by omega), if_neg (by omega), if_neg (by omega), if_pos (by omega), gT_0 (by rw [h]; exact hr) (by rw [h]; exact hg), tp_b2S, h, d1, tl_gs (by rw [tp_k0, tp_eq (by omega) (by decide)]; omega), tz_b2i, ← h]
    exact gc_13)
theorem tz_p54_6 {x3 x4 x6 : Int32} (hJ : tz_J T s) (hg : g < tp_cl (s.1 0)) (hn : n < 2147483648) (hc : n % 16 = 6) : tz_D (T + 9) s (fun a U => fL_act_p54 a (nI n) x3 x4 (nI g) x6 U) := by
  exact tz_D_a hJ (q := 7) (by decide) (by decide) (fun a U h => by
    unfold fL_act_p54
    rw [tz_q16 hn, if_neg (by omega), if_neg (by omega), if_neg (by omega), if_neg (by omega), if_neg (by omega), if_neg (by omega), if_neg (by omega), if_pos (by omega), tz_b2i]
    exact gc_14)
theorem tz_p54_7 {x3 x4 x6 : Int32} (hJ : tz_J T s) (hg : g < tp_cl (s.1 0)) (hn : n < 2147483648) (hc : n % 16 = 7) : tz_D (T + 9) s (fun a U => fL_act_p54 a (nI n) x3 x4 (nI g) x6 U) := by
  exact tz_D_a hJ (q := 8) (by decide) (by decide) (fun a U h => by
    unfold fL_act_p54
    rw [tz_q16 hn, if_neg (by omega), if_neg (by omega), if_neg (by omega), if_neg (by omega), if_neg (by omega), if_neg (by omega), if_neg (by omega), if_neg (by omega), if_pos (by omega), tz_b2i]
    exact gc_15)
theorem tz_p54_8 {x3 x4 x6 : Int32} (hJ : tz_J T s) (hg : g < tp_cl (s.1 0)) (hn : n < 2147483648) (hc : n % 16 = 8) : tz_D (T + 9) s (fun a U => fL_act_p54 a (nI n) x3 x4 (nI g) x6 U) := by
  by_cases c : x3 - x3 / 2 * 2 = 0
  · exact tz_D_a hJ (q := 9) (by decide) (by decide) (fun a U h => by
      unfold fL_act_p54
      rw [tz_q16 hn, if_neg (by omega), if_neg (by omega), if_neg (by omega), if_neg (by omega), if_neg (by omega), if_neg (by omega), if_neg (by omega), if_neg (by omega), if_neg (by omega), if_pos (by omega), if_pos c, tz_b2i]
      exact gc_16)
  · exact tz_D_a hJ (q := 9) (by decide) (by decide) (fun a U h => by
      unfold fL_act_p54
      rw [tz_q16 hn, if_neg (by omega), if_neg (by omega), if_neg (by omega), if_neg (by omega), if_neg (by omega), if_neg (by omega), if_neg (by omega), if_neg (by omega), if_neg (by omega), if_pos (by omega), if_neg c, tz_b2i]
      exact gc_16)
theorem tz_p54_9 {x3 x4 x6 : Int32} (hJ : tz_J T s) (hg : g < tp_cl (s.1 0)) (hn : n < 2147483648) (hc : n % 16 = 9) : tz_D (T + 9) s (fun a U => fL_act_p54 a (nI n) x3 x4 (nI g) x6 U) := by
  by_cases c : x4 = 0
  · exact tz_D_le (tz_D_i (x := -1) hJ (fun a U h => by
      unfold fL_act_p54
      rw [tz_q16 hn, if_neg (by omega), if_neg (by omega), if_neg (by omega), if_neg (by omega), if_neg (by omega), if_neg (by omega), if_neg (by omega), if_neg (by omega), if_neg (by omega), if_neg (by omega), if_pos (by omega), if_pos c]
      rfl)) (Nat.le_add_right _ _)
  · exact tz_D_a hJ (q := 3) (by decide) (by decide) (fun a U h => by
      unfold fL_act_p54
      rw [tz_q16 hn, if_neg (by omega), if_neg (by omega), if_neg (by omega), if_neg (by omega), if_neg (by omega), if_neg (by omega), if_neg (by omega), if_neg (by omega), if_neg (by omega), if_neg (by omega), if_pos (by omega), if_neg c, tl_gs c, tz_b2i]
      exact gc_11)
theorem tz_p54_10 {x3 x4 x6 : Int32} (hJ : tz_J T s) (hg : g < tp_cl (s.1 0)) (hn : n < 2147483648) (hc : n % 16 = 10) : tz_D (T + 9) s (fun a U => fL_act_p54 a (nI n) x3 x4 (nI g) x6 U) := by
  by_cases c : 2 ≤ s.1 3
  · refine tz_D_le (tz_D_of (F := tz_undo) (tz_J_undo hJ (fun t ht e => ?_)) (fun a U h => ?_)) (Nat.le_add_right _ _)
    · rw [e, tp_k2, tp_le (by decide) (by omega)] at c
      omega
    · unfold fL_act_p54
      rw [tz_q16 hn, if_neg (by omega), if_neg (by omega), if_neg (by omega), if_neg (by omega), if_neg (by omega), if_neg (by omega), if_neg (by omega), if_neg (by omega), if_neg (by omega), if_neg (by omega), if_neg (by omega), if_pos (by omega), gA_3, tp_b2S, h, if_pos c, tz_b2i, gc_18]
      unfold fL_tryUndo
      rw [h]
  · exact tz_D_le (tz_D_i (x := -1) hJ (fun a U h => by
      unfold fL_act_p54
      rw [tz_q16 hn, if_neg (by omega), if_neg (by omega), if_neg (by omega), if_neg (by omega), if_neg (by omega), if_neg (by omega), if_neg (by omega), if_neg (by omega), if_neg (by omega), if_neg (by omega), if_neg (by omega), if_pos (by omega), gA_3, tp_b2S, h, if_neg c])) (Nat.le_add_right _ _)
theorem tz_p54_11 {x3 x4 x6 : Int32} (hJ : tz_J T s) (hg : g < tp_cl (s.1 0)) (hn : n < 2147483648) (hc : n % 16 = 11) : tz_D (T + 9) s (fun a U => fL_act_p54 a (nI n) x3 x4 (nI g) x6 U) := by
  by_cases c : x3 - x3 / 2 * 2 = 0
  · exact tz_D_le (tz_D_of (F := tz_keep _) (tz_J_keep hJ _) (fun a U h => by
      unfold fL_act_p54
      rw [tz_q16 hn, if_neg (by omega), if_neg (by omega), if_neg (by omega), if_neg (by omega), if_neg (by omega), if_neg (by omega), if_neg (by omega), if_neg (by omega), if_neg (by omega), if_neg (by omega), if_neg (by omega), if_neg (by omega), if_pos c, tz_b2i]
      exact gc_22)) (Nat.le_add_right _ _)
  · exact tz_D_le (tz_D_of (F := tz_back _) (tz_J_back hJ _) (fun a U h => by
      unfold fL_act_p54
      rw [tz_q16 hn, if_neg (by omega), if_neg (by omega), if_neg (by omega), if_neg (by omega), if_neg (by omega), if_neg (by omega), if_neg (by omega), if_neg (by omega), if_neg (by omega), if_neg (by omega), if_neg (by omega), if_neg (by omega), if_neg c, tz_b2i]
      exact gc_23)) (Nat.le_add_right _ _)
theorem tz_p54_12 {x3 x4 x6 : Int32} (hJ : tz_J T s) (hg : g < tp_cl (s.1 0)) (hn : n < 2147483648) (hc : 12 ≤ n % 16) : tz_D (T + 9) s (fun a U => fL_act_p54 a (nI n) (nI (n / 16)) x4 (nI g) x6 U) := by
  have e9 : nI (n / 16) - nI (n / 16) / 9 * 9 = nI (n / 16 % 9) := pk_rem (d := 9) (by omega) (by decide) (by decide)
  refine tz_D_of (F := tz_act 10 (nI (1 + n / 16 % 9)) 0 0 0) (tz_J_le (tz_J_act hJ (by decide) (by decide)) ?_) (fun a U h => ?_)
  · unfold tz_hq
    rw [if_pos rfl, tz_cn (by omega)]
    omega
  · unfold fL_act_p54
    rw [tz_q16 hn, if_pos (by omega), tz_b2i, e9, show (1 : Int32) + nI (n / 16 % 9) = nI (1 + n / 16 % 9) from nI_add 1 _]
    exact gc_17
theorem tz_p54 {x4 x6 : Int32} (hJ : tz_J T s) (hg : g < tp_cl (s.1 0)) (hn : n < 2147483648) : tz_D (T + 9) s (fun a U => fL_act_p54 a (nI n) (nI (n / 16)) x4 (nI g) x6 U) := by
  have : n % 16 = 0 ∨ n % 16 = 1 ∨ n % 16 = 2 ∨ n % 16 = 3 ∨ n % 16 = 4 ∨ n % 16 = 5 ∨ n % 16 = 6 ∨ n % 16 = 7 ∨ n % 16 = 8 ∨ n % 16 = 9 ∨ n % 16 = 10 ∨ n % 16 = 11 ∨ 12 ≤ n % 16 := by omega
  rcases this with c | c | c | c | c | c | c | c | c | c | c | c | c
  · exact tz_p54_0 hJ hg hn c
  · exact tz_p54_1 hJ hg hn c
  · exact tz_p54_2 hJ hg hn c
  · exact tz_p54_3 hJ hg hn c
  · exact tz_p54_4 hJ hg hn c
  · exact tz_p54_5 hJ hg hn c
  · exact tz_p54_6 hJ hg hn c
  · exact tz_p54_7 hJ hg hn c
  · exact tz_p54_8 hJ hg hn c
  · exact tz_p54_9 hJ hg hn c
  · exact tz_p54_10 hJ hg hn c
  · exact tz_p54_11 hJ hg hn c
  · exact tz_p54_12 (x3 := 0) hJ hg hn c
/-- act: one thing done -/
theorem tz_act_D (hJ : tz_J T s) (hn : n < 2147483648) : tz_D (T + 9) s (fun a U => fL_act a (nI n) U) := by
  have hr := hJ.2.1.1.1.1
  have hG := hJ.2.1.2.1.1
  obtain ⟨G, G2, G1, G3⟩ := tp_xx (tp_r0 hr)
  have G3 : tp_cl (s.1 0) = G := G3
  rw [G3] at hG
  have hg : n / 16 % G < tp_cl (s.1 0) := by rw [G3]; exact Nat.mod_lt _ hG
  have e16 : nI n / 16 = nI (n / 16) := pk_div (d := 16) hn (by decide) (by decide)
  have eg : nI (n / 16) - nI (n / 16) / nI G * nI G = nI (n / 16 % G) := pk_rem (by omega) hG (by omega)
  have g0 : ¬ nI G = 0 := by rw [tp_k0, tp_eq (by omega) (by decide)]; omega
  by_cases c : s.1 2 = 0
  · obtain ⟨r, s', h1, h2⟩ := tz_p54 (x4 := s.1 1) (x6 := 0) hJ hg hn
    refine ⟨r, s', h1, fun a U h => ?_⟩
    have := h2 a U h
    show fL_act a (nI n) U = _
    unfold fL_act
    rw [tp_L, gA_0, tp_b2S, gA_1, tp_b2S, gA_2, tp_b2S, h, G1, tl_gs g0, tp_L, if_pos c, e16, eg]
    exact this
  · obtain ⟨r, s', h1, h2⟩ := tz_p54 (x4 := s.1 1) (x6 := nI (n / 16) / 3 - nI (n / 16) / 3 / s.1 2 * s.1 2) hJ hg hn
    refine ⟨r, s', h1, fun a U h => ?_⟩
    have := h2 a U h
    show fL_act a (nI n) U = _
    unfold fL_act
    rw [tp_L, gA_0, tp_b2S, gA_1, tp_b2S, gA_2, tp_b2S, h, G1, tl_gs g0, tp_L, if_neg c, tl_gs c, e16, eg]
    exact this
end TZD
