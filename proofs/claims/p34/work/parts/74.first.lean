/-! What the constructors leave is a state of both objects. -/
def tz_s0 : tz_S := (tp_clr, (0, fun _ => tp_clr), (fun _ => false, fun _ => tp_clr))
def tz_w0 (o k : Nat) : Int32 := if tl_kinds[o]? = some 3 ∧ k = 4 then -1 else if tl_kinds[o]? = some 5 ∧ k = 14 then 4 else 0
theorem tz_u0w (z o k : Nat) : (tl_u0 z).1 (z + o) k = tz_w0 o k := by
  have h1 : tl_T z (z + o) = tl_kinds[o]? := by
    unfold tl_T
    rw [if_pos (by omega), Nat.add_sub_cancel_left]
  show (if tl_T z (z + o) = some 3 ∧ k = 4 then (-1 : Int32) else if tl_T z (z + o) = some 5 ∧ k = 14 then 4 else 0) = _
  unfold tz_w0
  rw [h1]
theorem tz_w0f : ∀ i, i < 80 → (tz_w0 (4 + tp_of i) (tp_fld i) = tp_clr i ∧ tz_w0 (33 + tp_of i) (tp_fld i) = tp_clr i) ∧ tz_w0 (563 + tp_of i) (tp_fld i) = tp_clr i ∧ tz_w0 (592 + tp_of i) (tp_fld i) = tp_clr i := by decide +kernel
theorem tz_w0z {o : Nat} (h : tl_kinds[o]? ≠ some 3 ∧ tl_kinds[o]? ≠ some 5) (k : Nat) : tz_w0 o k = 0 := by
  unfold tz_w0
  rw [if_neg (fun e => h.1 e.1), if_neg (fun e => h.2 e.1)]
theorem tz_Mp0 (z a : Nat) : tp_Mp a (tl_u0 z) := by
  refine ⟨fun k hk => ⟨?_, ?_⟩, fun j hj k hk h => ?_⟩
  · show a + 5 < a + 5 + 1 + k; omega
  · show a + 5 + 1 + k < a + 12; omega
  · have h : a + 5 + 1 + j = a + 5 + 1 + k := h
    omega
theorem tz_Mn0 {z a : Nat} (h : a = 4 ∨ a = 33 ∨ a = 563 ∨ a = 592) : tp_Mn (z + a) tp_clr (tl_u0 z) := by
  refine ⟨fun i hi => ?_, tz_Mp0 z (z + a), fun k hk h8 => absurd h8 (Nat.not_lt_zero _)⟩
  rw [Nat.add_assoc, tz_u0w]
  have := tz_w0f i hi
  rcases h with rfl | rfl | rfl | rfl
  · exact this.1.1
  · exact this.1.2
  · exact this.2.1
  · exact this.2.2
theorem tz_CI0 (z : Nat) : tz_I z tz_s0 (tl_u0 z) := by
  refine ⟨⟨?_, fun i hi => absurd hi (Nat.not_lt_zero _), tz_Mn0 (Or.inl rfl), tz_Mn0 (Or.inr (Or.inl rfl)), tz_Mp0 z _, fun s hs => ⟨tz_Mp0 z _, ?_, fun h => by cases h⟩⟩, ⟨0, by decide, ?_, ?_, fun i hi => absurd hi (Nat.not_lt_zero _)⟩, fun j hj => tz_Mp0 z _⟩
  · rw [tz_u0w, tz_w0z (by decide +kernel)]; rfl
  · rw [tz_u0w, tz_w0z (by decide +kernel)]; rfl
  · rw [tz_u0w, tz_w0z (by decide +kernel)]; rfl
  · rw [tz_u0w, tz_w0z (by decide +kernel)]; rfl
theorem tz_CI1 (z : Nat) : tz_I (z + 559) tz_s0 (tl_u0 z) := by
  refine ⟨⟨?_, fun i hi => absurd hi (Nat.not_lt_zero _), ?_, ?_, tz_Mp0 z _, fun s hs => ⟨tz_Mp0 z _, ?_, fun h => by cases h⟩⟩, ⟨0, by decide, ?_, ?_, fun i hi => absurd hi (Nat.not_lt_zero _)⟩, fun j hj => tz_Mp0 z _⟩
  · rw [Nat.add_assoc, tz_u0w, tz_w0z (by decide +kernel)]; rfl
  · rw [Nat.add_assoc]; exact tz_Mn0 (Or.inr (Or.inr (Or.inl rfl)))
  · rw [Nat.add_assoc]; exact tz_Mn0 (Or.inr (Or.inr (Or.inr rfl)))
  · rw [Nat.add_assoc, tz_u0w, tz_w0z (by decide +kernel)]; rfl
  · rw [Nat.add_assoc, tz_u0w, tz_w0z (by decide +kernel)]; rfl
  · rw [Nat.add_assoc, tz_u0w, tz_w0z (by decide +kernel)]; rfl
theorem tz_SO0 : tz_SO tz_s0 := ⟨by decide, fun i hi => absurd hi (Nat.not_lt_zero _), tp_Ok_clr, by decide, fun i hi => absurd hi (Nat.not_lt_zero _), fun s hs h => by cases h⟩
theorem tz_A0 (E : tl_E) : tz_A E (fun _ => tz_s0) (tl_u0 E.2.1) := by
  intro a ha
  rcases ha with rfl | rfl
  · exact ⟨tz_CI0 _, tz_SO0⟩
  · exact ⟨tz_CI1 _, tz_SO0⟩
