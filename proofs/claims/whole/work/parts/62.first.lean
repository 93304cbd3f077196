/-! What the constructors leave is a state of both. -/
def tl_w0 (o k : Nat) : Int32 := if tl_kinds[o]? = some 3 ∧ k = 4 then -1 else if tl_kinds[o]? = some 5 ∧ k = 14 then 4 else if o = 561 ∧ k = 13 then -1 else if o = 561 ∧ k = 16 then 4 else 0
theorem tl_u0w (z o k : Nat) : (tl_u0 z).1 (z + o) k = tl_w0 o k := by
  have h1 : tl_T z (z + o) = tl_kinds[o]? := by
    unfold tl_T
    rw [if_pos (by omega), Nat.add_sub_cancel_left]
  have h2 : (z + o = z + 561) = (o = 561) := propext ⟨fun h => by omega, fun h => by omega⟩
  show (if tl_T z (z + o) = some 3 ∧ k = 4 then (-1 : Int32) else if tl_T z (z + o) = some 5 ∧ k = 14 then 4 else if z + o = z + 561 ∧ k = 13 then -1 else if z + o = z + 561 ∧ k = 16 then 4 else 0) = _
  unfold tl_w0
  simp only [h1, h2]
theorem tl_w0f : ∀ i, i < 80 → tl_w0 (4 + tp_of i) (tp_fld i) = tp_clr i ∧ tl_w0 (33 + tp_of i) (tp_fld i) = tp_clr i := by decide +kernel
theorem tl_w0z {o : Nat} (h : tl_kinds[o]? ≠ some 3 ∧ tl_kinds[o]? ≠ some 5 ∧ o ≠ 561) (k : Nat) : tl_w0 o k = 0 := by
  unfold tl_w0
  rw [if_neg (fun e => h.1 e.1), if_neg (fun e => h.2.1 e.1), if_neg (fun e => h.2.2 e.1), if_neg (fun e => h.2.2 e.1)]
theorem tl_w0n (k : Nat) : tl_w0 561 k = tp_clr k := by
  have h : tl_kinds[561]? = some 13 := by decide +kernel
  unfold tl_w0 tp_clr
  rw [h, if_neg (fun e => absurd (Option.some.inj e.1) (by decide)), if_neg (c := some 13 = some 5 ∧ k = 14) (fun e => absurd (Option.some.inj e.1) (by decide))]
  by_cases c : k = 13
  · rw [if_pos ⟨rfl, c⟩, if_pos c]
  · rw [if_neg (fun e => c e.2), if_neg c]
    by_cases d : k = 16
    · rw [if_pos ⟨rfl, d⟩, if_pos d]
    · rw [if_neg (fun e => d e.2), if_neg d]
theorem tl_Mp0 (z a : Nat) : tp_Mp a (tl_u0 z) := by
  refine ⟨fun k hk => ⟨?_, ?_⟩, fun j hj k hk h => ?_⟩
  · show a + 5 < a + 5 + 1 + k; omega
  · show a + 5 + 1 + k < a + 12; omega
  · have h : a + 5 + 1 + j = a + 5 + 1 + k := h
    omega
theorem tl_Mn0 {z a : Nat} (h : a = 4 ∨ a = 33) : tp_Mn (z + a) tp_clr (tl_u0 z) := by
  refine ⟨fun i hi => ?_, tl_Mp0 z (z + a), fun k hk h8 => absurd h8 (Nat.not_lt_zero _)⟩
  rw [Nat.add_assoc, tl_u0w]
  rcases h with rfl | rfl
  · exact (tl_w0f i hi).1
  · exact (tl_w0f i hi).2
theorem tl_JJ0 (z : Nat) : tp_JJ z (tl_u0 z) := by
  refine ⟨0, fun _ => 0, tp_clr, 0, fun _ => tp_clr, fun _ => false, fun _ => tp_clr, ⟨⟨?_, fun i hi => absurd hi (Nat.not_lt_zero _), tl_Mn0 (Or.inl rfl), tl_Mn0 (Or.inr rfl), tl_Mp0 z _, fun s hs => ⟨tl_Mp0 z _, ?_, fun h => by cases h⟩⟩, ⟨0, by decide, ?_, ?_, fun i hi => absurd hi (Nat.not_lt_zero _)⟩, fun j hj => tl_Mp0 z _⟩, ⟨?_, fun i hi => absurd hi (Nat.not_lt_zero _), ?_, fun j hj => ?_, ?_, fun i hi => absurd hi (Nat.not_lt_zero _), fun s hs => ?_, fun s hs h => by cases h⟩, ⟨by decide, fun i hi => absurd hi (Nat.not_lt_zero _), tp_Ok_clr, by decide, fun i hi => absurd hi (Nat.not_lt_zero _), fun s hs h => by cases h⟩⟩
  · rw [tl_u0w, tl_w0z (by decide +kernel)]; rfl
  · rw [tl_u0w, tl_w0z (by decide +kernel)]; rfl
  · rw [tl_u0w, tl_w0z (by decide +kernel)]; rfl
  · rw [tl_u0w, tl_w0z (by decide +kernel)]; rfl
  · rw [tl_u0w, tl_w0z (by decide +kernel)]; rfl
  · funext k
    show (tl_u0 z).1 (z + 561) k = _
    rw [tl_u0w, tl_w0n]
  · show (tl_u0 z).1 (z + 562) j = _
    rw [tl_u0w, tl_w0z (by decide +kernel)]
  · rw [tl_u0w, tl_w0z (by decide +kernel)]; rfl
  · show (tl_u0 z).1 (z + 565) s = _
    rw [tl_u0w, tl_w0z (by decide +kernel)]; rfl
