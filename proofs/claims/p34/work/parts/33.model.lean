/-! The reference as a whole. -/
/-- what holds of a state of the object -/
def tp_SO (len : Nat) (tx now : tp_R) (hn : Nat) (hist : Nat → tp_R) (sl : Nat → Bool) (kp : Nat → tp_R) : Prop :=
  len ≤ 120 ∧ (∀ i, i < len → tp_N 255 (tx i)) ∧ tp_Ok now ∧ hn ≤ 14 ∧ (∀ i, i < hn → tp_Ok (hist i)) ∧ (∀ s, s < 2 → sl s = true → tp_Ok (kp s))
def tp_ph (hn : Nat) (hist : Nat → tp_R) (now : tp_R) : Nat → tp_R := fun i => if hn = 14 then (if i = 13 then now else hist (i + 1)) else (if i = hn then now else hist i)
def tp_pn (hn : Nat) : Nat := if hn = 14 then 14 else hn + 1
theorem tp_tw (u : tl_S) (a k : Nat) (x : Int32) : (tl_u u.1 a k x, u.2) = tp_w u a (tp_up (u.1 a) k x) := by
  have h := tp_wu (u := u) (b := a) (r := u.1 a) k x
  rw [tp_w_self] at h
  exact h
theorem tp_ww {u : tl_S} {b : Nat} {r q : tp_R} : tp_w (tp_w u b r) b q = tp_w u b q := by
  unfold tp_w
  refine Prod.ext ?_ rfl
  funext z
  show (if z = b then q else if z = b then r else u.1 z) = if z = b then q else u.1 z
  split
  · rfl
  · rfl
section TPZ
variable {m len : Nat} {tx now : tp_R} {hn : Nat} {hist : Nat → tp_R} {sl : Nat → Bool} {kp : Nat → tp_R} {u : tl_S}
end TPZ
