/-! The reference's reading of a text. -/
def tp_un10 : Nat → Nat
  | 0 => 0
  | k + 1 => 10 ^ k
theorem tp_le0 {n : Nat} (h : n < 2147483648) : (nI n ≤ 0) = (n ≤ 0) := tp_le h (by decide)
section TPM
variable {u : tl_S} {m c : Nat} {o t : tp_R} {tx : tp_R} {len : Nat}
/-- the world over the object's row and a state's row -/
theorem tp_wc (h : m ≠ c) : tp_w (tp_w u c t) m o = tp_w (tp_w u m o) c t := by
  unfold tp_w
  refine Prod.ext ?_ rfl
  funext q
  show (if q = m then o else if q = c then t else u.1 q) = if q = c then t else if q = m then o else u.1 q
  by_cases a : q = m
  · subst a
    rw [if_pos rfl, if_neg h, if_pos rfl]
  · rw [if_neg a, if_neg a]
theorem tp_wgn {q : Nat} (h : q ≠ m) : (tp_w u m o).1 q = u.1 q := if_neg h
end TPM
