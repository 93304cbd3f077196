/-! The reference's reading of a text: a command. -/
section TPD
variable {u : tl_S} {m : Nat} {o t : tp_R} {tx : tp_R} {len : Nat}
theorem tp_wcg {c : Nat} (h : m ≠ c) : (tp_w (tp_w u c t) m o).1 c = t := by rw [tp_wgn (Ne.symm h), tp_wg]
theorem tp_wcu {c k : Nat} {x : Int32} (h : m ≠ c) : (tl_u (tp_w (tp_w u c t) m o).1 c k x, (tp_w (tp_w u c t) m o).2) = tp_w (tp_w u c (tp_up t k x)) m o := by
  rw [tp_wc h, tp_wu, tp_wc h]
end TPD
