/-! The reference's reading of a text: commands. -/
section TPC
variable {u : tl_S} {m c : Nat} {o t : tp_R} {tx : tp_R} {len : Nat}
theorem tp_do_T {q : Nat} {a b d e : Int32} {r : tp_R} {x : Int32} (h : tp_rf q a b d e r = 0) : tp_do q a b d e r x = (tp_pf q a b d e r, x) := by unfold tp_do; rw [if_pos h]
theorem tp_do_F {q : Nat} {a b d e : Int32} {r : tp_R} {x : Int32} (h : ¬ tp_rf q a b d e r = 0) : tp_do q a b d e r x = (r, x + 1) := by unfold tp_do; rw [if_neg h]
theorem tp_iwN {n L B : Nat} {l h : Int32} (hl : l = nI L) (hh : h = nI B) (h1 : L ≤ n) (h2 : n ≤ B) (hB : B < 2147483648) : tp_iw (nI n) l h = true := by
  subst hl hh
  unfold tp_iw
  simp (disch := omega) only [tp_lt]
  simp; omega
section TPC2
end TPC2
end TPC
