/-! The reference's answers. -/
def tp_oil (r : tp_R) : Nat → Int32
  | 0 => 0
  | n + 1 => tp_oil r n + r (49 + 4 * n)
def tp_ab (r : tp_R) (w : Nat) : Int32 :=
  if w = 0 then r 0 else if w = 1 then r 1 else if w = 2 then r 2 else if w = 3 then r 3 else if w = 4 then r 4 else if w = 5 then tp_oil r (tp_cl (r 2)) else if w = 6 then r 14
  else if w = 7 then r 5 else if w = 8 then r 6 else if w = 9 then r 7 else if w = 10 then r 8 else if w = 11 then r 9 else r 10
def tp_isl (r : tp_R) (g : Nat) (l : Nat) : Bool := decide (r (50 + 4 * l) = nI g)
def tp_gq (r : tp_R) (g w : Nat) : Int32 :=
  if w = 0 then r (18 + 2 * g) else if w = 1 then r (19 + 2 * g) else if w = 2 then tp_hd (nI g) (r (18 + 2 * g)) else if w = 3 then tp_b01 (tp_lit r (nI g) (r (18 + 2 * g)))
  else if w = 4 then nI (tp_cnt (tp_isg r g) (tp_cl (r 1))) else nI (tp_cnt (tp_isl r g) (tp_cl (r 2)))
def tp_lq (r : tp_R) (l w : Nat) : Int32 := if w = 4 then (if r (49 + 4 * l) ≤ 0 then 0 else 1) else r (48 + 4 * l + w)
def tp_dq (r : tp_R) (w : Nat) : Int32 := if w = 0 then r 11 else if w = 1 then r 12 else if w = 2 then r 13 else nI (tp_gn 1440 (tp_hal r))
def tp_litn (r : tp_R) (g : Nat) : Nat := tp_cnt (fun c => tp_lit r (nI g) (nI c)) (tp_cl (r (18 + 2 * g)))
section TQA
variable {m len : Nat} {tx now : tp_R} {hn : Nat} {hist : Nat → tp_R} {sl : Nat → Bool} {kp : Nat → tp_R} {u : tl_S}
/-! what there is -/
end TQA
