/-! A mine as a text: what is read from it. -/
def tp_vo : Option Nat → Int32
  | none => -1
  | some v => nI v
/-- digits: k more of them behind the value v, at the place p -/
def tp_fg (tx : tp_R) (len lo hi : Nat) : Nat → Nat → Nat → Option Nat × Nat
  | 0, v, p => (some v, p)
  | k + 1, v, p =>
    if p < len then
      (if 48 ≤ tp_cl (tx p) ∧ tp_cl (tx p) ≤ 57 then
        (if hi < v + (tp_cl (tx p) - 48) * 10 ^ k ∨ v + (tp_cl (tx p) - 48) * 10 ^ k + 10 ^ k ≤ lo then (none, p) else tp_fg tx len lo hi k (v + (tp_cl (tx p) - 48) * 10 ^ k) (p + 1))
      else (none, p))
    else (none, p)
def tp_sq (tx : tp_R) (len : Nat) (x : Option Nat) (w lo hi p : Nat) : Option Nat × Nat := match x with
  | none => (none, p)
  | some _ => tp_fg tx len lo hi w 0 p
/-- a command behind its letter: read whole?, which, its numbers, the place behind it -/
def tp_cmd (tx : tp_R) (len ch p : Nat) : Bool × Nat × Int32 × Int32 × Int32 × Int32 × Nat :=
  if ch = 103 then ((tp_sq tx len (some 0) 2 1 60 p).1.isSome, 1, tp_vo (tp_sq tx len (some 0) 2 1 60 p).1, 0, 0, 0, (tp_sq tx len (some 0) 2 1 60 p).2)
  else if ch = 109 then
    (fun x : Option Nat × Nat => (fun y : Option Nat × Nat => (y.1.isSome, 2, tp_vo x.1, tp_vo y.1, 0, 0, y.2)) (tp_sq tx len x.1 1 1 5 x.2)) (tp_sq tx len (some 0) 1 0 2 p)
  else if ch = 108 then
    (fun x : Option Nat × Nat => (fun y : Option Nat × Nat => (fun z : Option Nat × Nat => (fun w : Option Nat × Nat => (w.1.isSome, 4, tp_vo x.1, tp_vo y.1, tp_vo z.1, tp_vo w.1, w.2)) (tp_sq tx len z.1 2 0 99 z.2)) (tp_sq tx len y.1 1 1 9 y.2)) (tp_sq tx len x.1 2 0 59 x.2)) (tp_sq tx len (some 0) 1 0 2 p)
  else if ch = 115 then ((tp_sq tx len (some 0) 3 0 999 p).1.isSome, 5, tp_vo (tp_sq tx len (some 0) 3 0 999 p).1, 0, 0, 0, (tp_sq tx len (some 0) 3 0 999 p).2)
  else if ch = 104 then
    (fun x : Option Nat × Nat => (fun y : Option Nat × Nat => (fun z : Option Nat × Nat => (z.1.isSome, 6, tp_vo x.1, tp_vo y.1, tp_vo z.1, 0, z.2)) (tp_sq tx len y.1 2 0 59 y.2)) (tp_sq tx len x.1 1 0 2 x.2)) (tp_sq tx len (some 0) 1 0 7 p)
  else if ch = 102 then
    (fun x : Option Nat × Nat => (fun y : Option Nat × Nat => (y.1.isSome, 7, tp_vo x.1, tp_vo y.1, 0, 0, y.2)) (tp_sq tx len x.1 2 1 99 x.2)) (tp_sq tx len (some 0) 1 0 7 p)
  else if ch = 97 then ((tp_sq tx len (some 0) 1 0 1 p).1.isSome, 9, 1, tp_vo (tp_sq tx len (some 0) 1 0 1 p).1, 0, 0, (tp_sq tx len (some 0) 1 0 1 p).2)
  else if ch = 116 then ((tp_sq tx len (some 0) 2 1 60 p).1.isSome, 10, tp_vo (tp_sq tx len (some 0) 2 1 60 p).1, 0, 0, 0, (tp_sq tx len (some 0) 2 1 60 p).2)
  else (false, 0, 0, 0, 0, 0, p - 1)
/-- a command is done, or left out -/
def tp_do (q : Nat) (a b c d : Int32) (r : tp_R) (o : Int32) : tp_R × Int32 := if tp_rf q a b c d r = 0 then (tp_pf q a b c d r, o) else (r, o + 1)
/-- the commands from the place p on: where the text is wrong, the mine, how many are left out -/
def tp_run (tx : tp_R) (len : Nat) : Nat → Nat → tp_R → Int32 → Int32 × tp_R × Int32
  | 0, _, r, o => (-1, r, o)
  | f + 1, p, r, o =>
    if p < len then
      (fun K : Bool × Nat × Int32 × Int32 × Int32 × Int32 × Nat =>
        if K.1 then (fun D : tp_R × Int32 => tp_run tx len f K.2.2.2.2.2.2 D.1 D.2) (tp_do K.2.1 K.2.2.1 K.2.2.2.1 K.2.2.2.2.1 K.2.2.2.2.2.1 r o)
        else (nI K.2.2.2.2.2.2, r, o)) (tp_cmd tx len (tp_cl (tx p)) (p + 1))
    else (-1, r, o)
def tp_txt (tx : tp_R) (len : Nat) : Int32 × tp_R × Int32 :=
  if len = 0 then (0, tp_clr, 0) else if tx 0 = 84 then tp_run tx len len 1 tp_clr 0 else (0, tp_clr, 0)
/-! facts -/
section TPP
variable {tx : tp_R} {len : Nat}
theorem tp_fg_f {lo hi : Nat} : ∀ (k v p : Nat), p ≤ len → p ≤ (tp_fg tx len lo hi k v p).2 ∧ (tp_fg tx len lo hi k v p).2 ≤ len
  | 0, _, p, h => ⟨Nat.le_refl p, h⟩
  | k + 1, v, p, h => by
    unfold tp_fg
    split
    · split
      · split
        · exact ⟨Nat.le_refl p, h⟩
        · have : p + 1 ≤ (tp_fg tx len lo hi k (v + (tp_cl (tx p) - 48) * 10 ^ k) (p + 1)).2 ∧ (tp_fg tx len lo hi k (v + (tp_cl (tx p) - 48) * 10 ^ k) (p + 1)).2 ≤ len := tp_fg_f k _ (p + 1) (by omega)
          exact ⟨by omega, this.2⟩
      · exact ⟨Nat.le_refl p, h⟩
    · exact ⟨Nat.le_refl p, h⟩
theorem tp_sq_f {x : Option Nat} {w lo hi p : Nat} (h : p ≤ len) : p ≤ (tp_sq tx len x w lo hi p).2 ∧ (tp_sq tx len x w lo hi p).2 ≤ len := by
  unfold tp_sq
  split
  · exact ⟨Nat.le_refl p, h⟩
  · exact tp_fg_f w 0 p h
theorem tp_cmd_f {ch p : Nat} (h : p ≤ len) : (tp_cmd tx len ch p).2.2.2.2.2.2 ≤ len ∧ ((tp_cmd tx len ch p).1 = true → p ≤ (tp_cmd tx len ch p).2.2.2.2.2.2) := by
  unfold tp_cmd
  repeat' split
  all_goals (try exact ⟨(tp_sq_f h).2, fun _ => (tp_sq_f h).1⟩)
  all_goals (try exact ⟨(tp_sq_f (tp_sq_f h).2).2, fun _ => Nat.le_trans (tp_sq_f h).1 (tp_sq_f (tp_sq_f h).2).1⟩)
  all_goals (try exact ⟨(tp_sq_f (tp_sq_f (tp_sq_f h).2).2).2, fun _ => Nat.le_trans (Nat.le_trans (tp_sq_f h).1 (tp_sq_f (tp_sq_f h).2).1) (tp_sq_f (tp_sq_f (tp_sq_f h).2).2).1⟩)
  all_goals (try exact ⟨(tp_sq_f (tp_sq_f (tp_sq_f (tp_sq_f h).2).2).2).2, fun _ => Nat.le_trans (Nat.le_trans (Nat.le_trans (tp_sq_f h).1 (tp_sq_f (tp_sq_f h).2).1) (tp_sq_f (tp_sq_f (tp_sq_f h).2).2).1) (tp_sq_f (tp_sq_f (tp_sq_f (tp_sq_f h).2).2).2).1⟩)
  exact ⟨by show p - 1 ≤ len; omega, fun q => by cases q⟩
end TPP
