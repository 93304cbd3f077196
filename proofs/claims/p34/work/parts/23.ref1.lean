/-! What the reference's functions compute over its rows. -/
def tp_w (u : tl_S) (b : Nat) (r : tp_R) : tl_S := (fun q => if q = b then r else u.1 q, u.2)
def tp_b01 (b : Bool) : Int32 := if b then 1 else 0
theorem tp_b01_c (b : Bool) : tp_b01 b = 0 ∨ tp_b01 b = 1 := by cases b <;> decide
theorem tp_if0 {α : Type} (b : Bool) (x y : α) : (if tp_b01 b = 0 then x else y) = if b = true then y else x := by cases b <;> rfl
theorem tp_if1 {α : Type} (b : Bool) (x y : α) : (if tp_b01 b = 1 then x else y) = if b = true then x else y := by cases b <;> rfl
theorem tp_gB {β : Type} (b : Bool) (x : Option β) : tl_g (tp_b01 b = 0 ∨ tp_b01 b = 1) x = x := if_pos (tp_b01_c b)
theorem tp_bS {α β : Type} (a : α) (f : α → Option β) : tl_b (some a) f = f a := Eq.trans rfl rfl
theorem tp_b2S {α β γ : Type} (a : α) (b : β) (f : α → β → Option γ) : tl_b2 (some (a, b)) f = f a b := Eq.trans rfl rfl
theorem tp_L {α β : Type} (v : α) (f : α → Option β) : tl_let v f = f v := Eq.trans rfl rfl
theorem tp_cmp_lt (a b : Int64) : (lg_cmp a b < 0) = (a < b) := by
  unfold lg_cmp
  by_cases c : a > b
  · rw [if_pos c]
    exact propext ⟨fun h => absurd h (by decide), fun h => absurd (Int64.lt_iff_toInt_lt.mp h) (by have := Int64.lt_iff_toInt_lt.mp c; omega)⟩
  · rw [if_neg c]
    by_cases d : a = b
    · rw [if_pos d, d]
      exact propext ⟨fun h => absurd h (by decide), fun h => absurd (Int64.lt_iff_toInt_lt.mp h) (by omega)⟩
    · rw [if_neg d]
      refine propext ⟨fun _ => ?_, fun _ => by decide⟩
      rw [gt_iff_lt, Int64.lt_iff_toInt_lt] at c
      rw [← Int64.toInt_inj] at d
      rw [Int64.lt_iff_toInt_lt]; omega
section TPR
variable {u : tl_S} {b : Nat} {r : tp_R}
theorem tp_wg : (tp_w u b r).1 b = r := if_pos rfl
theorem tp_wu (k : Nat) (x : Int32) : (tl_u (tp_w u b r).1 b k x, (tp_w u b r).2) = tp_w u b (tp_up r k x) := by
  unfold tp_w
  refine Prod.ext ?_ rfl
  funext q j
  show tl_u _ b k x q j = _
  unfold tl_u tp_up
  by_cases c : q = b
  · subst c; simp
  · simp [c]
theorem tp_w_self : tp_w u b (u.1 b) = u := by
  unfold tp_w
  refine Prod.ext ?_ rfl
  funext q
  show (if q = b then u.1 b else u.1 q) = u.1 q
  split
  · subst_vars; rfl
  · rfl
end TPR
