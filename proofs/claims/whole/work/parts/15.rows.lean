/-! Pure. -/
theorem tp_zero : (0 : Nat) = 0 := rfl
