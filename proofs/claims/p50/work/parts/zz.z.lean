/-! the last part is kept small: it compiles in every round -/
theorem lt_z9 : (0 : Nat) = 0 := rfl
