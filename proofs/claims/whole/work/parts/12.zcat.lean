theorem xrf_cat (z : Nat) (r : Option Nat) : (xrf z r).category = 1 := by cases r <;> rfl
