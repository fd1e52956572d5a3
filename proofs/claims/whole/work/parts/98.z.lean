/-! law: wanting -/
theorem lwS_5_J : lwS_5 Jx := sorry
