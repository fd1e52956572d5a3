/-! the start -/
def Q0 : xm × xr := xq0.getD (μ00, R00)
theorem Q0_some : xq0.isSome = true := by decide +kernel
theorem Q0_eq : xq0 = some Q0 := by
  have h := Q0_some
  unfold Q0
  cases e : xq0 with
  | none => rw [e] at h; cases h
  | some q => rfl
def A0 : xAs := fun o z => gi Q0.1 o z
theorem A0_e (o : Nat) : gi Q0.1 o = A0 o := rfl
theorem q0_s : A0 iM 0 = 0 ∧ A0 iM 1 = 0 ∧ A0 iM 2 = 1 ∧ A0 iM 3 = 0 ∧ A0 iM 11 = 0 ∧ A0 iM 20 = 0 ∧ A0 iM 37 = 0 ∧ A0 iM 53 = 0 ∧ A0 iM 54 = 1 ∧ A0 iM 55 = 0 ∧ A0 iM 56 = 0 := by decide +kernel
theorem q0_c : A0 iC 8 = 0 ∧ A0 iC_tape 1 = 0 ∧ A0 iC_meetings 5 = 0 ∧ A0 iC_notes 6 = 0 ∧ A0 iC_ways 7 = 0 ∧ A0 iC_ways 8 = 1 ∧ A0 iC_ways 9 = 0 ∧ A0 iC_ways 10 = 1 ∧ A0 iC_striking_clear 0 = 0 ∧ A0 5 6 = 0 := by decide +kernel
theorem q0_400 : ((List.range 400).all fun z => A0 iC_tape_bytes (z : Int) == 0 && A0 iM_tape (z : Int) == 0) = true := by decide +kernel
theorem q0_192 : ((List.range 192).all fun z => A0 iC_people_worths (z : Int) == 1 && A0 iM_worthOf (z : Int) == 1 && A0 iC_people_given (z : Int) == 0 && A0 iM_gaveIn (z : Int) == 0 && A0 iC_people_taken (z : Int) == 0 && A0 iM_tookIn (z : Int) == 0) = true := by decide +kernel
theorem q0_24 : ((List.range 24).all fun z => A0 iM_isSettled (z : Int) == 0) = true := by decide +kernel
theorem q0_8 : ((List.range 8).all fun z => A0 iC_ways_told (z : Int) == 0 && A0 iM_endMany (z : Int) == 0 && A0 iC_ways_minutes (5 * (z : Int)) == 0 && A0 iC_ways_weights (5 * (z : Int)) == 1 && A0 iC_ways_allWeights (z : Int) == 1 && A0 iC_ways_crossing (z : Int) == 0) = true := by decide +kernel
theorem q0_R : Q0.2 iC_rest 4 = some 52 ∧ Q0.2 iC_rest 5 = some 55 ∧ Q0.2 iC_reader 1 = some 5 ∧ Q0.2 iC_reader 2 = some 12 := by decide +kernel
theorem q0_f : (xfinl.all fun q => Q0.2 q.1 q.2.1 == some q.2.2) = true := by decide +kernel
theorem q0_24R (i : Nat) : Q0.2 24 i = none := by
  have h : Q0.2 24 = fun _ => none := by
    rfl
  rw [h]
