/-! owed, came, meeting -/
abbrev owC (A : xAs) (x y d i : Int) : Prop := aLive A i d ∧ (x = -1 ∨ A iM_owesIt i = x) ∧ (y = -1 ∨ A iM_hasIt i = y)
def owT (A : xAs) (x y d i : Int) : Int := if owC A x y d i then A iM_leftOf i else 0
def sOw (A : xAs) (x y d : Int) : Int := sumTo (owT A x y d) (A iM 37).toNat
theorem owT_b {A : xAs} (hI : Inv A) {x y d i : Int} (hi : isN A i) : 0 ≤ owT A x y d i ∧ owT A x y d i ≤ 1440 := by
  have := hI.leftOf i hi.1 hi.2
  unfold owT; split <;> omega
theorem owS_b {A : xAs} (hI : Inv A) {x y d : Int} {k : Nat} (hk : k ≤ (A iM 37).toNat) : 0 ≤ sumTo (owT A x y d) k ∧ sumTo (owT A x y d) k ≤ 1440 * k := by
  have h1 := hI.notes
  exact sumTo_b (fun z h1 h2 => owT_b hI ⟨h1, by omega⟩)
theorem sOw_b {A : xAs} (hI : Inv A) {x y d : Int} : 0 ≤ sOw A x y d ∧ sOw A x y d ≤ 86400 := by
  have h1 := hI.notes
  have := owS_b hI (x := x) (y := y) (d := d) (k := (A iM 37).toNat) (Nat.le_refl _)
  unfold sOw; omega
theorem eX4_sumOf {A : xAs} {μ : xm} {R : xr} {n : Nat} (hC : CH A μ R n) (hI : Inv A) {x y d : Int} (hx : -1 ≤ x ∧ x < 8) (hy : -1 ≤ y ∧ y < 8) (hd : 0 ≤ d ∧ d ≤ 1000) : fX4_sumOf (j32 x) (j32 y) (j32 d) μ = some (j32 (sOw A x y d)) := by
  have h1 := hI.notes
  have en := hC.notes
  unfold fX4_sumOf
  have key := xloop_for (b := fun v => fX4_sumOf_b6 v.1 v.2 (j32 x) (j32 y) (j32 d) μ) (fun k => (j32 (sumTo (owT A x y d) k), j32 k)) (A iM 37).toNat (r := j32 (sOw A x y d)) (a := (0, 0)) (by omega) rfl ?_ ?_
  · rw [key]; rfl
  · intro k hk
    have hN : isN A k := ⟨by omega, by omega⟩
    have b1 := hI.hasIt k hN.1 hN.2
    have b2 := hI.owesIt k hN.1 hN.2
    have b3 := hI.leftOf k hN.1 hN.2
    have e1 := hC.owers k hN.1 hN.2
    have e2 := hC.holders k hN.1 hN.2
    have e3 := hC.minutes k hN.1 hN.2
    have eL := eX4_isLive hC hI (i := k) (d := d) (by omega) (by omega)
    have hS := owS_b hI (x := x) (y := y) (d := d) (k := k) (by omega)
    -- the last join
    have f57 : fX4_sumOf_j57 (j32 d) μ (j32 (sumTo (owT A x y d) k)) (j32 k) = some (.inl (j32 (sumTo (owT A x y d) k + (if aLive A k d then A iM_leftOf k else 0)), j32 ((k : Int) + 1))) := by
      unfold fX4_sumOf_j57
      rw [eL]
      by_cases c : aLive A k d
      · simp (disch := omega) only [Bool.false_eq_true, lits, jj, jc, jm, Int.cast_ofNat_Int, j_bi0, j_bi1, not_true, not_false_eq_true, if_true, if_false, xe, xok_some, Sum.elim_inl, Sum.elim_inr, Int.reduceEq, Int.reduceLT, Int.reduceLE, Int.reduceAdd, Int.reduceSub, Int.reduceMul, eq_true hN, eq_true c, and_self, e3]
      · simp (disch := omega) only [Bool.false_eq_true, lits, jj, jc, jm, Int.cast_ofNat_Int, j_bi0, j_bi1, not_true, not_false_eq_true, if_true, if_false, xe, xok_some, Sum.elim_inl, Sum.elim_inr, Int.reduceEq, Int.reduceLT, Int.reduceLE, Int.reduceAdd, Int.reduceSub, Int.reduceMul, eq_true hN, eq_false c, and_false, Int.add_zero]
    have f38 : fX4_sumOf_j38 (j32 y) (j32 d) μ (j32 (sumTo (owT A x y d) k)) (j32 k) = some (.inl (j32 (sumTo (owT A x y d) k + (if aLive A k d ∧ (y = -1 ∨ A iM_hasIt k = y) then A iM_leftOf k else 0)), j32 ((k : Int) + 1))) := by
      unfold fX4_sumOf_j38
      by_cases c1 : y = -1
      · subst c1; simp (disch := omega) only [Bool.false_eq_true, lits, jj, jc, jm, Int.cast_ofNat_Int, j_bi0, j_bi1, not_true, not_false_eq_true, if_true, if_false, xe, xok_some, Sum.elim_inl, Sum.elim_inr, Int.reduceEq, Int.reduceLT, Int.reduceLE, Int.reduceAdd, Int.reduceSub, Int.reduceMul, f57, true_or, and_true]
      · by_cases c2 : A iM_hasIt k = y
        · simp (disch := omega) only [Bool.false_eq_true, lits, jj, jc, jm, Int.cast_ofNat_Int, j_bi0, j_bi1, not_true, not_false_eq_true, if_true, if_false, xe, xok_some, Sum.elim_inl, Sum.elim_inr, Int.reduceEq, Int.reduceLT, Int.reduceLE, Int.reduceAdd, Int.reduceSub, Int.reduceMul, c1, e2, c2, f57, or_true, and_true]
        · simp (disch := omega) only [Bool.false_eq_true, lits, jj, jc, jm, Int.cast_ofNat_Int, j_bi0, j_bi1, not_true, not_false_eq_true, if_true, if_false, xe, xok_some, Sum.elim_inl, Sum.elim_inr, Int.reduceEq, Int.reduceLT, Int.reduceLE, Int.reduceAdd, Int.reduceSub, Int.reduceMul, c1, e2, c2, or_self, and_false, Int.add_zero]
    show fX4_sumOf_b6 _ _ (j32 x) (j32 y) (j32 d) μ = _
    unfold fX4_sumOf_b6
    rw [sumTo_s]
    unfold owT at f38 ⊢
    by_cases c1 : x = -1
    · simp (disch := omega) only [Bool.false_eq_true, lits, jj, jc, jm, Int.cast_ofNat_Int, j_bi0, j_bi1, not_true, not_false_eq_true, if_true, if_false, xe, xok_some, Sum.elim_inl, Sum.elim_inr, Int.reduceEq, Int.reduceLT, Int.reduceLE, Int.reduceAdd, Int.reduceSub, Int.reduceMul, en, show ¬ A iM 37 ≤ (k : Int) by omega, show ¬ 60 ≤ (k : Int) by omega, c1, true_or, true_and]
      rw [c1] at f38
      simp only [owC, true_or, true_and] at f38 ⊢
      exact f38
    · by_cases c2 : A iM_owesIt k = x
      · simp (disch := omega) only [Bool.false_eq_true, lits, jj, jc, jm, Int.cast_ofNat_Int, j_bi0, j_bi1, not_true, not_false_eq_true, if_true, if_false, xe, xok_some, Sum.elim_inl, Sum.elim_inr, Int.reduceEq, Int.reduceLT, Int.reduceLE, Int.reduceAdd, Int.reduceSub, Int.reduceMul, en, show ¬ A iM 37 ≤ (k : Int) by omega, show ¬ 60 ≤ (k : Int) by omega, c1, e1, c2]
        simp only [owC, c2, or_true, true_and] at f38 ⊢
        exact f38
      · simp (disch := omega) only [Bool.false_eq_true, lits, jj, jc, jm, Int.cast_ofNat_Int, j_bi0, j_bi1, not_true, not_false_eq_true, if_true, if_false, xe, xok_some, Sum.elim_inl, Sum.elim_inr, Int.reduceEq, Int.reduceLT, Int.reduceLE, Int.reduceAdd, Int.reduceSub, Int.reduceMul, en, show ¬ A iM 37 ≤ (k : Int) by omega, show ¬ 60 ≤ (k : Int) by omega, c1, e1, c2, owC, or_self, false_and, and_false, Int.add_zero]
        rfl
  · show fX4_sumOf_b6 _ _ (j32 x) (j32 y) (j32 d) μ = _
    unfold fX4_sumOf_b6
    simp (disch := omega) only [Bool.false_eq_true, lits, jj, jc, jm, Int.cast_ofNat_Int, j_bi0, j_bi1, not_true, not_false_eq_true, if_true, if_false, xe, xok_some, Sum.elim_inl, Sum.elim_inr, Int.reduceEq, Int.reduceLT, Int.reduceLE, Int.reduceAdd, Int.reduceSub, Int.reduceMul, en, show A iM 37 ≤ (((A iM 37).toNat : Nat) : Int) by omega]
    rfl
theorem eX12_owed36 {A : xAs} {μ : xm} (hA : RH A μ) (hI : Inv A) {x y : Int} (hx : -1 ≤ x ∧ x < 8) (hy : -1 ≤ y ∧ y < 8) : fX12_owed_j36 (j32 x) (j32 y) μ = some (j32 (sOw A x y (A iM 0))) := by
  have h0 := hI.now
  have h1 := hI.notes
  unfold fX12_owed_j36
  have key := xloop_for (b := fun v => fX12_owed_b41 v.1 v.2 (j32 x) (j32 y) μ) (fun k => (j32 (sumTo (owT A x y (A iM 0)) k), j32 k)) (A iM 37).toNat (r := j32 (sOw A x y (A iM 0))) (a := (0, 0)) (by omega) rfl ?_ ?_
  · rw [key]; rfl
  · intro k hk
    have hN : isN A k := ⟨by omega, by omega⟩
    have b1 := hI.hasIt k hN.1 hN.2
    have b2 := hI.owesIt k hN.1 hN.2
    have b3 := hI.leftOf k hN.1 hN.2
    have eL := eX12_isLive hA hI (i := k) (by omega)
    have hS := owS_b hI (x := x) (y := y) (d := A iM 0) (k := k) (by omega)
    have f92 : fX12_owed_j92 μ (j32 (sumTo (owT A x y (A iM 0)) k)) (j32 k) = some (.inl (j32 (sumTo (owT A x y (A iM 0)) k + A iM_leftOf k), j32 ((k : Int) + 1))) := by
      unfold fX12_owed_j92
      simp (disch := omega) only [Bool.false_eq_true, lits, jj, jc, jm, Int.cast_ofNat_Int, j_bi0, j_bi1, not_true, not_false_eq_true, if_true, if_false, xe, xok_some, Sum.elim_inl, Sum.elim_inr, Int.reduceEq, Int.reduceLT, Int.reduceLE, Int.reduceAdd, Int.reduceSub, Int.reduceMul, hA]
    have f76 : fX12_owed_j76 (j32 y) μ (j32 (sumTo (owT A x y (A iM 0)) k)) (j32 k) = some (.inl (j32 (sumTo (owT A x y (A iM 0)) k + (if (y = -1 ∨ A iM_hasIt k = y) then A iM_leftOf k else 0)), j32 ((k : Int) + 1))) := by
      unfold fX12_owed_j76
      by_cases c1 : y = -1
      · subst c1; simp (disch := omega) only [Bool.false_eq_true, lits, jj, jc, jm, Int.cast_ofNat_Int, j_bi0, j_bi1, not_true, not_false_eq_true, if_true, if_false, xe, xok_some, Sum.elim_inl, Sum.elim_inr, Int.reduceEq, Int.reduceLT, Int.reduceLE, Int.reduceAdd, Int.reduceSub, Int.reduceMul, f92, true_or]
      · by_cases c2 : A iM_hasIt k = y
        · simp (disch := omega) only [Bool.false_eq_true, lits, jj, jc, jm, Int.cast_ofNat_Int, j_bi0, j_bi1, not_true, not_false_eq_true, if_true, if_false, xe, xok_some, Sum.elim_inl, Sum.elim_inr, Int.reduceEq, Int.reduceLT, Int.reduceLE, Int.reduceAdd, Int.reduceSub, Int.reduceMul, c1, hA, c2, f92, or_true]
        · simp (disch := omega) only [Bool.false_eq_true, lits, jj, jc, jm, Int.cast_ofNat_Int, j_bi0, j_bi1, not_true, not_false_eq_true, if_true, if_false, xe, xok_some, Sum.elim_inl, Sum.elim_inr, Int.reduceEq, Int.reduceLT, Int.reduceLE, Int.reduceAdd, Int.reduceSub, Int.reduceMul, c1, hA, c2, or_self, Int.add_zero]
    show fX12_owed_b41 _ _ (j32 x) (j32 y) μ = _
    unfold fX12_owed_b41
    rw [eL, sumTo_s]
    unfold owT at f76 ⊢
    by_cases c0 : aLive A k (A iM 0)
    · by_cases c1 : x = -1
      · simp (disch := omega) only [Bool.false_eq_true, lits, jj, jc, jm, Int.cast_ofNat_Int, j_bi0, j_bi1, not_true, not_false_eq_true, if_true, if_false, xe, xok_some, Sum.elim_inl, Sum.elim_inr, Int.reduceEq, Int.reduceLT, Int.reduceLE, Int.reduceAdd, Int.reduceSub, Int.reduceMul, hA, show ¬ A iM 37 ≤ (k : Int) by omega, eq_true hN, eq_true c0, and_self, c1]
        rw [c1] at f76
        simp only [owC, true_or, true_and, eq_true c0] at f76 ⊢
        exact f76
      · by_cases c2 : A iM_owesIt k = x
        · simp (disch := omega) only [Bool.false_eq_true, lits, jj, jc, jm, Int.cast_ofNat_Int, j_bi0, j_bi1, not_true, not_false_eq_true, if_true, if_false, xe, xok_some, Sum.elim_inl, Sum.elim_inr, Int.reduceEq, Int.reduceLT, Int.reduceLE, Int.reduceAdd, Int.reduceSub, Int.reduceMul, hA, show ¬ A iM 37 ≤ (k : Int) by omega, eq_true hN, eq_true c0, and_self, c1, c2]
          simp only [owC, c2, or_true, true_and, eq_true c0] at f76 ⊢
          exact f76
        · simp (disch := omega) only [Bool.false_eq_true, lits, jj, jc, jm, Int.cast_ofNat_Int, j_bi0, j_bi1, not_true, not_false_eq_true, if_true, if_false, xe, xok_some, Sum.elim_inl, Sum.elim_inr, Int.reduceEq, Int.reduceLT, Int.reduceLE, Int.reduceAdd, Int.reduceSub, Int.reduceMul, hA, show ¬ A iM 37 ≤ (k : Int) by omega, eq_true hN, eq_true c0, and_self, c1, c2, owC, or_self, false_and, and_false, Int.add_zero]
          rfl
    · simp (disch := omega) only [Bool.false_eq_true, lits, jj, jc, jm, Int.cast_ofNat_Int, j_bi0, j_bi1, not_true, not_false_eq_true, if_true, if_false, xe, xok_some, Sum.elim_inl, Sum.elim_inr, Int.reduceEq, Int.reduceLT, Int.reduceLE, Int.reduceAdd, Int.reduceSub, Int.reduceMul, hA, show ¬ A iM 37 ≤ (k : Int) by omega, eq_true hN, eq_false c0, and_false, false_and, owC, Int.add_zero]
      rfl
  · show fX12_owed_b41 _ _ (j32 x) (j32 y) μ = _
    unfold fX12_owed_b41
    simp (disch := omega) only [Bool.false_eq_true, lits, jj, jc, jm, Int.cast_ofNat_Int, j_bi0, j_bi1, not_true, not_false_eq_true, if_true, if_false, xe, xok_some, Sum.elim_inl, Sum.elim_inr, Int.reduceEq, Int.reduceLT, Int.reduceLE, Int.reduceAdd, Int.reduceSub, Int.reduceMul, hA, show A iM 37 ≤ (((A iM 37).toNat : Nat) : Int) by omega]
    rfl
abbrev owOk (x y : Int) : Prop := (-1 ≤ x ∧ x < 8) ∧ (-1 ≤ y ∧ y < 8) ∧ (x = -1 ∨ x ≠ y)
theorem eX12_owedOk {A : xAs} {μ : xm} (hA : RH A μ) (hI : Inv A) {x y : Int} (h : owOk x y) : fX12_owed (j32 x) (j32 y) μ = some (j32 (sOw A x y (A iM 0))) := by
  obtain ⟨h1, h2, h3⟩ := h
  have f36 := eX12_owed36 hA hI h1 h2
  have f24 : fX12_owed_j24 (j32 x) (j32 y) μ = some (j32 (sOw A x y (A iM 0))) := by
    unfold fX12_owed_j24
    rw [f36]
    by_cases c1 : x = -1
    · simp (disch := omega) only [Bool.false_eq_true, lits, jj, jc, jm, Int.cast_ofNat_Int, j_bi0, j_bi1, not_true, not_false_eq_true, if_true, if_false, xe, xok_some, Sum.elim_inl, Sum.elim_inr, Int.reduceEq, Int.reduceLT, Int.reduceLE, Int.reduceAdd, Int.reduceSub, Int.reduceMul, c1]
    · simp (disch := omega) only [Bool.false_eq_true, lits, jj, jc, jm, Int.cast_ofNat_Int, j_bi0, j_bi1, not_true, not_false_eq_true, if_true, if_false, xe, xok_some, Sum.elim_inl, Sum.elim_inr, Int.reduceEq, Int.reduceLT, Int.reduceLE, Int.reduceAdd, Int.reduceSub, Int.reduceMul, c1, show ¬ x = y by rcases h3 with h3 | h3; exact absurd h3 c1; exact h3]
  have f12 : fX12_owed_j12 (j32 x) (j32 y) μ = some (j32 (sOw A x y (A iM 0))) := by
    unfold fX12_owed_j12
    rw [f24, eX12_isPerson (by omega)]
    by_cases c1 : y = -1
    · simp (disch := omega) only [Bool.false_eq_true, lits, jj, jc, jm, Int.cast_ofNat_Int, j_bi0, j_bi1, not_true, not_false_eq_true, if_true, if_false, xe, xok_some, Sum.elim_inl, Sum.elim_inr, Int.reduceEq, Int.reduceLT, Int.reduceLE, Int.reduceAdd, Int.reduceSub, Int.reduceMul, c1]
    · simp (disch := omega) only [Bool.false_eq_true, lits, jj, jc, jm, Int.cast_ofNat_Int, j_bi0, j_bi1, not_true, not_false_eq_true, if_true, if_false, xe, xok_some, Sum.elim_inl, Sum.elim_inr, Int.reduceEq, Int.reduceLT, Int.reduceLE, Int.reduceAdd, Int.reduceSub, Int.reduceMul, c1, show 0 ≤ y by omega, show y < 8 by omega, and_self]
  unfold fX12_owed
  rw [f12, eX12_isPerson (by omega)]
  by_cases c1 : x = -1
  · simp (disch := omega) only [Bool.false_eq_true, lits, jj, jc, jm, Int.cast_ofNat_Int, j_bi0, j_bi1, not_true, not_false_eq_true, if_true, if_false, xe, xok_some, Sum.elim_inl, Sum.elim_inr, Int.reduceEq, Int.reduceLT, Int.reduceLE, Int.reduceAdd, Int.reduceSub, Int.reduceMul, c1]
  · simp (disch := omega) only [Bool.false_eq_true, lits, jj, jc, jm, Int.cast_ofNat_Int, j_bi0, j_bi1, not_true, not_false_eq_true, if_true, if_false, xe, xok_some, Sum.elim_inl, Sum.elim_inr, Int.reduceEq, Int.reduceLT, Int.reduceLE, Int.reduceAdd, Int.reduceSub, Int.reduceMul, c1, show 0 ≤ x by omega, show x < 8 by omega, and_self]
theorem eX12_owedNo {μ : xm} {x y : Int} (hx : -2147483648 ≤ x ∧ x < 2147483648) (hy : -2147483648 ≤ y ∧ y < 2147483648) (h : ¬ owOk x y) : fX12_owed (j32 x) (j32 y) μ = some (j32 (-1)) := by
  unfold fX12_owed fX12_owed_j12 fX12_owed_j24
  rw [eX12_isPerson hx, eX12_isPerson hy]
  by_cases c1 : x = -1
  · have k2 : ¬ (-1 ≤ y ∧ y < 8) := fun q => h ⟨by omega, q, Or.inl c1⟩
    simp (disch := omega) only [Bool.false_eq_true, lits, jj, jc, jm, Int.cast_ofNat_Int, j_bi0, j_bi1, not_true, not_false_eq_true, if_true, if_false, xe, xok_some, Sum.elim_inl, Sum.elim_inr, Int.reduceEq, Int.reduceLT, Int.reduceLE, Int.reduceAdd, Int.reduceSub, Int.reduceMul, c1, show ¬ y = -1 by omega, show ¬ (0 ≤ y ∧ y < 8) by omega]
  · by_cases c2 : 0 ≤ x ∧ x < 8
    · by_cases c3 : y = -1
      · exact absurd ⟨by omega, by omega, by omega⟩ h
      · by_cases c4 : 0 ≤ y ∧ y < 8
        · have c5 : x = y := Classical.byContradiction fun q => h ⟨by omega, by omega, Or.inr q⟩
          subst c5
          simp (disch := omega) only [Bool.false_eq_true, lits, jj, jc, jm, Int.cast_ofNat_Int, j_bi0, j_bi1, not_true, not_false_eq_true, if_true, if_false, xe, xok_some, Sum.elim_inl, Sum.elim_inr, Int.reduceEq, Int.reduceLT, Int.reduceLE, Int.reduceAdd, Int.reduceSub, Int.reduceMul, c1, eq_true c2]
        · simp (disch := omega) only [Bool.false_eq_true, lits, jj, jc, jm, Int.cast_ofNat_Int, j_bi0, j_bi1, not_true, not_false_eq_true, if_true, if_false, xe, xok_some, Sum.elim_inl, Sum.elim_inr, Int.reduceEq, Int.reduceLT, Int.reduceLE, Int.reduceAdd, Int.reduceSub, Int.reduceMul, c1, eq_true c2, c3, eq_false c4]
    · simp (disch := omega) only [Bool.false_eq_true, lits, jj, jc, jm, Int.cast_ofNat_Int, j_bi0, j_bi1, not_true, not_false_eq_true, if_true, if_false, xe, xok_some, Sum.elim_inl, Sum.elim_inr, Int.reduceEq, Int.reduceLT, Int.reduceLE, Int.reduceAdd, Int.reduceSub, Int.reduceMul, c1, eq_false c2]
theorem s_owed {A : xAs} {μ : xm} {R : xr} {n : Nat} (hA : RH A μ) (hC : CH A μ R n) (hI : Inv A) (a1 a2 : Int32) : ∃ q, fX11_owed a1 a2 μ = some q ∧ fX12_owed a1 a2 μ = some q := by
  obtain ⟨x, rfl, hx⟩ := j32_ex a1
  obtain ⟨y, rfl, hy⟩ := j32_ex a2
  have h0 := hI.now
  by_cases h : owOk x y
  · refine ⟨_, ?_, eX12_owedOk hA hI h⟩
    obtain ⟨h1, h2, h3⟩ := h
    have e := eX4_sumOf hC hI h1 h2 (d := A iM 0) (by omega)
    unfold fX11_owed fX11_owed_j34
    simp only [lits, jj, Int.cast_ofNat_Int]
    rw [hC.now, eX11_within hx (by omega) (by omega), eX11_within hy (by omega) (by omega), e]
    by_cases c1 : x = -1
    · subst c1
      by_cases c3 : -1 = y
      · subst c3; simp (disch := omega) only [Bool.false_eq_true, lits, jj, jc, jm, Int.cast_ofNat_Int, j_bi0, j_bi1, not_true, not_false_eq_true, if_true, if_false, xe, xok_some, Sum.elim_inl, Sum.elim_inr, Int.reduceEq, Int.reduceLT, Int.reduceLE, Int.reduceAdd, Int.reduceSub, Int.reduceMul, and_self]
      · simp (disch := omega) only [Bool.false_eq_true, lits, jj, jc, jm, Int.cast_ofNat_Int, j_bi0, j_bi1, not_true, not_false_eq_true, if_true, if_false, xe, xok_some, Sum.elim_inl, Sum.elim_inr, Int.reduceEq, Int.reduceLT, Int.reduceLE, Int.reduceAdd, Int.reduceSub, Int.reduceMul, show y ≤ 7 by omega, show -1 ≤ y by omega, and_self, c3]
    · simp (disch := omega) only [Bool.false_eq_true, lits, jj, jc, jm, Int.cast_ofNat_Int, j_bi0, j_bi1, not_true, not_false_eq_true, if_true, if_false, xe, xok_some, Sum.elim_inl, Sum.elim_inr, Int.reduceEq, Int.reduceLT, Int.reduceLE, Int.reduceAdd, Int.reduceSub, Int.reduceMul, show x ≤ 7 by omega, show -1 ≤ x by omega, show y ≤ 7 by omega, show -1 ≤ y by omega, and_self, show ¬ x = y by rcases h3 with h3 | h3; exact absurd h3 c1; exact h3]
  · refine ⟨_, ?_, eX12_owedNo hx hy h⟩
    unfold fX11_owed
    simp only [lits, jj, Int.cast_ofNat_Int]
    rw [eX11_within hx (by omega) (by omega), eX11_within hy (by omega) (by omega)]
    by_cases c1 : -1 ≤ x ∧ x ≤ 7
    · by_cases c2 : -1 ≤ y ∧ y ≤ 7
      · have c3 : x = y := Classical.byContradiction fun q => h ⟨by omega, by omega, Or.inr q⟩
        have c4 : ¬ x = -1 := fun q => h ⟨by omega, by omega, Or.inl q⟩
        subst c3
        simp (disch := omega) only [Bool.false_eq_true, lits, jj, jc, jm, Int.cast_ofNat_Int, j_bi0, j_bi1, not_true, not_false_eq_true, if_true, if_false, xe, xok_some, Sum.elim_inl, Sum.elim_inr, Int.reduceEq, Int.reduceLT, Int.reduceLE, Int.reduceAdd, Int.reduceSub, Int.reduceMul, eq_true c1, c4]
      · simp (disch := omega) only [Bool.false_eq_true, lits, jj, jc, jm, Int.cast_ofNat_Int, j_bi0, j_bi1, not_true, not_false_eq_true, if_true, if_false, xe, xok_some, Sum.elim_inl, Sum.elim_inr, Int.reduceEq, Int.reduceLT, Int.reduceLE, Int.reduceAdd, Int.reduceSub, Int.reduceMul, eq_true c1, eq_false c2]
    · simp (disch := omega) only [Bool.false_eq_true, lits, jj, jc, jm, Int.cast_ofNat_Int, j_bi0, j_bi1, not_true, not_false_eq_true, if_true, if_false, xe, xok_some, Sum.elim_inl, Sum.elim_inr, Int.reduceEq, Int.reduceLT, Int.reduceLE, Int.reduceAdd, Int.reduceSub, Int.reduceMul, eq_false c1]
