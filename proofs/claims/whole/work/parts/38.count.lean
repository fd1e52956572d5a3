/-! count -/
theorem sumTo_x {f : Int → Int} {k : Nat} : ∀ {j : Nat}, (∀ z : Int, (k : Int) ≤ z → z < (k + j : Nat) → f z = 0) → sumTo f (k + j) = sumTo f k
  | 0, _ => rfl
  | j + 1, h => by
    show sumTo f (k + j) + f ((k + j : Nat) : Int) = _
    rw [h _ (by omega) (by omega), sumTo_x (fun z h1 h2 => h z h1 (by omega))]; omega
theorem eX3_settledOnes {A : xAs} {μ : xm} {R : xr} {n : Nat} (hC : CH A μ R n) (hI : Inv A) : fX3_settledOnes μ R = some (j32 (A iM 3)) := by
  have h1 := hI.mt
  have hs : ∀ z : Int, 0 ≤ z → z < 24 → 0 ≤ A iM_isSettled z ∧ A iM_isSettled z ≤ 1 := by
    intro z h2 h3
    by_cases c : z < A iM 1
    · have := hI.isSettled z h2 c; omega
    · have := hI.fresh z (by omega) h3; omega
  have hb : ∀ k : Nat, k ≤ 24 → 0 ≤ sumTo (fun m => A iM_isSettled m) k ∧ sumTo (fun m => A iM_isSettled m) k ≤ 1 * k := fun k hk => sumTo_b (fun z h2 h3 => hs z h2 (by omega))
  have e3 : A iM 3 = sumTo (fun m => A iM_isSettled m) 24 := by
    rw [hC.settledMany, show (24 : Nat) = (A iM 1).toNat + (24 - (A iM 1).toNat) by omega]
    exact (sumTo_x (fun z h2 h3 => hI.fresh z (by omega) (by omega))).symm
  unfold fX3_settledOnes
  simp only [lits]
  have key := xloop_for (b := fun v => fX3_settledOnes_b4 v.1 v.2 μ R) (fun k => (j32 (sumTo (fun m => A iM_isSettled m) k), j32 k)) 24 (r := j32 (A iM 3)) (a := (j32 0, j32 0)) (by omega) rfl ?_ ?_
  · rw [key]; rfl
  · intro k hk
    show fX3_settledOnes_b4 _ _ μ R = _
    have h2 := hb k (by omega)
    have h3 := hs k (by omega) (by omega)
    have hf := eX3_find hC hI (m := (k : Int)) (by omega)
    unfold fX3_settledOnes_b4
    simp only [sumTo_s]
    by_cases c : (0 : Int) ≤ k ∧ (k : Int) < A iM 1
    · rw [if_pos c] at hf
      have h4 := eC_isSettled hC hI c
      by_cases d : A iM_isSettled (k : Int) = 0
      · simp (disch := omega) only [Bool.false_eq_true, lits, jj, jc, jm, Int.cast_ofNat_Int, j_bi0, j_bi1, not_true, not_false_eq_true, if_true, if_false, xe, xok_some, Sum.elim_inl, Sum.elim_inr, Int.reduceEq, Int.reduceLT, Int.reduceLE, Int.reduceAdd, Int.reduceSub, Int.reduceMul, show ¬ (24 : Int) ≤ k by omega, hf, h4, d]
        rw [Int.add_zero]; rfl
      · simp (disch := omega) only [Bool.false_eq_true, lits, jj, jc, jm, Int.cast_ofNat_Int, j_bi0, j_bi1, not_true, not_false_eq_true, if_true, if_false, xe, xok_some, Sum.elim_inl, Sum.elim_inr, Int.reduceEq, Int.reduceLT, Int.reduceLE, Int.reduceAdd, Int.reduceSub, Int.reduceMul, show ¬ (24 : Int) ≤ k by omega, hf, h4, show A iM_isSettled (k : Int) = 1 by omega]
        rfl
    · rw [if_neg c] at hf
      have h4 := hI.fresh k (by omega) (by omega)
      simp (disch := omega) only [Bool.false_eq_true, lits, jj, jc, jm, Int.cast_ofNat_Int, j_bi0, j_bi1, not_true, not_false_eq_true, if_true, if_false, xe, xok_some, Sum.elim_inl, Sum.elim_inr, Int.reduceEq, Int.reduceLT, Int.reduceLE, Int.reduceAdd, Int.reduceSub, Int.reduceMul, show ¬ (24 : Int) ≤ k by omega, hf, h4]
      rw [Int.add_zero]; rfl
  · show fX3_settledOnes_b4 _ _ μ R = _
    unfold fX3_settledOnes_b4
    simp (disch := omega) only [Bool.false_eq_true, lits, jj, jc, jm, Int.cast_ofNat_Int, j_bi0, j_bi1, not_true, not_false_eq_true, if_true, if_false, xe, xok_some, Sum.elim_inl, Sum.elim_inr, Int.reduceEq, Int.reduceLT, Int.reduceLE, Int.reduceAdd, Int.reduceSub, Int.reduceMul, Int.le_refl]
    rw [e3]
theorem s_count {A : xAs} {μ : xm} {R : xr} {n : Nat} (hA : RH A μ) (hC : CH A μ R n) (hI : Inv A) (hcl : fX1_clauses μ R = some (j32 (A iM 20))) (a1 : Int32) : ∃ q, fX11_count a1 μ R = some q ∧ fX12_count a1 μ = some q := by
  obtain ⟨p, rfl, hp⟩ := j32_ex a1
  have h1 := hI.mt
  have hs := RH.sc hA
  unfold fX11_count fX12_count fX3_length fX4_length fX9_length fX10_drawn
  simp only [lits, jj, Int.cast_ofNat_Int, hC.now, hC.mt, hC.notes, hC.taped, hC.drawn, hs.1, hs.2.1, hs.2.2.1, hs.2.2.2.1, hs.2.2.2.2.1, hs.2.2.2.2.2.1, hs.2.2.2.2.2.2.1, hcl, eX3_settledOnes hC hI, xe]
  rw [eX11_within hp (by omega) (by omega), eX11_within hp (by omega) (by omega), eX12_in hp (by omega) (by omega), eX12_in hp (by omega) (by omega)]
  by_cases c0 : p = 0
  · exact ⟨j32 (A iM 0), by simp (disch := omega) only [Bool.false_eq_true, lits, jj, jc, jm, Int.cast_ofNat_Int, j_bi0, j_bi1, not_true, not_false_eq_true, if_true, if_false, xe, xok_some, Sum.elim_inl, Sum.elim_inr, Int.reduceEq, Int.reduceLT, Int.reduceLE, Int.reduceAdd, Int.reduceSub, Int.reduceMul, c0], by simp (disch := omega) only [Bool.false_eq_true, lits, jj, jc, jm, Int.cast_ofNat_Int, j_bi0, j_bi1, not_true, not_false_eq_true, if_true, if_false, xe, xok_some, Sum.elim_inl, Sum.elim_inr, Int.reduceEq, Int.reduceLT, Int.reduceLE, Int.reduceAdd, Int.reduceSub, Int.reduceMul, c0]⟩
  by_cases c1 : p = 1
  · exact ⟨j32 (A iM 1), by simp (disch := omega) only [Bool.false_eq_true, lits, jj, jc, jm, Int.cast_ofNat_Int, j_bi0, j_bi1, not_true, not_false_eq_true, if_true, if_false, xe, xok_some, Sum.elim_inl, Sum.elim_inr, Int.reduceEq, Int.reduceLT, Int.reduceLE, Int.reduceAdd, Int.reduceSub, Int.reduceMul, c1], by simp (disch := omega) only [Bool.false_eq_true, lits, jj, jc, jm, Int.cast_ofNat_Int, j_bi0, j_bi1, not_true, not_false_eq_true, if_true, if_false, xe, xok_some, Sum.elim_inl, Sum.elim_inr, Int.reduceEq, Int.reduceLT, Int.reduceLE, Int.reduceAdd, Int.reduceSub, Int.reduceMul, c1]⟩
  by_cases c2 : p = 2
  · exact ⟨j32 (A iM 37), by simp (disch := omega) only [Bool.false_eq_true, lits, jj, jc, jm, Int.cast_ofNat_Int, j_bi0, j_bi1, not_true, not_false_eq_true, if_true, if_false, xe, xok_some, Sum.elim_inl, Sum.elim_inr, Int.reduceEq, Int.reduceLT, Int.reduceLE, Int.reduceAdd, Int.reduceSub, Int.reduceMul, c2], by simp (disch := omega) only [Bool.false_eq_true, lits, jj, jc, jm, Int.cast_ofNat_Int, j_bi0, j_bi1, not_true, not_false_eq_true, if_true, if_false, xe, xok_some, Sum.elim_inl, Sum.elim_inr, Int.reduceEq, Int.reduceLT, Int.reduceLE, Int.reduceAdd, Int.reduceSub, Int.reduceMul, c2]⟩
  by_cases c3 : p = 3
  · exact ⟨j32 (A iM 20), by simp (disch := omega) only [Bool.false_eq_true, lits, jj, jc, jm, Int.cast_ofNat_Int, j_bi0, j_bi1, not_true, not_false_eq_true, if_true, if_false, xe, xok_some, Sum.elim_inl, Sum.elim_inr, Int.reduceEq, Int.reduceLT, Int.reduceLE, Int.reduceAdd, Int.reduceSub, Int.reduceMul, c3], by simp (disch := omega) only [Bool.false_eq_true, lits, jj, jc, jm, Int.cast_ofNat_Int, j_bi0, j_bi1, not_true, not_false_eq_true, if_true, if_false, xe, xok_some, Sum.elim_inl, Sum.elim_inr, Int.reduceEq, Int.reduceLT, Int.reduceLE, Int.reduceAdd, Int.reduceSub, Int.reduceMul, c3]⟩
  by_cases c4 : p = 4
  · exact ⟨j32 (A iM 11), by simp (disch := omega) only [Bool.false_eq_true, lits, jj, jc, jm, Int.cast_ofNat_Int, j_bi0, j_bi1, not_true, not_false_eq_true, if_true, if_false, xe, xok_some, Sum.elim_inl, Sum.elim_inr, Int.reduceEq, Int.reduceLT, Int.reduceLE, Int.reduceAdd, Int.reduceSub, Int.reduceMul, c4], by simp (disch := omega) only [Bool.false_eq_true, lits, jj, jc, jm, Int.cast_ofNat_Int, j_bi0, j_bi1, not_true, not_false_eq_true, if_true, if_false, xe, xok_some, Sum.elim_inl, Sum.elim_inr, Int.reduceEq, Int.reduceLT, Int.reduceLE, Int.reduceAdd, Int.reduceSub, Int.reduceMul, c4]⟩
  by_cases c5 : p = 5
  · exact ⟨j32 (A iM 2), by simp (disch := omega) only [Bool.false_eq_true, lits, jj, jc, jm, Int.cast_ofNat_Int, j_bi0, j_bi1, not_true, not_false_eq_true, if_true, if_false, xe, xok_some, Sum.elim_inl, Sum.elim_inr, Int.reduceEq, Int.reduceLT, Int.reduceLE, Int.reduceAdd, Int.reduceSub, Int.reduceMul, c5], by simp (disch := omega) only [Bool.false_eq_true, lits, jj, jc, jm, Int.cast_ofNat_Int, j_bi0, j_bi1, not_true, not_false_eq_true, if_true, if_false, xe, xok_some, Sum.elim_inl, Sum.elim_inr, Int.reduceEq, Int.reduceLT, Int.reduceLE, Int.reduceAdd, Int.reduceSub, Int.reduceMul, c5]⟩
  by_cases c6 : p = 6
  · exact ⟨j32 (A iM 3), by simp (disch := omega) only [Bool.false_eq_true, lits, jj, jc, jm, Int.cast_ofNat_Int, j_bi0, j_bi1, not_true, not_false_eq_true, if_true, if_false, xe, xok_some, Sum.elim_inl, Sum.elim_inr, Int.reduceEq, Int.reduceLT, Int.reduceLE, Int.reduceAdd, Int.reduceSub, Int.reduceMul, c6], by simp (disch := omega) only [Bool.false_eq_true, lits, jj, jc, jm, Int.cast_ofNat_Int, j_bi0, j_bi1, not_true, not_false_eq_true, if_true, if_false, xe, xok_some, Sum.elim_inl, Sum.elim_inr, Int.reduceEq, Int.reduceLT, Int.reduceLE, Int.reduceAdd, Int.reduceSub, Int.reduceMul, c6]⟩
  by_cases c7 : 10 ≤ p ∧ p ≤ 17
  · refine ⟨j32 (A iM_endMany (p - 10)), ?_, ?_⟩
    · have e := eX11_isPerson (p := p - 10) (by omega)
      have e2 := hC.told (p - 10) (by omega) (by omega)
      simp (disch := omega) only [Bool.false_eq_true, lits, jj, jc, jm, Int.cast_ofNat_Int, j_bi0, j_bi1, not_true, not_false_eq_true, if_true, if_false, xe, xok_some, Sum.elim_inl, Sum.elim_inr, Int.reduceEq, Int.reduceLT, Int.reduceLE, Int.reduceAdd, Int.reduceSub, Int.reduceMul, c0, c1, c2, c3, c4, c5, c6, eq_true c7, fX10_toldBy, e, eq_true (show 0 ≤ p - 10 ∧ p - 10 < 8 by omega), e2]
    · simp (disch := omega) only [Bool.false_eq_true, lits, jj, jc, jm, Int.cast_ofNat_Int, j_bi0, j_bi1, not_true, not_false_eq_true, if_true, if_false, xe, xok_some, Sum.elim_inl, Sum.elim_inr, Int.reduceEq, Int.reduceLT, Int.reduceLE, Int.reduceAdd, Int.reduceSub, Int.reduceMul, c0, c1, c2, c3, c4, c5, c6, eq_true c7, hA]
  by_cases c8 : 20 ≤ p ∧ p ≤ 43
  · have hf := eX3_find hC hI (m := p - 20) (by omega)
    by_cases c9 : p - 20 < A iM 1
    · refine ⟨j32 (A iM_minuteOf (p - 20)), ?_, ?_⟩
      · rw [if_pos (by omega)] at hf
        have e2 := hC.minute (p - 20) (by omega) c9
        simp (disch := omega) only [Bool.false_eq_true, lits, jj, jc, jm, Int.cast_ofNat_Int, j_bi0, j_bi1, not_true, not_false_eq_true, if_true, if_false, xe, xok_some, Sum.elim_inl, Sum.elim_inr, Int.reduceEq, Int.reduceLT, Int.reduceLE, Int.reduceAdd, Int.reduceSub, Int.reduceMul, c0, c1, c2, c3, c4, c5, c6, eq_false c7, eq_true c8, hf, fX11_count_j146, e2]
      · simp (disch := omega) only [Bool.false_eq_true, lits, jj, jc, jm, Int.cast_ofNat_Int, j_bi0, j_bi1, not_true, not_false_eq_true, if_true, if_false, xe, xok_some, Sum.elim_inl, Sum.elim_inr, Int.reduceEq, Int.reduceLT, Int.reduceLE, Int.reduceAdd, Int.reduceSub, Int.reduceMul, c0, c1, c2, c3, c4, c5, c6, eq_false c7, eq_true (show 20 ≤ p ∧ p ≤ 19 + A iM 1 by omega), hA]
    · refine ⟨j32 (-1), ?_, ?_⟩
      · rw [if_neg (by omega)] at hf
        simp (disch := omega) only [Bool.false_eq_true, lits, jj, jc, jm, Int.cast_ofNat_Int, j_bi0, j_bi1, not_true, not_false_eq_true, if_true, if_false, xe, xok_some, Sum.elim_inl, Sum.elim_inr, Int.reduceEq, Int.reduceLT, Int.reduceLE, Int.reduceAdd, Int.reduceSub, Int.reduceMul, c0, c1, c2, c3, c4, c5, c6, eq_false c7, eq_true c8, hf, fX11_count_j146]
      · simp (disch := omega) only [Bool.false_eq_true, lits, jj, jc, jm, Int.cast_ofNat_Int, j_bi0, j_bi1, not_true, not_false_eq_true, if_true, if_false, xe, xok_some, Sum.elim_inl, Sum.elim_inr, Int.reduceEq, Int.reduceLT, Int.reduceLE, Int.reduceAdd, Int.reduceSub, Int.reduceMul, c0, c1, c2, c3, c4, c5, c6, eq_false c7, eq_false (show ¬ (20 ≤ p ∧ p ≤ 19 + A iM 1) by omega)]
  · refine ⟨j32 (-1), ?_, ?_⟩
    · simp (disch := omega) only [Bool.false_eq_true, lits, jj, jc, jm, Int.cast_ofNat_Int, j_bi0, j_bi1, not_true, not_false_eq_true, if_true, if_false, xe, xok_some, Sum.elim_inl, Sum.elim_inr, Int.reduceEq, Int.reduceLT, Int.reduceLE, Int.reduceAdd, Int.reduceSub, Int.reduceMul, c0, c1, c2, c3, c4, c5, c6, eq_false c7, eq_false c8, fX11_count_j146]
    · simp (disch := omega) only [Bool.false_eq_true, lits, jj, jc, jm, Int.cast_ofNat_Int, j_bi0, j_bi1, not_true, not_false_eq_true, if_true, if_false, xe, xok_some, Sum.elim_inl, Sum.elim_inr, Int.reduceEq, Int.reduceLT, Int.reduceLE, Int.reduceAdd, Int.reduceSub, Int.reduceMul, c0, c1, c2, c3, c4, c5, c6, eq_false c7, eq_false (show ¬ (20 ≤ p ∧ p ≤ 19 + A iM 1) by omega)]
