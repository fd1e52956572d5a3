/-! owes -/
theorem SR.lk {μ ν : xm} (h : SR μ ν) : LK μ ν := LK.of (fun o ho => h o (by show o ≠ 80; omega) (by show o ≠ 81; omega))
theorem SR.cl {μ ν : xm} (h : SR μ ν) : ∀ o, (o < 61 ∨ 107 ≤ o) → gi ν o = gi μ o := fun o ho => h o (by show o ≠ 80; omega) (by show o ≠ 81; omega)
theorem s_owes {V : Int → (Nat → Int) → Int} {A : xAs} {μ : xm} {R : xr} {n : Nat} (hL : Law V μ R) (hA : RH A μ) (hC : CH A μ R n) (hI : Inv A) (a1 a2 a3 a4 : Int32) : ∃ q, fX11_owes a1 a2 a3 a4 μ R = some q ∧ ∃ q2, fX12_owes a1 a2 a3 a4 q.2 = some q2 ∧ q2.1 = q.1 ∧ xStp μ R n q2.2 := by
  obtain ⟨m, rfl, hm⟩ := j32_ex a1
  obtain ⟨x, rfl, hx⟩ := j32_ex a2
  obtain ⟨y, rfl, hy⟩ := j32_ex a3
  obtain ⟨w, rfl, hw⟩ := j32_ex a4
  have e1 := eX11_isCase hC hI hm hx hy
  have e2 := eX11_within hw (a := 0) (b := 2) (by omega) (by omega)
  have e3 := eX12_areTwo hA hI hm hx hy
  have e4 := eX12_in hw (a := 0) (b := 2) (by omega) (by omega)
  by_cases c1 : isCase A m x y
  · by_cases c2 : 0 ≤ w ∧ w ≤ 2
    · obtain ⟨g1, hC1⟩ := gather_ok hC hI c1
      have hF := putC_F (μ := μ) (fF_b hI c1)
      obtain ⟨F, hFe⟩ : ∃ F, fF A m x y = F := ⟨_, rfl⟩
      rw [hFe] at g1 hC1 hF
      have k1 : LK μ (putC μ F) := LK.of (fun o ho => putC_o (by show o ≠ 25; omega))
      have hL1 := hL.keep k1 rfl
      have hs : ∃ ν, fX11_owes (j32 m) (j32 x) (j32 y) (j32 w) μ R = some (j32 (V (wL w) F), ν) ∧ gi ν = gi (putC μ F) := by
        unfold wL
        by_cases d0 : w = 0
        · subst d0
          obtain ⟨ν, h1, h2⟩ := eC_owed hL1 hC1 hF
          refine ⟨ν, ?_, h2⟩
          rw [if_pos rfl]
          unfold fX11_owes
          simp (disch := omega) only [Bool.false_eq_true, lits, jj, jc, jm, Int.cast_ofNat_Int, j_bi0, j_bi1, not_true, not_false_eq_true, if_true, if_false, xe, xok_some, Sum.elim_inl, Sum.elim_inr, Int.reduceEq, Int.reduceLT, Int.reduceLE, Int.reduceAdd, Int.reduceSub, Int.reduceMul, e1, eq_true c1, e2, eq_true c2, and_self, g1, h1]
        · by_cases d1 : w = 1
          · subst d1
            obtain ⟨ν, h1, h2⟩ := eC_hund hL1 hC1 hF
            refine ⟨ν, ?_, h2⟩
            rw [if_neg d0, if_pos rfl]
            unfold fX11_owes
            simp (disch := omega) only [Bool.false_eq_true, lits, jj, jc, jm, Int.cast_ofNat_Int, j_bi0, j_bi1, not_true, not_false_eq_true, if_true, if_false, xe, xok_some, Sum.elim_inl, Sum.elim_inr, Int.reduceEq, Int.reduceLT, Int.reduceLE, Int.reduceAdd, Int.reduceSub, Int.reduceMul, e1, eq_true c1, e2, eq_true c2, and_self, g1, h1]
          · obtain ⟨ν, h1, h2⟩ := eC_lapse hL1 hC1 hF
            refine ⟨ν, ?_, h2⟩
            rw [if_neg d0, if_neg d1]
            unfold fX11_owes
            simp (disch := omega) only [Bool.false_eq_true, lits, jj, jc, jm, Int.cast_ofNat_Int, j_bi0, j_bi1, not_true, not_false_eq_true, if_true, if_false, xe, xok_some, Sum.elim_inl, Sum.elim_inr, Int.reduceEq, Int.reduceLT, Int.reduceLE, Int.reduceAdd, Int.reduceSub, Int.reduceMul, e1, eq_true c1, e2, eq_true c2, g1, d0, d1, h1]
      obtain ⟨ν, h1, h2⟩ := hs
      have hA1 : RH A ν := RH.keep hA (fun o q1 q2 => by rw [h2]; exact putC_o (by show o ≠ 25; omega))
      have k2 : LK μ ν := k1.tr (LK.of (fun o _ => congrFun h2 o))
      obtain ⟨ρ, h3, h4, h5⟩ := eX12_owesBy (hL.keep k2 rfl) hA1 hI c1 c2
      rw [hFe] at h3
      have e5 := eX12_areTwo hA1 hI hm hx hy
      refine ⟨_, h1, (j32 (V (wL w) F), ρ), ?_, rfl, k2.tr h5.lk, A, h4, (hC1.gi0 h2).ref h5.cl, hI⟩
      unfold fX12_owes
      simp (disch := omega) only [Bool.false_eq_true, lits, jj, jc, jm, Int.cast_ofNat_Int, j_bi0, j_bi1, not_true, not_false_eq_true, if_true, if_false, xe, xok_some, Sum.elim_inl, Sum.elim_inr, Int.reduceEq, Int.reduceLT, Int.reduceLE, Int.reduceAdd, Int.reduceSub, Int.reduceMul, e5, eq_true c1, e4, eq_true c2, h3]
    · refine ⟨(j32 (-1), μ), ?_, (j32 (-1), μ), ?_, rfl, xStp.same hA hC hI⟩
      · unfold fX11_owes
        simp (disch := omega) only [Bool.false_eq_true, lits, jj, jc, jm, Int.cast_ofNat_Int, j_bi0, j_bi1, not_true, not_false_eq_true, if_true, if_false, xe, xok_some, Sum.elim_inl, Sum.elim_inr, Int.reduceEq, Int.reduceLT, Int.reduceLE, Int.reduceAdd, Int.reduceSub, Int.reduceMul, e1, eq_true c1, e2, eq_false c2]
      · unfold fX12_owes
        simp (disch := omega) only [Bool.false_eq_true, lits, jj, jc, jm, Int.cast_ofNat_Int, j_bi0, j_bi1, not_true, not_false_eq_true, if_true, if_false, xe, xok_some, Sum.elim_inl, Sum.elim_inr, Int.reduceEq, Int.reduceLT, Int.reduceLE, Int.reduceAdd, Int.reduceSub, Int.reduceMul, e3, eq_true c1, e4, eq_false c2]
  · refine ⟨(j32 (-1), μ), ?_, (j32 (-1), μ), ?_, rfl, xStp.same hA hC hI⟩
    · unfold fX11_owes
      simp (disch := omega) only [Bool.false_eq_true, lits, jj, jc, jm, Int.cast_ofNat_Int, j_bi0, j_bi1, not_true, not_false_eq_true, if_true, if_false, xe, xok_some, Sum.elim_inl, Sum.elim_inr, Int.reduceEq, Int.reduceLT, Int.reduceLE, Int.reduceAdd, Int.reduceSub, Int.reduceMul, e1, eq_false c1]
    · unfold fX12_owes
      simp (disch := omega) only [Bool.false_eq_true, lits, jj, jc, jm, Int.cast_ofNat_Int, j_bi0, j_bi1, not_true, not_false_eq_true, if_true, if_false, xe, xok_some, Sum.elim_inl, Sum.elim_inr, Int.reduceEq, Int.reduceLT, Int.reduceLE, Int.reduceAdd, Int.reduceSub, Int.reduceMul, e3, eq_false c1]
