/-! chain: both -/
theorem fc_ok {V : Int → (Nat → Int) → Int} {A : xAs} {μ : xm} {R : xr} {n : Nat} (hL : Law V μ R) (hC : CH A μ R n) (hI : Inv A) {m x y : Int} (c : isCase A m x y) {e : Nat} (he : chN A (V 112 (fF A m x y)) m x (V 111 (fF A m x y)) e) : ∃ ν, fX11_followChain (j32 m) (j32 x) (j32 y) μ R = some (some iC_meetings_facts, ν) ∧ CH A ν R n ∧ HFc ν (fF A m x y) ∧ (∀ o, o ≠ iC_meetings_payers → o ≠ iC_meetings_paid → o ≠ iC_meetings → o ≠ iC_meetings_facts → gi ν o = gi μ o) ∧ gi ν iC_meetings 6 = e + 1 ∧ ∀ i : Nat, i < e + 1 → gi ν iC_meetings_payers i = chWho A (V 112 (fF A m x y)) m x (V 111 (fF A m x y)) i ∧ gi ν iC_meetings_paid i = chMin A (V 112 (fF A m x y)) m x (V 111 (fF A m x y)) i := by
  obtain ⟨g1, hC1⟩ := gather_ok hC hI c
  have hF := putC_F (μ := μ) (fF_b hI c)
  obtain ⟨F, hFe⟩ : ∃ F, fF A m x y = F := ⟨_, rfl⟩
  rw [hFe] at g1 hC1 hF he ⊢
  have k1 : LK μ (putC μ F) := LK.of (fun o ho => putC_o (by show o ≠ 25; omega))
  have hL1 := hL.keep k1 rfl
  have hb := hL.2.2 112 100 F (Or.inr (Or.inl ⟨rfl, rfl⟩))
  obtain ⟨ν1, h1, h2⟩ := eC_owed hL1 hC1 hF
  have hL2 := hL1.keep (LK.of (fun o _ => congrFun h2 o)) rfl (R' := R)
  have hC2 := hC1.gi0 h2
  have hF2 : HFc ν1 F := fun i hi => by rw [h2]; exact hF i hi
  obtain ⟨ν2, h3, h4⟩ := eC_hund hL2 hC2 hF2
  have hF3 : HFc ν2 F := fun i hi => by rw [h4]; exact hF2 i hi
  obtain ⟨ν, h5, h6, h7, h8, h9⟩ := fol_ok (hC2.gi0 h4) hI hb he
  refine ⟨ν, ?_, h6, fun i hi => ?_, fun o q1 q2 q3 q4 => ?_, h8, h9⟩
  · unfold fX11_followChain
    simp (disch := omega) only [Bool.false_eq_true, lits, jj, jc, jm, Int.cast_ofNat_Int, j_bi0, j_bi1, not_true, not_false_eq_true, if_true, if_false, xe, xok_some, Sum.elim_inl, Sum.elim_inr, Int.reduceEq, Int.reduceLT, Int.reduceLE, Int.reduceAdd, Int.reduceSub, Int.reduceMul, g1, h1, h3, h5]
  · rw [h7 _ (by decide) (by decide) (by decide)]; exact hF3 i hi
  · rw [h7 o q1 q2 q3, h4, h2]; exact putC_o q4
theorem chs_ok {V : Int → (Nat → Int) → Int} {A : xAs} {μ : xm} {R : xr} (hL : Law V μ R) (hA : RH A μ) (hI : Inv A) {m x y : Int} (c : isCase A m x y) {e : Nat} (he : chN A (V 112 (fF A m x y)) m x (V 111 (fF A m x y)) e) : ∃ ν, fX12_chains (j32 m) (j32 x) (j32 y) μ = some ν ∧ RH A ν ∧ LK μ ν ∧ (∀ o, (o < 61 ∨ 107 ≤ o) → gi ν o = gi μ o) ∧ gi ν iM 34 = e + 1 ∧ ∀ i : Nat, i < e + 1 → gi ν iM_chainWho i = chWho A (V 112 (fF A m x y)) m x (V 111 (fF A m x y)) i ∧ gi ν iM_chainMinutes i = chMin A (V 112 (fF A m x y)) m x (V 111 (fF A m x y)) i := by
  have hb := hL.2.2 112 100 (fF A m x y) (Or.inr (Or.inl ⟨rfl, rfl⟩))
  obtain ⟨ν1, h1, h2, h3⟩ := eX12_owesBy hL hA hI c (w := 1) (by omega)
  obtain ⟨ν2, h4, h5, h6⟩ := eX12_owesBy (hL.keep h3.lk rfl) h2 hI c (w := 0) (by omega)
  rw [show wL 1 = 112 from rfl] at h1
  rw [show wL 0 = 111 from rfl] at h4
  have hA3 : RH A (wr ν2 iM 34 0) := RH.ws h5 (by omega)
  obtain ⟨ν, h7, h8, h9, h10, h11, h12⟩ := chL hA3 hI hb he (gi_wr (by omega)) ν1
  refine ⟨ν, ?_, h8, (h3.lk.tr h6.lk).tr ((LK.w_f (by omega)).tr h9), fun o ho => ?_, h11, h12⟩
  · unfold fX12_chains
    simp (disch := omega) only [Bool.false_eq_true, lits, jj, jc, jm, Int.cast_ofNat_Int, j_bi0, j_bi1, not_true, not_false_eq_true, if_true, if_false, xe, xok_some, Sum.elim_inl, Sum.elim_inr, Int.reduceEq, Int.reduceLT, Int.reduceLE, Int.reduceAdd, Int.reduceSub, Int.reduceMul, h1, h4, h7]
  · rw [h10 o (by rintro rfl; revert ho; decide) (by rintro rfl; revert ho; decide) (by rintro rfl; revert ho; decide), gi_wr_f (by rintro rfl; revert ho; decide), h6.cl o ho, h3.cl o ho]
theorem RH.cls {A : xAs} {μ ν : xm} (hA : RH A μ) (h : ∀ o, o ≠ iC_meetings_payers → o ≠ iC_meetings_paid → o ≠ iC_meetings → o ≠ iC_meetings_facts → gi ν o = gi μ o) : RH A ν :=
  RH.keep hA (fun o h1 _ => h o (by rintro rfl; revert h1; decide) (by rintro rfl; revert h1; decide) (by rintro rfl; revert h1; decide) (by rintro rfl; revert h1; decide))
theorem LK.cls {μ ν : xm} (h : ∀ o, o ≠ iC_meetings_payers → o ≠ iC_meetings_paid → o ≠ iC_meetings → o ≠ iC_meetings_facts → gi ν o = gi μ o) : LK μ ν :=
  LK.of (fun o h1 => h o (by rintro rfl; revert h1; decide) (by rintro rfl; revert h1; decide) (by rintro rfl; revert h1; decide) (by rintro rfl; revert h1; decide))
theorem s_chain {V : Int → (Nat → Int) → Int} {A : xAs} {μ : xm} {R : xr} {n : Nat} (hL : Law V μ R) (hA : RH A μ) (hC : CH A μ R n) (hI : Inv A) (a1 a2 a3 a4 : Int32) : ∃ q, fX11_chain a1 a2 a3 a4 μ R = some q ∧ ∃ q2, fX12_chain a1 a2 a3 a4 q.2 = some q2 ∧ q2.1 = q.1 ∧ xStp μ R n q2.2 := by
  obtain ⟨m, rfl, hm⟩ := j32_ex a1
  obtain ⟨x, rfl, hx⟩ := j32_ex a2
  obtain ⟨y, rfl, hy⟩ := j32_ex a3
  obtain ⟨w, rfl, hw⟩ := j32_ex a4
  have e1 := eX11_isCase hC hI hm hx hy
  by_cases c1 : isCase A m x y
  · have hv := hL.2.2 111 1440 (fF A m x y) (Or.inl ⟨rfl, rfl⟩)
    have hh := hL.2.2 112 100 (fF A m x y) (Or.inr (Or.inl ⟨rfl, rfl⟩))
    obtain ⟨e, he⟩ := chN_ex hI hh c1.1 ⟨c1.2.1.1, c1.2.1.2.1⟩ hv
    have he23 := he.1
    obtain ⟨ν, f1, f2, _, f4, f5, f6⟩ := fc_ok hL hC hI c1 he
    have hA1 := RH.cls hA f4
    have k1 := LK.cls f4
    have e5 := eX12_areTwo hA1 hI hm hx hy
    obtain ⟨ρ, g1, g2, g3, g4, g5, g6⟩ := chs_ok (hL.keep k1 rfl) hA1 hI c1 he
    obtain ⟨F, hFe⟩ : ∃ F, fF A m x y = F := ⟨_, rfl⟩
    rw [hFe] at f6 g6 he
    have key : ∃ a : Int32, fX11_chain (j32 m) (j32 x) (j32 y) (j32 w) μ R = some (a, ν) ∧ fX12_chain (j32 m) (j32 x) (j32 y) (j32 w) ν = some (a, ρ) := by
      have w1 := eX11_within hw (a := 10) (b := 19) (by omega) (by omega)
      have w2 := eX12_in hw (a := 10) (b := 19) (by omega) (by omega)
      have w3 := eX12_in hw (a := 20) (b := 19 + (e + 1 : Int)) (by omega) (by omega)
      by_cases c2 : w = 0
      · refine ⟨j32 (e + 1), ?_, ?_⟩
        · unfold fX11_chain
          simp (disch := omega) only [Bool.false_eq_true, lits, jj, jc, jm, Int.cast_ofNat_Int, j_bi0, j_bi1, not_true, not_false_eq_true, if_true, if_false, xe, xok_some, Sum.elim_inl, Sum.elim_inr, Int.reduceEq, Int.reduceLT, Int.reduceLE, Int.reduceAdd, Int.reduceSub, Int.reduceMul, e1, eq_true c1, f1, c2]
          unfold fX3_payers
          simp (disch := omega) only [Bool.false_eq_true, lits, jj, jc, jm, Int.cast_ofNat_Int, j_bi0, j_bi1, not_true, not_false_eq_true, if_true, if_false, xe, xok_some, Sum.elim_inl, Sum.elim_inr, Int.reduceEq, Int.reduceLT, Int.reduceLE, Int.reduceAdd, Int.reduceSub, Int.reduceMul, f5]
        · unfold fX12_chain
          simp (disch := omega) only [Bool.false_eq_true, lits, jj, jc, jm, Int.cast_ofNat_Int, j_bi0, j_bi1, not_true, not_false_eq_true, if_true, if_false, xe, xok_some, Sum.elim_inl, Sum.elim_inr, Int.reduceEq, Int.reduceLT, Int.reduceLE, Int.reduceAdd, Int.reduceSub, Int.reduceMul, e5, eq_true c1, g1, c2, g5]
      · by_cases c3 : 10 ≤ w ∧ w ≤ 19
        · obtain ⟨i, hi⟩ : ∃ i : Nat, w = 10 + i := ⟨(w - 10).toNat, by omega⟩
          by_cases c4 : (e : Int) + 1 ≤ w - 10
          · refine ⟨j32 (-1), ?_, ?_⟩
            · unfold fX11_chain
              simp (disch := omega) only [Bool.false_eq_true, lits, jj, jc, jm, Int.cast_ofNat_Int, j_bi0, j_bi1, not_true, not_false_eq_true, if_true, if_false, xe, xok_some, Sum.elim_inl, Sum.elim_inr, Int.reduceEq, Int.reduceLT, Int.reduceLE, Int.reduceAdd, Int.reduceSub, Int.reduceMul, e1, eq_true c1, f1, c2, w1, eq_true c3]
              unfold fX3_payerAt
              simp (disch := omega) only [Bool.false_eq_true, lits, jj, jc, jm, Int.cast_ofNat_Int, j_bi0, j_bi1, not_true, not_false_eq_true, if_true, if_false, xe, xok_some, Sum.elim_inl, Sum.elim_inr, Int.reduceEq, Int.reduceLT, Int.reduceLE, Int.reduceAdd, Int.reduceSub, Int.reduceMul, f5, show ¬ w - 10 < 0 by omega, c4]
            · unfold fX12_chain
              simp (disch := omega) only [Bool.false_eq_true, lits, jj, jc, jm, Int.cast_ofNat_Int, j_bi0, j_bi1, not_true, not_false_eq_true, if_true, if_false, xe, xok_some, Sum.elim_inl, Sum.elim_inr, Int.reduceEq, Int.reduceLT, Int.reduceLE, Int.reduceAdd, Int.reduceSub, Int.reduceMul, e5, eq_true c1, g1, c2, g5, w2, eq_true c3, c4]
          · have q1 := (f6 i (by omega)).1
            have q2 := (g6 i (by omega)).1
            rw [show (i : Int) = w - 10 by omega] at q1 q2
            refine ⟨j32 (chWho A (V 112 F) m x (V 111 F) i), ?_, ?_⟩
            · unfold fX11_chain
              simp (disch := omega) only [Bool.false_eq_true, lits, jj, jc, jm, Int.cast_ofNat_Int, j_bi0, j_bi1, not_true, not_false_eq_true, if_true, if_false, xe, xok_some, Sum.elim_inl, Sum.elim_inr, Int.reduceEq, Int.reduceLT, Int.reduceLE, Int.reduceAdd, Int.reduceSub, Int.reduceMul, e1, eq_true c1, f1, c2, w1, eq_true c3]
              unfold fX3_payerAt
              simp (disch := omega) only [Bool.false_eq_true, lits, jj, jc, jm, Int.cast_ofNat_Int, j_bi0, j_bi1, not_true, not_false_eq_true, if_true, if_false, xe, xok_some, Sum.elim_inl, Sum.elim_inr, Int.reduceEq, Int.reduceLT, Int.reduceLE, Int.reduceAdd, Int.reduceSub, Int.reduceMul, f5, show ¬ w - 10 < 0 by omega, c4, show ¬ 24 ≤ w - 10 by omega, q1]
            · unfold fX12_chain
              simp (disch := omega) only [Bool.false_eq_true, lits, jj, jc, jm, Int.cast_ofNat_Int, j_bi0, j_bi1, not_true, not_false_eq_true, if_true, if_false, xe, xok_some, Sum.elim_inl, Sum.elim_inr, Int.reduceEq, Int.reduceLT, Int.reduceLE, Int.reduceAdd, Int.reduceSub, Int.reduceMul, e5, eq_true c1, g1, c2, g5, w2, eq_true c3, c4, q2]
        · by_cases c4 : 20 ≤ w ∧ w ≤ 19 + (e + 1 : Int)
          · obtain ⟨i, hi⟩ : ∃ i : Nat, w = 20 + i := ⟨(w - 20).toNat, by omega⟩
            have q1 := (f6 i (by omega)).2
            have q2 := (g6 i (by omega)).2
            rw [show (i : Int) = w - 20 by omega] at q1 q2
            refine ⟨j32 (chMin A (V 112 F) m x (V 111 F) i), ?_, ?_⟩
            · unfold fX11_chain
              simp (disch := omega) only [Bool.false_eq_true, lits, jj, jc, jm, Int.cast_ofNat_Int, j_bi0, j_bi1, not_true, not_false_eq_true, if_true, if_false, xe, xok_some, Sum.elim_inl, Sum.elim_inr, Int.reduceEq, Int.reduceLT, Int.reduceLE, Int.reduceAdd, Int.reduceSub, Int.reduceMul, e1, eq_true c1, f1, c2, w1, eq_false c3, show 20 ≤ w by omega]
              unfold fX3_paidAt
              simp (disch := omega) only [Bool.false_eq_true, lits, jj, jc, jm, Int.cast_ofNat_Int, j_bi0, j_bi1, not_true, not_false_eq_true, if_true, if_false, xe, xok_some, Sum.elim_inl, Sum.elim_inr, Int.reduceEq, Int.reduceLT, Int.reduceLE, Int.reduceAdd, Int.reduceSub, Int.reduceMul, f5, show ¬ w - 20 < 0 by omega, show ¬ (e : Int) + 1 ≤ w - 20 by omega, show ¬ 24 ≤ w - 20 by omega, q1]
            · unfold fX12_chain
              simp (disch := omega) only [Bool.false_eq_true, lits, jj, jc, jm, Int.cast_ofNat_Int, j_bi0, j_bi1, not_true, not_false_eq_true, if_true, if_false, xe, xok_some, Sum.elim_inl, Sum.elim_inr, Int.reduceEq, Int.reduceLT, Int.reduceLE, Int.reduceAdd, Int.reduceSub, Int.reduceMul, e5, eq_true c1, g1, c2, g5, w2, eq_false c3, w3, eq_true c4, q2]
          · refine ⟨j32 (-1), ?_, ?_⟩
            · unfold fX11_chain
              by_cases c5 : 20 ≤ w
              · simp (disch := omega) only [Bool.false_eq_true, lits, jj, jc, jm, Int.cast_ofNat_Int, j_bi0, j_bi1, not_true, not_false_eq_true, if_true, if_false, xe, xok_some, Sum.elim_inl, Sum.elim_inr, Int.reduceEq, Int.reduceLT, Int.reduceLE, Int.reduceAdd, Int.reduceSub, Int.reduceMul, e1, eq_true c1, f1, c2, w1, eq_false c3, c5]
                unfold fX3_paidAt
                simp (disch := omega) only [Bool.false_eq_true, lits, jj, jc, jm, Int.cast_ofNat_Int, j_bi0, j_bi1, not_true, not_false_eq_true, if_true, if_false, xe, xok_some, Sum.elim_inl, Sum.elim_inr, Int.reduceEq, Int.reduceLT, Int.reduceLE, Int.reduceAdd, Int.reduceSub, Int.reduceMul, f5, show ¬ w - 20 < 0 by omega, show (e : Int) + 1 ≤ w - 20 by omega]
              · simp (disch := omega) only [Bool.false_eq_true, lits, jj, jc, jm, Int.cast_ofNat_Int, j_bi0, j_bi1, not_true, not_false_eq_true, if_true, if_false, xe, xok_some, Sum.elim_inl, Sum.elim_inr, Int.reduceEq, Int.reduceLT, Int.reduceLE, Int.reduceAdd, Int.reduceSub, Int.reduceMul, e1, eq_true c1, f1, c2, w1, eq_false c3, c5]
            · unfold fX12_chain
              simp (disch := omega) only [Bool.false_eq_true, lits, jj, jc, jm, Int.cast_ofNat_Int, j_bi0, j_bi1, not_true, not_false_eq_true, if_true, if_false, xe, xok_some, Sum.elim_inl, Sum.elim_inr, Int.reduceEq, Int.reduceLT, Int.reduceLE, Int.reduceAdd, Int.reduceSub, Int.reduceMul, e5, eq_true c1, g1, c2, g5, w2, eq_false c3, w3, eq_false c4]
    obtain ⟨a, k2, k3⟩ := key
    exact ⟨_, k2, _, k3, rfl, k1.tr g3, A, g2, f2.ref g4, hI⟩
  · refine ⟨(j32 (-1), μ), ?_, (j32 (-1), μ), ?_, rfl, xStp.same hA hC hI⟩
    · unfold fX11_chain
      simp (disch := omega) only [Bool.false_eq_true, lits, jj, jc, jm, Int.cast_ofNat_Int, j_bi0, j_bi1, not_true, not_false_eq_true, if_true, if_false, xe, xok_some, Sum.elim_inl, Sum.elim_inr, Int.reduceEq, Int.reduceLT, Int.reduceLE, Int.reduceAdd, Int.reduceSub, Int.reduceMul, e1, eq_false c1]
    · have e3 := eX12_areTwo hA hI hm hx hy
      unfold fX12_chain
      simp (disch := omega) only [Bool.false_eq_true, lits, jj, jc, jm, Int.cast_ofNat_Int, j_bi0, j_bi1, not_true, not_false_eq_true, if_true, if_false, xe, xok_some, Sum.elim_inl, Sum.elim_inr, Int.reduceEq, Int.reduceLT, Int.reduceLE, Int.reduceAdd, Int.reduceSub, Int.reduceMul, e3, eq_false c1]
