/-! cut, take, owed -/
theorem addA_up {A : xAs} {k a b c d e i v : Int} (h : i.toNat ≠ k.toNat) : addA (up A iM_leftOf i v) k a b c d e = up (addA A k a b c d e) iM_leftOf i v := by
  funext o y
  by_cases e1 : o = iM_leftOf
  · subst e1
    unfold addA
    rw [up_o (o := iM) (by decide), up_o (o := iM_lapseOf) (by decide), up_o (o := iM_madeOn) (by decide), up_s, up_o (o := iM_hasIt) (by decide), up_o (o := iM_owesIt) (by decide), up_s, up_s]
    dsimp only
    rw [up_o (o := iM) (by decide), up_o (o := iM_lapseOf) (by decide), up_o (o := iM_madeOn) (by decide), up_s, up_o (o := iM_hasIt) (by decide), up_o (o := iM_owesIt) (by decide)]
    dsimp only
    by_cases c1 : y.toNat = k.toNat
    · rw [if_pos c1, if_neg (by omega), if_pos c1]
    · rw [if_neg c1, if_neg c1]
  · rw [up_o e1]
    unfold addA
    by_cases e2 : o = iM
    · subst e2; rw [up_s, up_s]; dsimp only
      rw [up_o (o := iM_lapseOf) (by decide), up_o (o := iM_madeOn) (by decide), up_o (o := iM_leftOf) (by decide), up_o (o := iM_hasIt) (by decide), up_o (o := iM_owesIt) (by decide), up_o (o := iM_leftOf) (by decide), up_o (o := iM_lapseOf) (by decide), up_o (o := iM_madeOn) (by decide), up_o (o := iM_leftOf) (by decide), up_o (o := iM_hasIt) (by decide), up_o (o := iM_owesIt) (by decide)]
    rw [up_o e2, up_o e2]
    by_cases e3 : o = iM_lapseOf
    · subst e3; rw [up_s, up_s]; dsimp only
      rw [up_o (o := iM_madeOn) (by decide), up_o (o := iM_leftOf) (by decide), up_o (o := iM_hasIt) (by decide), up_o (o := iM_owesIt) (by decide), up_o (o := iM_leftOf) (by decide), up_o (o := iM_madeOn) (by decide), up_o (o := iM_leftOf) (by decide), up_o (o := iM_hasIt) (by decide), up_o (o := iM_owesIt) (by decide)]
    rw [up_o e3, up_o e3]
    by_cases e4 : o = iM_madeOn
    · subst e4; rw [up_s, up_s]; dsimp only
      rw [up_o (o := iM_leftOf) (by decide), up_o (o := iM_hasIt) (by decide), up_o (o := iM_owesIt) (by decide), up_o (o := iM_leftOf) (by decide), up_o (o := iM_leftOf) (by decide), up_o (o := iM_hasIt) (by decide), up_o (o := iM_owesIt) (by decide)]
    rw [up_o e4, up_o e4, up_o e1, up_o e1]
    by_cases e5 : o = iM_hasIt
    · subst e5; rw [up_s, up_s]; dsimp only
      rw [up_o (o := iM_owesIt) (by decide), up_o (o := iM_leftOf) (by decide), up_o (o := iM_owesIt) (by decide)]
    rw [up_o e5, up_o e5]
    by_cases e6 : o = iM_owesIt
    · subst e6; rw [up_s, up_s]; dsimp only
      rw [up_o (o := iM_leftOf) (by decide)]
    rw [up_o e6, up_o e6, up_o e1]
theorem s_cut {A : xAs} {μ : xm} {R : xr} {n : Nat} (hA : RH A μ) (hC : CH A μ R n) (hI : Inv A) (a1 a2 : Int32) : ∃ q, fX11_cut a1 a2 μ = some q ∧ ∃ q2, fX12_cut a1 a2 q.2 = some q2 ∧ q2.1 = q.1 ∧ xStp μ R n q2.2 := by
  obtain ⟨i, rfl, hi⟩ := j32_ex a1
  obtain ⟨m, rfl, hm⟩ := j32_ex a2
  have h0 := hI.now
  have h1 := hI.notes
  unfold fX11_cut fX12_cut
  simp only [lits, jj, Int.cast_ofNat_Int]
  rw [hC.now, eX4_isLive hC hI hi (by omega)]
  by_cases c1 : isN A i ∧ aLive A i (A iM 0)
  · have hb : 0 ≤ i ∧ i < 60 := ⟨c1.1.1, by have := c1.1.2; omega⟩
    have hik := c1.1.2
    have b1 := hI.hasIt i c1.1.1 c1.1.2
    have b2 := hI.owesIt i c1.1.1 c1.1.2
    have b3 := hI.leftOf i c1.1.1 c1.1.2
    have b4 := hI.madeOn i c1.1.1 c1.1.2
    have b5 := hI.lapseOf i c1.1.1 c1.1.2
    have b6 := hI.own i c1.1.1 c1.1.2
    have e1 := eX4_minutesOf hC hI c1.1
    by_cases c2 : m < 1
    · refine ⟨(j32 (-1), μ), ?_, (j32 (-1), μ), ?_, rfl, xStp.same hA hC hI⟩
      · simp (disch := omega) only [Bool.false_eq_true, lits, jj, jc, jm, Int.cast_ofNat_Int, j_bi0, j_bi1, not_true, not_false_eq_true, if_true, if_false, xe, xok_some, Sum.elim_inl, Sum.elim_inr, Int.reduceEq, Int.reduceLT, Int.reduceLE, Int.reduceAdd, Int.reduceSub, Int.reduceMul, eq_true c1, c2]
      · rw [eX12_isLive hA hI hi]; simp (disch := omega) only [Bool.false_eq_true, lits, jj, jc, jm, Int.cast_ofNat_Int, j_bi0, j_bi1, not_true, not_false_eq_true, if_true, if_false, xe, xok_some, Sum.elim_inl, Sum.elim_inr, Int.reduceEq, Int.reduceLT, Int.reduceLE, Int.reduceAdd, Int.reduceSub, Int.reduceMul, eq_true c1, c2]
    · by_cases c3 : A iM_leftOf i ≤ m
      · refine ⟨(j32 (-1), μ), ?_, (j32 (-1), μ), ?_, rfl, xStp.same hA hC hI⟩
        · simp (disch := omega) only [Bool.false_eq_true, lits, jj, jc, jm, Int.cast_ofNat_Int, j_bi0, j_bi1, not_true, not_false_eq_true, if_true, if_false, xe, xok_some, Sum.elim_inl, Sum.elim_inr, Int.reduceEq, Int.reduceLT, Int.reduceLE, Int.reduceAdd, Int.reduceSub, Int.reduceMul, eq_true c1, c2, e1, show ¬ m < A iM_leftOf i by omega]
        · rw [eX12_isLive hA hI hi]; simp (disch := omega) only [Bool.false_eq_true, lits, jj, jc, jm, Int.cast_ofNat_Int, j_bi0, j_bi1, not_true, not_false_eq_true, if_true, if_false, xe, xok_some, Sum.elim_inl, Sum.elim_inr, Int.reduceEq, Int.reduceLT, Int.reduceLE, Int.reduceAdd, Int.reduceSub, Int.reduceMul, eq_true c1, c2, hA, c3]
      · have hO := hC.owers i c1.1.1 c1.1.2
        have hH := hC.holders i c1.1.1 c1.1.2
        have hM := hC.made i c1.1.1 c1.1.2
        have hL := hC.lapses i c1.1.1 c1.1.2
        by_cases c4 : A iM 37 = 60
        · refine ⟨(j32 (-1), μ), ?_, (j32 (-1), μ), ?_, rfl, xStp.same hA hC hI⟩
          · simp (disch := omega) only [Bool.false_eq_true, lits, jj, jc, jm, Int.cast_ofNat_Int, j_bi0, j_bi1, not_true, not_false_eq_true, if_true, if_false, xe, xok_some, Sum.elim_inl, Sum.elim_inr, Int.reduceEq, Int.reduceLT, Int.reduceLE, Int.reduceAdd, Int.reduceSub, Int.reduceMul, eq_true c1, c2, e1, show m < A iM_leftOf i by omega]
            unfold fX4_split
            rw [eX4_holds hC hI hi]
            simp (disch := omega) only [Bool.false_eq_true, lits, jj, jc, jm, Int.cast_ofNat_Int, j_bi0, j_bi1, not_true, not_false_eq_true, if_true, if_false, xe, xok_some, Sum.elim_inl, Sum.elim_inr, Int.reduceEq, Int.reduceLT, Int.reduceLE, Int.reduceAdd, Int.reduceSub, Int.reduceMul, eq_true c1.1, hO, hH, hM, hL, eX4_addFull hC c4]
          · rw [eX12_isLive hA hI hi]; simp (disch := omega) only [Bool.false_eq_true, lits, jj, jc, jm, Int.cast_ofNat_Int, j_bi0, j_bi1, not_true, not_false_eq_true, if_true, if_false, xe, xok_some, Sum.elim_inl, Sum.elim_inr, Int.reduceEq, Int.reduceLT, Int.reduceLE, Int.reduceAdd, Int.reduceSub, Int.reduceMul, eq_true c1, c2, hA, c3, c4]
        · obtain ⟨k, hk⟩ : ∃ k, A iM 37 = k := ⟨_, rfl⟩
          have hk1 : k < 60 := by omega
          have ho : okN (A iM_owesIt i) (A iM_hasIt i) m (A iM_madeOn i) (A iM_lapseOf i) := ⟨b2, b1, by omega, b4, b5, fun h => by have := b6 h; omega⟩
          have hC1 := addC_CH hC hI (by omega) ho
          have hI1 := addA_Inv hI (by omega) ho
          have f1 := eX4_add (a := A iM_owesIt i) (b := A iM_hasIt i) (c := m) (d := A iM_madeOn i) (e := A iM_lapseOf i) hC hI (by omega)
          have g1 := addA_g (A := A) (a := A iM_owesIt i) (b := A iM_hasIt i) (c := m) (d := A iM_madeOn i) (e := A iM_lapseOf i) ⟨h1.1, show A iM 37 < 60 by omega⟩ (z := i) hb.1
          have g2 := addC_g (μ := μ) ⟨h1.1, show A iM 37 < 60 by omega⟩ ho (z := i) hb.1
          have g3 : gi (addC μ (A iM 37) (A iM_owesIt i) (A iM_hasIt i) m (A iM_madeOn i) (A iM_lapseOf i)) iC_notes_minutes i = A iM_leftOf i := by
            rw [g2.2.2.1, if_neg (by omega)]; exact hC.minutes i c1.1.1 c1.1.2
          have hC2 := left_CH hC1 (i := i) (v := A iM_leftOf i - m) hb.1 (by omega)
          have hI2 := left_Inv hI1 (i := i) (v := A iM_leftOf i - m) ⟨hb.1, by rw [g1.2.2.2.2.2]; omega⟩ (by rw [g1.2.2.1, if_neg (by omega)]; omega)
          have hAu : RH (up A iM_leftOf i (A iM_leftOf i - m)) (wr (wr (addC μ (A iM 37) (A iM_owesIt i) (A iM_hasIt i) m (A iM_madeOn i) (A iM_lapseOf i)) iC_notes_minutes i (A iM_leftOf i - m)) iM_leftOf i (A iM_leftOf i - m)) := by
            refine RH.w_leftOf (RH.keep hA (fun o h1 h2 => ?_)) (by omega)
            rw [gi_wr_f (by show o ≠ 31; omega), addC_f (by omega)]
          rw [hk] at f1 g3 hC2 hAu hI2
          generalize hμ1 : wr (addC μ k (A iM_owesIt i) (A iM_hasIt i) m (A iM_madeOn i) (A iM_lapseOf i)) iC_notes_minutes i (A iM_leftOf i - m) = μ1 at hC2 hAu
          have hA1 : RH A μ1 := RH.keep hA (fun o h1 h2 => by rw [← hμ1, gi_wr_f (by show o ≠ 31; omega), addC_f (by omega)])
          have u37 : up A iM_leftOf i (A iM_leftOf i - m) iM 37 = k := by simp (disch := first | omega | decide) only [up_z, up_n, up_o]; exact hk
          have hIu := left_Inv hI (i := i) (v := A iM_leftOf i - m) c1.1 (by omega)
          have f2 := eX12_makes (a := A iM_owesIt i) (b := A iM_hasIt i) (c := m) (d := A iM_madeOn i) (e := A iM_lapseOf i) hAu hIu (by rw [u37]; omega)
          have hR2 := addM_RH hAu (by rw [u37]; omega) ho
          rw [u37] at f2 hR2
          rw [addA_up (by omega)] at hR2
          generalize hμ2 : addM (wr μ1 iM_leftOf i (A iM_leftOf i - m)) k (A iM_owesIt i) (A iM_hasIt i) m (A iM_madeOn i) (A iM_lapseOf i) = μ2 at f2 hR2
          have g5 : gi μ2 iM 37 = k + 1 := by
            rw [(RH.sc hR2).2.2.2.2.2.2.1, up_o (by decide), ← hk, g1.2.2.2.2.2]
          refine ⟨(j32 k, μ1), ?_, (j32 k, μ2), ?_, rfl, ?_⟩
          · simp (disch := omega) only [Bool.false_eq_true, lits, jj, jc, jm, Int.cast_ofNat_Int, j_bi0, j_bi1, not_true, not_false_eq_true, if_true, if_false, xe, xok_some, Sum.elim_inl, Sum.elim_inr, Int.reduceEq, Int.reduceLT, Int.reduceLE, Int.reduceAdd, Int.reduceSub, Int.reduceMul, eq_true c1, c2, e1, show m < A iM_leftOf i by omega]
            unfold fX4_split
            rw [eX4_holds hC hI hi]
            simp (disch := omega) only [Bool.false_eq_true, lits, jj, jc, jm, Int.cast_ofNat_Int, j_bi0, j_bi1, not_true, not_false_eq_true, if_true, if_false, xe, xok_some, Sum.elim_inl, Sum.elim_inr, Int.reduceEq, Int.reduceLT, Int.reduceLE, Int.reduceAdd, Int.reduceSub, Int.reduceMul, eq_true c1.1, hO, hH, hM, hL, f1, show ¬ k = -1 by omega, g3, hμ1]
          · rw [eX12_isLive hA1 hI hi]
            have q1 : gi (wr μ1 iM_leftOf i (A iM_leftOf i - m)) iM_owesIt i = A iM_owesIt i := by rw [gi_wr_o (by decide), RH.at hA1 rfl]
            have q2 : gi (wr μ1 iM_leftOf i (A iM_leftOf i - m)) iM_hasIt i = A iM_hasIt i := by rw [gi_wr_o (by decide), RH.at hA1 rfl]
            have q3 : gi (wr μ1 iM_leftOf i (A iM_leftOf i - m)) iM_madeOn i = A iM_madeOn i := by rw [gi_wr_o (by decide), RH.at hA1 rfl]
            have q4 : gi (wr μ1 iM_leftOf i (A iM_leftOf i - m)) iM_lapseOf i = A iM_lapseOf i := by rw [gi_wr_o (by decide), RH.at hA1 rfl]
            simp (disch := omega) only [Bool.false_eq_true, lits, jj, jc, jm, Int.cast_ofNat_Int, j_bi0, j_bi1, not_true, not_false_eq_true, if_true, if_false, xe, xok_some, Sum.elim_inl, Sum.elim_inr, Int.reduceEq, Int.reduceLT, Int.reduceLE, Int.reduceAdd, Int.reduceSub, Int.reduceMul, eq_true c1, c2, hA1, c3, hk, show ¬ k = 60 by omega, q1, q2, q3, q4, f2, g5]
            rw [show k + 1 - 1 = k by omega]
          · refine ⟨?_, _, hR2, ?_, hI2⟩
            · rw [← hμ2, ← hμ1]
              exact ((addC_LK.tr (LK.w_ (by decide))).tr (LK.w_ (by decide))).tr addM_LK
            · refine hC2.ref (fun o ho => ?_)
              rw [← hμ2, addM_o ho, gi_wr_f (by show o ≠ 86; omega)]
  · refine ⟨(j32 (-1), μ), ?_, (j32 (-1), μ), ?_, rfl, xStp.same hA hC hI⟩
    · simp (disch := omega) only [Bool.false_eq_true, lits, jj, jc, jm, Int.cast_ofNat_Int, j_bi0, j_bi1, not_true, not_false_eq_true, if_true, if_false, xe, xok_some, Sum.elim_inl, Sum.elim_inr, Int.reduceEq, Int.reduceLT, Int.reduceLE, Int.reduceAdd, Int.reduceSub, Int.reduceMul, eq_false c1]
    · rw [eX12_isLive hA hI hi]; simp (disch := omega) only [Bool.false_eq_true, lits, jj, jc, jm, Int.cast_ofNat_Int, j_bi0, j_bi1, not_true, not_false_eq_true, if_true, if_false, xe, xok_some, Sum.elim_inl, Sum.elim_inr, Int.reduceEq, Int.reduceLT, Int.reduceLE, Int.reduceAdd, Int.reduceSub, Int.reduceMul, eq_false c1]
