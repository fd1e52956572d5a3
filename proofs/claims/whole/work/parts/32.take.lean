/-! take, owed -/
theorem eX5_givenIn {A : xAs} {μ : xm} {R : xr} {n : Nat} (hC : CH A μ R n) {p h : Int} (hp : 0 ≤ p ∧ p < 8) (hh : 0 ≤ h ∧ h < 24) : fX5_givenIn (j32 p) (j32 h) μ = some (j32 (A iM_gaveIn (24 * p + h))) := by
  unfold fX5_givenIn
  rw [eX5_slot hp hh]
  simp (disch := omega) only [Bool.false_eq_true, lits, jj, jc, jm, Int.cast_ofNat_Int, j_bi0, j_bi1, not_true, not_false_eq_true, if_true, if_false, xe, xok_some, Sum.elim_inl, Sum.elim_inr, Int.reduceEq, Int.reduceLT, Int.reduceLE, Int.reduceAdd, Int.reduceSub, Int.reduceMul, show ¬ 24 * p + h < 0 by omega, show ¬ 192 ≤ 24 * p + h by omega, hC.given (24 * p + h) (by omega) (by omega)]
theorem eX5_takenIn {A : xAs} {μ : xm} {R : xr} {n : Nat} (hC : CH A μ R n) {p h : Int} (hp : 0 ≤ p ∧ p < 8) (hh : 0 ≤ h ∧ h < 24) : fX5_takenIn (j32 p) (j32 h) μ = some (j32 (A iM_tookIn (24 * p + h))) := by
  unfold fX5_takenIn
  rw [eX5_slot hp hh]
  simp (disch := omega) only [Bool.false_eq_true, lits, jj, jc, jm, Int.cast_ofNat_Int, j_bi0, j_bi1, not_true, not_false_eq_true, if_true, if_false, xe, xok_some, Sum.elim_inl, Sum.elim_inr, Int.reduceEq, Int.reduceLT, Int.reduceLE, Int.reduceAdd, Int.reduceSub, Int.reduceMul, show ¬ 24 * p + h < 0 by omega, show ¬ 192 ≤ 24 * p + h by omega, hC.taken (24 * p + h) (by omega) (by omega)]
theorem eX5_worthAt {A : xAs} {μ : xm} {R : xr} {n : Nat} (hC : CH A μ R n) {p h : Int} (hp : 0 ≤ p ∧ p < 8) (hh : 0 ≤ h ∧ h < 24) : fX5_worthAt (j32 p) (j32 h) μ = some (j32 (A iM_worthOf (24 * p + h))) := by
  unfold fX5_worthAt
  rw [eX5_slot hp hh]
  simp (disch := omega) only [Bool.false_eq_true, lits, jj, jc, jm, Int.cast_ofNat_Int, j_bi0, j_bi1, not_true, not_false_eq_true, if_true, if_false, xe, xok_some, Sum.elim_inl, Sum.elim_inr, Int.reduceEq, Int.reduceLT, Int.reduceLE, Int.reduceAdd, Int.reduceSub, Int.reduceMul, show ¬ 24 * p + h < 0 by omega, show ¬ 192 ≤ 24 * p + h by omega, hC.worths (24 * p + h) (by omega) (by omega)]
theorem eX5_add {μ : xm} {o : Nat} {z v : Int} (ho : xkd o = (1, 192)) (hz : 0 ≤ z ∧ z < 192) : fX5_add o (j32 z) (j32 v) μ = some (wr μ o z (gi μ o z + v)) := by
  unfold fX5_add
  rw [ho, show Int32.ofNat (1, 192).2 = j32 192 from rfl]
  simp (disch := omega) only [Bool.false_eq_true, lits, jj, jc, jm, Int.cast_ofNat_Int, j_bi0, j_bi1, not_true, not_false_eq_true, if_true, if_false, xe, xok_some, Sum.elim_inl, Sum.elim_inr, Int.reduceEq, Int.reduceLT, Int.reduceLE, Int.reduceAdd, Int.reduceSub, Int.reduceMul, show ¬ z < 0 by omega, show ¬ 192 ≤ z by omega]
theorem s_take {A : xAs} {μ : xm} {R : xr} {n : Nat} (hA : RH A μ) (hC : CH A μ R n) (hI : Inv A) (a1 a2 a3 : Int32) : ∃ q, fX11_take a1 a2 a3 μ = some q ∧ ∃ q2, fX12_take a1 a2 a3 q.2 = some q2 ∧ q2.1 = q.1 ∧ xStp μ R n q2.2 := by
  obtain ⟨i, rfl, hi⟩ := j32_ex a1
  obtain ⟨m, rfl, hm⟩ := j32_ex a2
  obtain ⟨h, rfl, hh⟩ := j32_ex a3
  have h0 := hI.now
  have h1 := hI.notes
  unfold fX11_take fX12_take
  simp only [lits, jj, Int.cast_ofNat_Int]
  rw [hC.now, eX4_isLive hC hI hi (by omega), eX11_within hh (by omega) (by omega), eX11_within hm (by omega) (by omega)]
  by_cases c1 : isN A i ∧ aLive A i (A iM 0)
  · have hb : 0 ≤ i ∧ i < 60 := ⟨c1.1.1, by have := c1.1.2; omega⟩
    have b1 := hI.hasIt i c1.1.1 c1.1.2
    have b2 := hI.owesIt i c1.1.1 c1.1.2
    have b3 := hI.leftOf i c1.1.1 c1.1.2
    have e1 := eX4_minutesOf hC hI c1.1
    have e2 := eX4_owerOf hC hI c1.1
    have e3 := eX4_holderOf hC hI c1.1
    by_cases c2 : 0 ≤ h ∧ h ≤ 23
    · by_cases c3 : 1 ≤ m ∧ m ≤ 60
      · by_cases c4 : A iM_leftOf i < m
        · refine ⟨(j32 (-1), μ), ?_, (j32 (-1), μ), ?_, rfl, xStp.same hA hC hI⟩
          · simp (disch := omega) only [Bool.false_eq_true, lits, jj, jc, jm, Int.cast_ofNat_Int, j_bi0, j_bi1, not_true, not_false_eq_true, if_true, if_false, xe, xok_some, Sum.elim_inl, Sum.elim_inr, Int.reduceEq, Int.reduceLT, Int.reduceLE, Int.reduceAdd, Int.reduceSub, Int.reduceMul, eq_true c1, eq_true c2, eq_true c3, e1, show ¬ m ≤ A iM_leftOf i by omega]
          · rw [eX12_isLive hA hI hi, eX12_in hm (by omega) (by omega)]; simp (disch := omega) only [Bool.false_eq_true, lits, jj, jc, jm, Int.cast_ofNat_Int, j_bi0, j_bi1, not_true, not_false_eq_true, if_true, if_false, xe, xok_some, Sum.elim_inl, Sum.elim_inr, Int.reduceEq, Int.reduceLT, Int.reduceLE, Int.reduceAdd, Int.reduceSub, Int.reduceMul, eq_true c1, eq_true c3, hA, c4]
        · obtain ⟨zg, hzg⟩ : ∃ z, 24 * A iM_owesIt i + h = z := ⟨_, rfl⟩
          obtain ⟨zt, hzt⟩ : ∃ z, 24 * A iM_hasIt i + h = z := ⟨_, rfl⟩
          have e4 := eX5_givenIn hC b2 (show 0 ≤ h ∧ h < 24 by omega)
          have e5 := eX5_takenIn hC b1 (show 0 ≤ h ∧ h < 24 by omega)
          have b4 := hI.gaveIn zg (by omega) (by omega)
          have b5 := hI.tookIn zt (by omega) (by omega)
          rw [hzg] at e4
          rw [hzt] at e5
          by_cases c5 : A iM_gaveIn zg + m > 60
          · refine ⟨(j32 (-1), μ), ?_, (j32 (-1), μ), ?_, rfl, xStp.same hA hC hI⟩
            · simp (disch := omega) only [Bool.false_eq_true, lits, jj, jc, jm, Int.cast_ofNat_Int, j_bi0, j_bi1, not_true, not_false_eq_true, if_true, if_false, xe, xok_some, Sum.elim_inl, Sum.elim_inr, Int.reduceEq, Int.reduceLT, Int.reduceLE, Int.reduceAdd, Int.reduceSub, Int.reduceMul, eq_true c1, eq_true c2, eq_true c3, e1, show m ≤ A iM_leftOf i by omega, e2, e3, e4, show ¬ A iM_gaveIn zg + m ≤ 60 by omega]
            · rw [eX12_isLive hA hI hi, eX12_in hm (by omega) (by omega), eX12_in hh (by omega) (by omega)]
              simp (disch := omega) only [Bool.false_eq_true, lits, jj, jc, jm, Int.cast_ofNat_Int, j_bi0, j_bi1, not_true, not_false_eq_true, if_true, if_false, xe, xok_some, Sum.elim_inl, Sum.elim_inr, Int.reduceEq, Int.reduceLT, Int.reduceLE, Int.reduceAdd, Int.reduceSub, Int.reduceMul, eq_true c1, eq_true c3, eq_true c2, hA, c4, hzg, show 60 < A iM_gaveIn zg + m by omega]
          · by_cases c6 : A iM_tookIn zt + m > 60
            · refine ⟨(j32 (-1), μ), ?_, (j32 (-1), μ), ?_, rfl, xStp.same hA hC hI⟩
              · simp (disch := omega) only [Bool.false_eq_true, lits, jj, jc, jm, Int.cast_ofNat_Int, j_bi0, j_bi1, not_true, not_false_eq_true, if_true, if_false, xe, xok_some, Sum.elim_inl, Sum.elim_inr, Int.reduceEq, Int.reduceLT, Int.reduceLE, Int.reduceAdd, Int.reduceSub, Int.reduceMul, eq_true c1, eq_true c2, eq_true c3, e1, show m ≤ A iM_leftOf i by omega, e2, e3, e4, show A iM_gaveIn zg + m ≤ 60 by omega, e5, show ¬ A iM_tookIn zt + m ≤ 60 by omega]
              · rw [eX12_isLive hA hI hi, eX12_in hm (by omega) (by omega), eX12_in hh (by omega) (by omega)]
                simp (disch := omega) only [Bool.false_eq_true, lits, jj, jc, jm, Int.cast_ofNat_Int, j_bi0, j_bi1, not_true, not_false_eq_true, if_true, if_false, xe, xok_some, Sum.elim_inl, Sum.elim_inr, Int.reduceEq, Int.reduceLT, Int.reduceLE, Int.reduceAdd, Int.reduceSub, Int.reduceMul, eq_true c1, eq_true c3, eq_true c2, hA, c4, hzg, hzt, show ¬ 60 < A iM_gaveIn zg + m by omega, show ¬ A iM_tookIn zt + m ≤ 60 by omega]
            · generalize hμ1 : wr (wr (wr μ iC_people_given zg (A iM_gaveIn zg + m)) iC_people_taken zt (A iM_tookIn zt + m)) iC_notes_minutes i (A iM_leftOf i - m) = μ1
              have f1 : fX5_countTaking (j32 (A iM_owesIt i)) (j32 (A iM_hasIt i)) (j32 h) (j32 m) μ = some (wr (wr μ iC_people_given zg (A iM_gaveIn zg + m)) iC_people_taken zt (A iM_tookIn zt + m)) := by
                unfold fX5_countTaking
                rw [eX5_slot b2 (by omega), eX5_slot b1 (by omega), hzg, hzt]
                simp only [xe]
                rw [eX5_add (by decide +kernel) (by omega)]
                simp only [xe]
                rw [eX5_add (by decide +kernel) (by omega)]
                simp only [xe]
                rw [hC.given zg (by omega) (by omega), gi_wr_o (by decide), hC.taken zt (by omega) (by omega)]
              have hCx : CH A (wr (wr μ iC_people_given zg (A iM_gaveIn zg + m)) iC_people_taken zt (A iM_tookIn zt + m)) R n → True := fun _ => trivial
              have n1 : gi (wr (wr μ iC_people_given zg (A iM_gaveIn zg + m)) iC_people_taken zt (A iM_tookIn zt + m)) iC_notes = gi μ iC_notes := by rw [gi_wr_f (by decide), gi_wr_f (by decide)]
              have n2 : gi (wr (wr μ iC_people_given zg (A iM_gaveIn zg + m)) iC_people_taken zt (A iM_tookIn zt + m)) iC_notes_minutes = gi μ iC_notes_minutes := by rw [gi_wr_f (by decide), gi_wr_f (by decide)]
              have f2 : fX4_lessen (j32 i) (j32 m) (wr (wr μ iC_people_given zg (A iM_gaveIn zg + m)) iC_people_taken zt (A iM_tookIn zt + m)) = some μ1 := by
                unfold fX4_lessen fX4_holds
                simp (disch := omega) only [Bool.false_eq_true, lits, jj, jc, jm, Int.cast_ofNat_Int, j_bi0, j_bi1, not_true, not_false_eq_true, if_true, if_false, xe, xok_some, Sum.elim_inl, Sum.elim_inr, Int.reduceEq, Int.reduceLT, Int.reduceLE, Int.reduceAdd, Int.reduceSub, Int.reduceMul, n1, hC.notes, show ¬ i < 0 by omega, show ¬ A iM 37 ≤ i by have := c1.1.2; omega, show ¬ 60 ≤ i by omega, n2, hC.minutes i c1.1.1 c1.1.2, hμ1]
              have n3 : gi μ1 iC_notes = gi μ iC_notes := by rw [← hμ1, gi_wr_f (by decide), n1]
              have f3 : fX4_minutesOf (j32 i) μ1 = some (j32 (A iM_leftOf i - m)) := by
                unfold fX4_minutesOf fX4_holds
                have n4 : gi μ1 iC_notes_minutes i = A iM_leftOf i - m := by rw [← hμ1, gi_wr (by omega)]
                simp (disch := omega) only [Bool.false_eq_true, lits, jj, jc, jm, Int.cast_ofNat_Int, j_bi0, j_bi1, not_true, not_false_eq_true, if_true, if_false, xe, xok_some, Sum.elim_inl, Sum.elim_inr, Int.reduceEq, Int.reduceLT, Int.reduceLE, Int.reduceAdd, Int.reduceSub, Int.reduceMul, n3, hC.notes, show ¬ i < 0 by omega, show ¬ A iM 37 ≤ i by have := c1.1.2; omega, show ¬ 60 ≤ i by omega, n4]
              have g1 : ∀ o, o ≠ iC_notes_minutes → o ≠ iC_people_given → o ≠ iC_people_taken → gi μ1 o = gi μ o := fun o h1 h2 h3 => by
                rw [← hμ1, gi_wr_f h1, gi_wr_f h3, gi_wr_f h2]
              have hA1 : RH A μ1 := RH.keep hA (fun o h1 h2 => g1 o (by show o ≠ 31; omega) (by show o ≠ 21; omega) (by show o ≠ 22; omega))
              generalize hμ2 : wr (wr (wr μ1 iM_gaveIn zg (A iM_gaveIn zg + m)) iM_tookIn zt (A iM_tookIn zt + m)) iM_leftOf i (A iM_leftOf i - m) = μ2
              have g2 : ∀ o, o ≠ iM_leftOf → o ≠ iM_gaveIn → o ≠ iM_tookIn → gi μ2 o = gi μ1 o := fun o h1 h2 h3 => by
                rw [← hμ2, gi_wr_f h1, gi_wr_f h3, gi_wr_f h2]
              refine ⟨(j32 (A iM_leftOf i - m), μ1), ?_, (j32 (A iM_leftOf i - m), μ2), ?_, rfl, ?_⟩
              · simp (disch := omega) only [Bool.false_eq_true, lits, jj, jc, jm, Int.cast_ofNat_Int, j_bi0, j_bi1, not_true, not_false_eq_true, if_true, if_false, xe, xok_some, Sum.elim_inl, Sum.elim_inr, Int.reduceEq, Int.reduceLT, Int.reduceLE, Int.reduceAdd, Int.reduceSub, Int.reduceMul, eq_true c1, eq_true c2, eq_true c3, e1, show m ≤ A iM_leftOf i by omega, e2, e3, e4, show A iM_gaveIn zg + m ≤ 60 by omega, e5, show A iM_tookIn zt + m ≤ 60 by omega, f1, f2, f3]
              · rw [eX12_isLive hA1 hI hi, eX12_in hm (by omega) (by omega), eX12_in hh (by omega) (by omega)]
                have q1 : gi (wr μ1 iM_gaveIn zg (A iM_gaveIn zg + m)) iM_tookIn zt = A iM_tookIn zt := by rw [gi_wr_o (by decide), RH.at hA1 rfl]
                have q2 : gi (wr (wr μ1 iM_gaveIn zg (A iM_gaveIn zg + m)) iM_tookIn zt (A iM_tookIn zt + m)) iM_leftOf i = A iM_leftOf i := by rw [gi_wr_o (by decide), gi_wr_o (by decide), RH.at hA1 rfl]
                have q3 : gi μ2 iM_leftOf i = A iM_leftOf i - m := by rw [← hμ2, gi_wr (by omega)]
                simp (disch := omega) only [Bool.false_eq_true, lits, jj, jc, jm, Int.cast_ofNat_Int, j_bi0, j_bi1, not_true, not_false_eq_true, if_true, if_false, xe, xok_some, Sum.elim_inl, Sum.elim_inr, Int.reduceEq, Int.reduceLT, Int.reduceLE, Int.reduceAdd, Int.reduceSub, Int.reduceMul, eq_true c1, eq_true c3, eq_true c2, hA1, c4, hzg, hzt, show ¬ 60 < A iM_gaveIn zg + m by omega, show A iM_tookIn zt + m ≤ 60 by omega, q1, q2, hμ2, q3]
              · refine ⟨LK.of (fun o ho => by rw [g2 o (by show o ≠ 86; omega) (by show o ≠ 90; omega) (by show o ≠ 89; omega), g1 o (by show o ≠ 31; omega) (by show o ≠ 21; omega) (by show o ≠ 22; omega)]), up (up (up A iM_gaveIn zg (A iM_gaveIn zg + m)) iM_tookIn zt (A iM_tookIn zt + m)) iM_leftOf i (A iM_leftOf i - m), ?_, ?_, ?_⟩
                · rw [← hμ2]; exact RH.w_leftOf (RH.w_tookIn (RH.w_gaveIn hA1 (by omega)) (by omega)) (by omega)
                · have u37 : up (up (up A iM_gaveIn zg (A iM_gaveIn zg + m)) iM_tookIn zt (A iM_tookIn zt + m)) iM_leftOf i (A iM_leftOf i - m) iM 37 = A iM 37 := by simp (disch := first | omega | decide) only [up_z, up_n, up_o]
                  refine hC.u_take (fun o h1 h2 h3 h4 => ?_) (fun o h1 h2 h3 => by rw [up_o h1, up_o h3, up_o h2]) ?_ ?_ ?_
                  · rw [g2 o (by show o ≠ 86; omega) (by show o ≠ 90; omega) (by show o ≠ 89; omega), g1 o (by assumption) (by assumption) (by assumption)]
                  · intro z hz hz2
                    rw [g2 _ (by decide) (by decide) (by decide), ← hμ1, gi_wr_o (by decide), gi_wr_o (by decide), gi_wr_if (by omega) (by omega), up_o (by decide), up_o (by decide), up_if (by omega)]
                    split
                    · rfl
                    · exact hC.given z hz hz2
                  · intro z hz hz2
                    rw [g2 _ (by decide) (by decide) (by decide), ← hμ1, gi_wr_o (by decide), gi_wr_if (by omega) (by omega), gi_wr_o (by decide), up_o (by decide), up_if (by omega), up_o (by decide)]
                    split
                    · rfl
                    · exact hC.taken z hz hz2
                  · intro z hz hz2
                    rw [u37] at hz2
                    rw [g2 _ (by decide) (by decide) (by decide), ← hμ1, gi_wr_if (by omega) (by omega), gi_wr_o (by decide), gi_wr_o (by decide), up_if (by omega), up_o (by decide), up_o (by decide)]
                    split
                    · rfl
                    · exact hC.minutes z hz hz2
                · have u37 : up (up (up A iM_gaveIn zg (A iM_gaveIn zg + m)) iM_tookIn zt (A iM_tookIn zt + m)) iM_leftOf i (A iM_leftOf i - m) iM 37 = A iM 37 := by simp (disch := first | omega | decide) only [up_z, up_n, up_o]
                  refine hI.u_take (fun o h1 h2 h3 => by rw [up_o h1, up_o h3, up_o h2]) ?_ ?_ ?_ ?_
                  · intro z hz hz2
                    rw [u37] at hz2
                    rw [up_if (by omega), up_o (by decide), up_o (by decide)]
                    split
                    · omega
                    · exact hI.leftOf z hz hz2
                  · intro z hz hz2
                    rw [u37] at hz2
                    rw [up_o (o := iM_leftOf) (a := iM_owesIt) (by decide), up_o (o := iM_tookIn) (a := iM_owesIt) (by decide), up_o (o := iM_gaveIn) (a := iM_owesIt) (by decide), up_o (o := iM_leftOf) (a := iM_hasIt) (by decide), up_o (o := iM_tookIn) (a := iM_hasIt) (by decide), up_o (o := iM_gaveIn) (a := iM_hasIt) (by decide), up_if (by omega), up_o (by decide), up_o (by decide)]
                    intro hq
                    have := hI.own z hz hz2 hq
                    split
                    · rename_i e; subst e; omega
                    · exact this
                  · intro z hz hz2
                    rw [up_o (by decide), up_if (by omega), up_o (by decide)]
                    split
                    · omega
                    · exact hI.tookIn z hz hz2
                  · intro z hz hz2
                    rw [up_o (by decide), up_o (by decide), up_if (by omega)]
                    split
                    · omega
                    · exact hI.gaveIn z hz hz2
      · refine ⟨(j32 (-1), μ), ?_, (j32 (-1), μ), ?_, rfl, xStp.same hA hC hI⟩
        · simp (disch := omega) only [Bool.false_eq_true, lits, jj, jc, jm, Int.cast_ofNat_Int, j_bi0, j_bi1, not_true, not_false_eq_true, if_true, if_false, xe, xok_some, Sum.elim_inl, Sum.elim_inr, Int.reduceEq, Int.reduceLT, Int.reduceLE, Int.reduceAdd, Int.reduceSub, Int.reduceMul, eq_true c1, eq_true c2, eq_false c3]
        · rw [eX12_isLive hA hI hi, eX12_in hm (by omega) (by omega)]; simp (disch := omega) only [Bool.false_eq_true, lits, jj, jc, jm, Int.cast_ofNat_Int, j_bi0, j_bi1, not_true, not_false_eq_true, if_true, if_false, xe, xok_some, Sum.elim_inl, Sum.elim_inr, Int.reduceEq, Int.reduceLT, Int.reduceLE, Int.reduceAdd, Int.reduceSub, Int.reduceMul, eq_true c1, eq_false c3]
    · refine ⟨(j32 (-1), μ), ?_, (j32 (-1), μ), ?_, rfl, xStp.same hA hC hI⟩
      · simp (disch := omega) only [Bool.false_eq_true, lits, jj, jc, jm, Int.cast_ofNat_Int, j_bi0, j_bi1, not_true, not_false_eq_true, if_true, if_false, xe, xok_some, Sum.elim_inl, Sum.elim_inr, Int.reduceEq, Int.reduceLT, Int.reduceLE, Int.reduceAdd, Int.reduceSub, Int.reduceMul, eq_true c1, eq_false c2]
      · rw [eX12_isLive hA hI hi, eX12_in hm (by omega) (by omega), eX12_in hh (by omega) (by omega)]
        by_cases c3 : 1 ≤ m ∧ m ≤ 60
        · by_cases c4 : A iM_leftOf i < m
          · simp (disch := omega) only [Bool.false_eq_true, lits, jj, jc, jm, Int.cast_ofNat_Int, j_bi0, j_bi1, not_true, not_false_eq_true, if_true, if_false, xe, xok_some, Sum.elim_inl, Sum.elim_inr, Int.reduceEq, Int.reduceLT, Int.reduceLE, Int.reduceAdd, Int.reduceSub, Int.reduceMul, eq_true c1, eq_true c3, eq_false c2, hA, c4]
          · simp (disch := omega) only [Bool.false_eq_true, lits, jj, jc, jm, Int.cast_ofNat_Int, j_bi0, j_bi1, not_true, not_false_eq_true, if_true, if_false, xe, xok_some, Sum.elim_inl, Sum.elim_inr, Int.reduceEq, Int.reduceLT, Int.reduceLE, Int.reduceAdd, Int.reduceSub, Int.reduceMul, eq_true c1, eq_true c3, eq_false c2, hA, c4]
        · simp (disch := omega) only [Bool.false_eq_true, lits, jj, jc, jm, Int.cast_ofNat_Int, j_bi0, j_bi1, not_true, not_false_eq_true, if_true, if_false, xe, xok_some, Sum.elim_inl, Sum.elim_inr, Int.reduceEq, Int.reduceLT, Int.reduceLE, Int.reduceAdd, Int.reduceSub, Int.reduceMul, eq_true c1, eq_false c3]
  · refine ⟨(j32 (-1), μ), ?_, (j32 (-1), μ), ?_, rfl, xStp.same hA hC hI⟩
    · simp (disch := omega) only [Bool.false_eq_true, lits, jj, jc, jm, Int.cast_ofNat_Int, j_bi0, j_bi1, not_true, not_false_eq_true, if_true, if_false, xe, xok_some, Sum.elim_inl, Sum.elim_inr, Int.reduceEq, Int.reduceLT, Int.reduceLE, Int.reduceAdd, Int.reduceSub, Int.reduceMul, eq_false c1]
    · rw [eX12_isLive hA hI hi]; simp (disch := omega) only [Bool.false_eq_true, lits, jj, jc, jm, Int.cast_ofNat_Int, j_bi0, j_bi1, not_true, not_false_eq_true, if_true, if_false, xe, xok_some, Sum.elim_inl, Sum.elim_inr, Int.reduceEq, Int.reduceLT, Int.reduceLE, Int.reduceAdd, Int.reduceSub, Int.reduceMul, eq_false c1]
