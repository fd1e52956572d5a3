/-! settle -/
theorem sumTo_up {f g : Int → Int} {w : Int} (hw : 0 ≤ w) (hg : g w = f w + 1) (ho : ∀ z, 0 ≤ z → z ≠ w → g z = f z) : ∀ {k : Nat}, w < k → sumTo g k = sumTo f k + 1
  | 0, h => by omega
  | k + 1, hk => by
    rw [sumTo_s, sumTo_s]
    by_cases c : w = k
    · have h1 : sumTo g k = sumTo f k := sumTo_c (fun z h1 h2 => ho z h1 (by omega))
      rw [h1, ← c, hg]; omega
    · have h1 := sumTo_up hw hg ho (k := k) (by omega)
      rw [h1, ho k (by omega) (by omega)]; omega
def clA (B : xAs) (m : Int) : xAs := up (up B iM_isSettled m 1) iM 3 (B iM 3 + 1)
theorem clA_3 {B : xAs} {m : Int} : clA B m iM 3 = B iM 3 + 1 := by unfold clA; rw [up_z]
theorem clA_s {B : xAs} {m k : Int} (h : 0 ≤ k) (hk : k ≠ 3) : clA B m iM k = B iM k := by unfold clA; rw [up_n (by omega), up_o (by decide)]
theorem clA_o {B : xAs} {m : Int} {o : Nat} (h1 : o ≠ iM_isSettled) (h2 : o ≠ iM) : clA B m o = B o := by unfold clA; rw [up_o h2, up_o h1]
theorem clA_i {B : xAs} {m q : Int} (h1 : 0 ≤ m) (h2 : 0 ≤ q) : clA B m iM_isSettled q = if q = m then 1 else B iM_isSettled q := by unfold clA; rw [up_o (by decide), up_if ⟨h1, h2⟩]
theorem set3_b {B : xAs} {ν : xm} {R : xr} {n : Nat} (hC : CH B ν R n) (hI : Inv B) : 0 ≤ B iM 3 ∧ B iM 3 ≤ 24 := by
  have h1 := hI.mt
  have h2 := sumTo_b (f := fun m => B iM_isSettled m) (B := 1) (k := (B iM 1).toNat) (fun z h1 h2 => by have := hI.isSettled z h1 (by omega); show 0 ≤ B iM_isSettled z ∧ B iM_isSettled z ≤ 1; omega)
  have h3 := hC.settledMany
  omega
theorem close_CH {B : xAs} {ν : xm} {R : xr} {n : Nat} (hC : CH B ν R n) (hI : Inv B) {m : Int} (hm : 0 ≤ m ∧ m < B iM 1) (hs : B iM_isSettled m = 0) : CH (clA B m) (wr ν (oM m) 4 1) R n := by
  have e1 : clA B m iM 1 = B iM 1 := clA_s (by decide) (by decide)
  refine hC.u_close (fun o ho => gi_wr_f (fun e => by have := oM_hi m; omega)) (fun o h1 h2 => clA_o h1 h2) (fun k h1 h2 => clA_s h1 h2) ?_ ?_ ?_ ?_ ?_ ?_
  · intro q h1 h2; rw [e1] at h2; rw [clA_o (by decide) (by decide)]
    by_cases c : q = m
    · subst c; rw [gi_wr_z (by omega)]; exact hC.day q h1 h2
    · rw [gi_wr_o (oM_neq h1 hm.1 c)]; exact hC.day q h1 h2
  · intro q h1 h2; rw [e1] at h2; rw [clA_o (by decide) (by decide)]
    by_cases c : q = m
    · subst c; rw [gi_wr_z (by omega)]; exact hC.minute q h1 h2
    · rw [gi_wr_o (oM_neq h1 hm.1 c)]; exact hC.minute q h1 h2
  · intro q h1 h2; rw [e1] at h2; rw [clA_o (by decide) (by decide)]
    by_cases c : q = m
    · subst c; rw [gi_wr_z (by omega)]; exact hC.people q h1 h2
    · rw [gi_wr_o (oM_neq h1 hm.1 c)]; exact hC.people q h1 h2
  · intro q h1 h2; rw [e1] at h2; rw [clA_i hm.1 h1]
    by_cases c : q = m
    · subst c; rw [if_pos rfl, gi_wr (by omega)]
    · rw [if_neg c, gi_wr_o (oM_neq h1 hm.1 c)]; exact hC.settled q h1 h2
  · intro q p h1 h2 h3 h4; rw [e1] at h2; rw [clA_o (by decide) (by decide), gi_wr_o oM1_oM]; exact hC.came q p h1 h2 h3 h4
  · rw [e1, clA_3, hC.settledMany]
    have h1 := hI.mt
    refine (sumTo_up hm.1 ?_ ?_ (k := (B iM 1).toNat) (by omega)).symm
    · show clA B m iM_isSettled m = B iM_isSettled m + 1
      rw [clA_i hm.1 hm.1, if_pos rfl, hs]; rfl
    · intro z hz0 hz
      show clA B m iM_isSettled z = B iM_isSettled z
      rw [clA_i hm.1 hz0, if_neg hz]
theorem close_Inv {B : xAs} (hI : Inv B) {m : Int} (hm : 0 ≤ m ∧ m < B iM 1) (ha : sAll (B iM_peopleOf m) (cA B m) 8 = true) : Inv (clA B m) := by
  have e1 : clA B m iM 1 = B iM 1 := clA_s (by decide) (by decide)
  refine hI.u_close (fun o h1 h2 => clA_o h1 h2) (fun k h1 h2 => clA_s h1 h2) ?_ ?_ ?_
  · intro q h1 h2; rw [e1] at h2; rw [clA_i hm.1 h1]; split
    · exact Or.inr rfl
    · exact hI.isSettled q h1 h2
  · intro q p h1 h2; rw [e1] at h2; rw [clA_i hm.1 h1, clA_o (o := iM_peopleOf) (by decide) (by decide), clA_o (o := iM_cameAt) (by decide) (by decide)]
    intro h3 h4
    by_cases c : q = m
    · subst c
      have := sAll_iff.mp ha p h4.1 (by have := h4.2.1; omega) h4
      exact this
    · rw [if_neg c] at h3; exact hI.settledCame q p h1 h2 h3 h4
  · intro q h1 h2; rw [e1] at h1; rw [clA_i hm.1 (by omega), if_neg (by omega)]; exact hI.fresh q h1 h2
theorem s_settle {V : Int → (Nat → Int) → Int} {A : xAs} {μ : xm} {R : xr} {n : Nat} (hL : Law V μ R) (hA : RH A μ) (hC : CH A μ R n) (hI : Inv A) (a1 : Int32) : ∃ q, fX11_settle a1 μ R = some q ∧ ∃ q2, fX12_settle a1 q.2 = some q2 ∧ q2.1 = q.1 ∧ xStp μ R n q2.2 := by
  obtain ⟨m, rfl, hm⟩ := j32_ex a1
  have h0 := hI.now
  have hmt := hI.mt
  have h37 := hI.notes
  have f1 := eX3_find hC hI hm
  have f2 := eX12_isMeeting hA hI hm
  by_cases c1 : 0 ≤ m ∧ m < A iM 1
  · rw [if_pos c1] at f1
    have f3 := eC_isSettled hC hI c1
    have f4 := eC_start hC hI c1
    have f5 := eX12_allCame hA hI c1
    have d1 := hC.now
    have d2 := hC.day m c1.1 c1.2
    have d3 : gi μ iM 0 = A iM 0 := (RH.sc hA).1
    have d4 : gi μ iM_isSettled m = A iM_isSettled m := by rw [RH.at hA (by decide)]
    have d5 : gi μ iM_dayOf m = A iM_dayOf m := by rw [RH.at hA (by decide)]
    have b1 := hI.dayOf m c1.1 c1.2
    have b2 := hI.minuteOf m c1.1 c1.2
    have b3 := sBeg_b (P := A iM_peopleOf m) b2 (cA_b hI c1) 8 (by omega)
    have no : ∀ x : Option (Int32 × xm), x = some (j32 (-1), μ) → (∃ q2, x = some q2 ∧ q2.1 = j32 (-1) ∧ xStp μ R n q2.2) := fun x h => ⟨_, h, rfl, xStp.same hA hC hI⟩
    rcases hI.isSettled m c1.1 c1.2 with c2 | c2
    · by_cases c3 : A iM_dayOf m ≤ A iM 0
      · by_cases c4 : sAll (A iM_peopleOf m) (cA A m) 8 = true
        · rw [if_pos c4] at f4
          have g1 : fX4_length μ = some (j32 (A iM 37)) := by
            unfold fX4_length
            simp (disch := omega) only [Bool.false_eq_true, lits, jj, jc, jm, Int.cast_ofNat_Int, j_bi0, j_bi1, not_true, not_false_eq_true, if_true, if_false, xe, xok_some, Sum.elim_inl, Sum.elim_inr, Int.reduceEq, Int.reduceLT, Int.reduceLE, Int.reduceAdd, Int.reduceSub, Int.reduceMul, hC.notes]
          obtain ⟨r, r1, ν, r2, r3⟩ := set52L hL hC hI c1
          have kc : fX11_settle (j32 m) μ R = xsm r (fun q24 => xbd (fX2_close (oM m) q24) fun q26 => xbd (fX4_length q26) fun q27 => some (q27 - j32 (A iM 37), q26)) (fun q25 => some q25) := by
            unfold fX11_settle
            simp only [lits] at r1 ⊢
            rw [f1, xbd_e, xop_e1, f3, xbd_e, c2, if_pos rfl, j_rd, j_rd, if_neg (by rw [show gi μ iC (8 : Nat) = A iM 0 from d1, show gi μ (oM m) (0 : Nat) = A iM_dayOf m from d2, j_lt (by omega) (by omega)]; omega), f4, xbd_e, if_neg (by rw [show -j32 1 = j32 (-1) from rfl, j_eq (by omega) (by omega)]; omega), g1, xbd_e, r1, xbd_e]
          rcases r3 with ⟨rfl, q1, q2⟩ | ⟨rfl, q1, q2⟩
          · have ho := stX_ok hL.2.2 hI (m := m) 8 (p := 1) (Or.inr q1)
            obtain ⟨B, hB⟩ : ∃ B, stX 1 V A m 8 = B := ⟨_, rfl⟩
            rw [hB, if_neg (by decide)] at ho
            rw [hB] at q2
            obtain ⟨o1, o2, o3⟩ := ho
            have c1B : 0 ≤ m ∧ m < B iM 1 := by rw [o1.e.2.2.2.2.2.1]; exact c1
            have sB : B iM_isSettled m = 0 := by rw [o1.1 iM_isSettled (by decide) (by decide) (by decide) (by decide) (by decide) (by decide)]; exact c2
            have aB : sAll (B iM_peopleOf m) (cA B m) 8 = true := by rw [show cA B m = cA A m by unfold cA; rw [o1.e.2.2.2.1], o1.e.2.2.1]; exact c4
            have hC2 := close_CH q2 o2 c1B sB
            have hI2 := close_Inv o2 c1B aB
            have fr1 : frS μ ν := r2
            have k1 : LK μ (wr ν (oM m) 4 1) := fr1.lk.tr (LK.w_ (by have := oM_hi m; omega))
            have hA1 : RH A (wr ν (oM m) 4 1) := RH.keep (fr1.rh hA) (fun o h1 h2 => gi_wr_f (fun e => by have := oM_hi m; omega))
            obtain ⟨ρ1, t1, t2, t3⟩ := gs_ok (hL.keep k1 rfl) hA1 hI (p := 0) (Or.inl rfl) c1 (Or.inl rfl)
            rw [stX0] at t2
            obtain ⟨ρ2, u1, u2, u3⟩ := gs_ok (hL.keep (k1.tr t3.2) rfl) t2 hI (p := 1) (Or.inr rfl) c1 (Or.inr q1)
            rw [hB] at u2
            have hb3 := set3_b q2 o2
            have v3 : gi ρ2 iM 3 = B iM 3 := (RH.sc u2).2.2.2.1
            have v3' : gi (wr ρ2 iM_isSettled m 1) iM 3 = B iM 3 := by rw [gi_wr_o (by decide)]; exact v3
            have v37 : gi ρ1 iM 37 = A iM 37 := (RH.sc t2).2.2.2.2.2.2.1
            have hcx := ctX_b hL.2.2 hI (m := m) 8
            have hA3 : RH (clA B m) (wr (wr ρ2 iM_isSettled m 1) iM 3 (B iM 3 + 1)) := RH.f_3 (RH.w_isSettled u2 (by omega)) (by omega)
            have e5 := eX12_isMeeting hA1 hI hm
            have e6 := eX12_allCame hA1 hI c1
            have w1 : gi (wr ν (oM m) 4 1) iM 0 = A iM 0 := (RH.sc hA1).1
            have w4 : gi (wr ν (oM m) 4 1) iM_isSettled m = A iM_isSettled m := by rw [RH.at hA1 (by decide)]
            have w5 : gi (wr ν (oM m) 4 1) iM_dayOf m = A iM_dayOf m := by rw [RH.at hA1 (by decide)]
            refine ⟨(j32 (ctX V A m 8), wr ν (oM m) 4 1), ?_, (j32 (ctX V A m 8), wr (wr ρ2 iM_isSettled m 1) iM 3 (B iM 3 + 1)), ?_, rfl, ?_, clA B m, hA3, ?_, hI2⟩
            · rw [kc, xsm_e0]
              have e7 : fX2_close (oM m) ν = some (wr ν (oM m) 4 1) := rfl
              have e8 : fX4_length (wr ν (oM m) 4 1) = some (j32 (A iM 37 + ctX V A m 8)) := by
                have := hC2.notes
                rw [clA_s (by decide) (by decide), o3] at this
                unfold fX4_length
                simp (disch := omega) only [Bool.false_eq_true, lits, jj, jc, jm, Int.cast_ofNat_Int, j_bi0, j_bi1, not_true, not_false_eq_true, if_true, if_false, xe, xok_some, Sum.elim_inl, Sum.elim_inr, Int.reduceEq, Int.reduceLT, Int.reduceLE, Int.reduceAdd, Int.reduceSub, Int.reduceMul, this]
              rw [e7, xbd_e, e8, xbd_e, j_sub]
              congr 3; omega
            · unfold fX12_settle
              simp (disch := omega) only [Bool.false_eq_true, lits, jj, jc, jm, Int.cast_ofNat_Int, j_bi0, j_bi1, not_true, not_false_eq_true, if_true, if_false, xe, xok_some, Sum.elim_inl, Sum.elim_inr, Int.reduceEq, Int.reduceLT, Int.reduceLE, Int.reduceAdd, Int.reduceSub, Int.reduceMul, e5, eq_true c1, e6, eq_true c4, w4, c2, w5, w1, c3, t1, v37, q1, u1]
              rw [j_sZ (by omega) (Or.inr rfl), xbd_e]
              simp (disch := omega) only [Bool.false_eq_true, lits, jj, jc, jm, Int.cast_ofNat_Int, j_bi0, j_bi1, not_true, not_false_eq_true, if_true, if_false, xe, xok_some, Sum.elim_inl, Sum.elim_inr, Int.reduceEq, Int.reduceLT, Int.reduceLE, Int.reduceAdd, Int.reduceSub, Int.reduceMul, v3']
            · exact (((k1.tr t3.2).tr u3.2).tr (LK.w_ (by decide))).tr (LK.w_f (by omega))
            · refine hC2.ref (fun o ho => ?_)
              rw [gi_wr_f (by show o ≠ 61; omega), gi_wr_f (by show o ≠ 67; omega), u3.1 o ho, t3.1 o ho]
          · have k1 : LK μ ν := r2.lk
            have hA1 : RH A ν := r2.rh hA
            obtain ⟨ρ1, t1, t2, t3⟩ := gs_ok (hL.keep k1 rfl) hA1 hI (p := 0) (Or.inl rfl) c1 (Or.inl rfl)
            rw [stX0] at t2
            have v37 : gi ρ1 iM 37 = A iM 37 := (RH.sc t2).2.2.2.2.2.2.1
            have hcx := ctX_b hL.2.2 hI (m := m) 8
            have e5 := eX12_isMeeting hA1 hI hm
            have e6 := eX12_allCame hA1 hI c1
            have w1 : gi ν iM 0 = A iM 0 := (RH.sc hA1).1
            have w4 : gi ν iM_isSettled m = A iM_isSettled m := by rw [RH.at hA1 (by decide)]
            have w5 : gi ν iM_dayOf m = A iM_dayOf m := by rw [RH.at hA1 (by decide)]
            refine ⟨(j32 (-2), ν), ?_, (j32 (-2), ρ1), ?_, rfl, k1.tr t3.2, A, t2, q2.ref t3.1, hI⟩
            · rw [kc, xsm_e1]
            · unfold fX12_settle
              simp (disch := omega) only [Bool.false_eq_true, lits, jj, jc, jm, Int.cast_ofNat_Int, j_bi0, j_bi1, not_true, not_false_eq_true, if_true, if_false, xe, xok_some, Sum.elim_inl, Sum.elim_inr, Int.reduceEq, Int.reduceLT, Int.reduceLE, Int.reduceAdd, Int.reduceSub, Int.reduceMul, e5, eq_true c1, e6, eq_true c4, w4, c2, w5, w1, c3, t1, v37, show ¬ A iM 37 + ctX V A m 8 ≤ 60 by omega]
        · rw [if_neg c4] at f4
          refine ⟨(j32 (-1), μ), ?_, no _ ?_⟩
          · unfold fX11_settle
            simp (disch := omega) only [Bool.false_eq_true, lits, jj, jc, jm, Int.cast_ofNat_Int, j_bi0, j_bi1, not_true, not_false_eq_true, if_true, if_false, xe, xok_some, Sum.elim_inl, Sum.elim_inr, Int.reduceEq, Int.reduceLT, Int.reduceLE, Int.reduceAdd, Int.reduceSub, Int.reduceMul, f1, f3, c2, d1, d2, show ¬ A iM 0 < A iM_dayOf m by omega, f4]
          · unfold fX12_settle
            simp (disch := omega) only [Bool.false_eq_true, lits, jj, jc, jm, Int.cast_ofNat_Int, j_bi0, j_bi1, not_true, not_false_eq_true, if_true, if_false, xe, xok_some, Sum.elim_inl, Sum.elim_inr, Int.reduceEq, Int.reduceLT, Int.reduceLE, Int.reduceAdd, Int.reduceSub, Int.reduceMul, f2, eq_true c1, f5, eq_false c4]
      · refine ⟨(j32 (-1), μ), ?_, no _ ?_⟩
        · unfold fX11_settle
          simp (disch := omega) only [Bool.false_eq_true, lits, jj, jc, jm, Int.cast_ofNat_Int, j_bi0, j_bi1, not_true, not_false_eq_true, if_true, if_false, xe, xok_some, Sum.elim_inl, Sum.elim_inr, Int.reduceEq, Int.reduceLT, Int.reduceLE, Int.reduceAdd, Int.reduceSub, Int.reduceMul, f1, f3, c2, d1, d2, show A iM 0 < A iM_dayOf m by omega]
        · unfold fX12_settle
          by_cases c4 : sAll (A iM_peopleOf m) (cA A m) 8 = true
          · simp (disch := omega) only [Bool.false_eq_true, lits, jj, jc, jm, Int.cast_ofNat_Int, j_bi0, j_bi1, not_true, not_false_eq_true, if_true, if_false, xe, xok_some, Sum.elim_inl, Sum.elim_inr, Int.reduceEq, Int.reduceLT, Int.reduceLE, Int.reduceAdd, Int.reduceSub, Int.reduceMul, f2, eq_true c1, f5, eq_true c4, d4, c2, d5, d3, c3]
          · simp (disch := omega) only [Bool.false_eq_true, lits, jj, jc, jm, Int.cast_ofNat_Int, j_bi0, j_bi1, not_true, not_false_eq_true, if_true, if_false, xe, xok_some, Sum.elim_inl, Sum.elim_inr, Int.reduceEq, Int.reduceLT, Int.reduceLE, Int.reduceAdd, Int.reduceSub, Int.reduceMul, f2, eq_true c1, f5, eq_false c4]
    · refine ⟨(j32 (-1), μ), ?_, no _ ?_⟩
      · unfold fX11_settle
        simp (disch := omega) only [Bool.false_eq_true, lits, jj, jc, jm, Int.cast_ofNat_Int, j_bi0, j_bi1, not_true, not_false_eq_true, if_true, if_false, xe, xok_some, Sum.elim_inl, Sum.elim_inr, Int.reduceEq, Int.reduceLT, Int.reduceLE, Int.reduceAdd, Int.reduceSub, Int.reduceMul, f1, f3, c2]
      · unfold fX12_settle
        by_cases c4 : sAll (A iM_peopleOf m) (cA A m) 8 = true
        · simp (disch := omega) only [Bool.false_eq_true, lits, jj, jc, jm, Int.cast_ofNat_Int, j_bi0, j_bi1, not_true, not_false_eq_true, if_true, if_false, xe, xok_some, Sum.elim_inl, Sum.elim_inr, Int.reduceEq, Int.reduceLT, Int.reduceLE, Int.reduceAdd, Int.reduceSub, Int.reduceMul, f2, eq_true c1, f5, eq_true c4, d4, c2]
        · simp (disch := omega) only [Bool.false_eq_true, lits, jj, jc, jm, Int.cast_ofNat_Int, j_bi0, j_bi1, not_true, not_false_eq_true, if_true, if_false, xe, xok_some, Sum.elim_inl, Sum.elim_inr, Int.reduceEq, Int.reduceLT, Int.reduceLE, Int.reduceAdd, Int.reduceSub, Int.reduceMul, f2, eq_true c1, f5, eq_false c4]
  · rw [if_neg c1] at f1
    refine ⟨(j32 (-1), μ), ?_, (j32 (-1), μ), ?_, rfl, xStp.same hA hC hI⟩
    · unfold fX11_settle
      simp (disch := omega) only [Bool.false_eq_true, lits, jj, jc, jm, Int.cast_ofNat_Int, j_bi0, j_bi1, not_true, not_false_eq_true, if_true, if_false, xe, xok_some, Sum.elim_inl, Sum.elim_inr, Int.reduceEq, Int.reduceLT, Int.reduceLE, Int.reduceAdd, Int.reduceSub, Int.reduceMul, f1]
    · unfold fX12_settle
      simp (disch := omega) only [Bool.false_eq_true, lits, jj, jc, jm, Int.cast_ofNat_Int, j_bi0, j_bi1, not_true, not_false_eq_true, if_true, if_false, xe, xok_some, Sum.elim_inl, Sum.elim_inr, Int.reduceEq, Int.reduceLT, Int.reduceLE, Int.reduceAdd, Int.reduceSub, Int.reduceMul, f2, eq_false c1]
