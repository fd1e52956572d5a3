/-! came, meeting -/
theorem oM1_oM {m q : Int} : oM m + 1 ≠ oM q := by unfold oM; omega
theorem oM_neq {m q : Int} (h1 : 0 ≤ m) (h2 : 0 ≤ q) (h : m ≠ q) : oM m ≠ oM q := fun e => h (oM_inj h1 h2 e)
/-- a coming told, on both sides -/
theorem tell_CH {A : xAs} {μ : xm} {R : xr} {n : Nat} (hC : CH A μ R n) {m p v : Int} (hm : 0 ≤ m) (hp : 0 ≤ p ∧ p < 8) (hv : -1 ≤ v ∧ v ≤ 1439) : CH (up A iM_cameAt (8 * m + p) v) (wr μ (oM m + 1) p v) R n := by
  have u1 : up A iM_cameAt (8 * m + p) v iM 1 = A iM 1 := by simp (disch := first | omega | decide) only [up_z, up_n, up_o]
  refine hC.u_came (fun o h1 => gi_wr_f (fun e => by have := oM1_hi m; omega)) (fun o h1 => up_o h1) ?_ ?_ ?_ ?_ ?_
  · intro q h1 h2; rw [u1] at h2; rw [gi_wr_o (Ne.symm oM1_oM), up_o (by decide)]; exact hC.day q h1 h2
  · intro q h1 h2; rw [u1] at h2; rw [gi_wr_o (Ne.symm oM1_oM), up_o (by decide)]; exact hC.minute q h1 h2
  · intro q h1 h2; rw [u1] at h2; rw [gi_wr_o (Ne.symm oM1_oM), up_o (by decide)]; exact hC.people q h1 h2
  · intro q h1 h2; rw [u1] at h2; rw [gi_wr_o (Ne.symm oM1_oM), up_o (by decide)]; exact hC.settled q h1 h2
  · intro q r h1 h2 h3 h4; rw [u1] at h2
    by_cases e : q = m
    · subst e
      rw [gi_wr_if (by omega) (by omega), up_if (by omega)]
      by_cases e2 : r = p
      · rw [if_pos e2, if_pos (by omega)]
      · rw [if_neg e2, if_neg (by omega)]; exact hC.came q r h1 h2 h3 h4
    · rw [gi_wr_o (fun q2 => oM_neq h1 hm e (by omega)), up_n (by omega)]; exact hC.came q r h1 h2 h3 h4
theorem tell_Inv {A : xAs} (hI : Inv A) {m p v : Int} (h : isOf A m p) (hs : A iM_isSettled m = 0) (hv : 0 ≤ v ∧ v ≤ 1439) : Inv (up A iM_cameAt (8 * m + p) v) := by
  have u1 : up A iM_cameAt (8 * m + p) v iM 1 = A iM 1 := by simp (disch := first | omega | decide) only [up_z, up_n, up_o]
  obtain ⟨⟨hm1, hm2⟩, hp1, hp2, hb⟩ := h
  refine hI.u_came (fun o h1 => up_o h1) ?_ ?_
  · intro q r h1 h2 h3 h4; rw [u1] at h2
    rw [up_if (by omega), up_o (by decide)]
    by_cases e : 8 * q + r = 8 * m + p
    · rw [if_pos e]
      have e1 : q = m := by omega
      have e2 : r = p := by omega
      subst e1; subst e2
      exact ⟨by omega, by omega, fun q => absurd hb q⟩
    · rw [if_neg e]; exact hI.cameAt q r h1 h2 h3 h4
  · intro q r h1 h2 h3 h4; rw [u1] at h2
    rw [up_o (by decide)] at h3 h4
    have h5 := h4.1
    rw [up_if (by omega)]
    split
    · omega
    · exact hI.settledCame q r h1 h2 h3 h4
theorem eX2_tell {μ : xm} {o : Nat} {p v : Int} (hp : 0 ≤ p ∧ p < 8) : fX2_tell o (j32 p) (j32 v) μ = some (wr μ (o + 1) p v) := by
  unfold fX2_tell
  simp (disch := omega) only [Bool.false_eq_true, lits, jj, jc, jm, Int.cast_ofNat_Int, j_bi0, j_bi1, not_true, not_false_eq_true, if_true, if_false, xe, xok_some, Sum.elim_inl, Sum.elim_inr, Int.reduceEq, Int.reduceLT, Int.reduceLE, Int.reduceAdd, Int.reduceSub, Int.reduceMul, show ¬ p < 0 by omega, show ¬ 8 ≤ p by omega]
theorem s_came {A : xAs} {μ : xm} {R : xr} {n : Nat} (hA : RH A μ) (hC : CH A μ R n) (hI : Inv A) (a1 a2 a3 : Int32) : ∃ q, fX11_came a1 a2 a3 μ R = some q ∧ ∃ q2, fX12_came a1 a2 a3 q.2 = some q2 ∧ q2.1 = q.1 ∧ xStp μ R n q2.2 := by
  obtain ⟨m, rfl, hm⟩ := j32_ex a1
  obtain ⟨p, rfl, hp⟩ := j32_ex a2
  obtain ⟨v, rfl, hv⟩ := j32_ex a3
  have h1 := hI.mt
  unfold fX11_came fX12_came
  simp only [lits]
  rw [eX3_find hC hI hm, eX11_within hv (by omega) (by omega), eX12_in hv (by omega) (by omega)]
  by_cases c : 0 ≤ m ∧ m < A iM 1
  · rw [if_pos c]
    simp only [xe]
    rw [eC_isSettled hC hI c, eC_includes hC hI c hp]
    have hs := hI.isSettled m c.1 c.2
    by_cases c2 : A iM_isSettled m = 0
    · by_cases c1 : inc (A iM_peopleOf m) p
      · by_cases c3 : 0 ≤ v ∧ v ≤ 1439
        · have hp8 : 0 ≤ p ∧ p < 8 := ⟨c1.1, c1.2.1⟩
          have hA1 : RH A (wr μ (oM m + 1) p v) := RH.keep hA (fun o h1 h2 => gi_wr_f (fun e => by have := oM1_hi m; omega))
          refine ⟨(j32 1, wr μ (oM m + 1) p v), ?_, (j32 1, wr (wr μ (oM m + 1) p v) iM_cameAt (8 * m + p) v), ?_, rfl, ?_⟩
          · simp (disch := omega) only [Bool.false_eq_true, lits, jj, jc, jm, Int.cast_ofNat_Int, j_bi0, j_bi1, not_true, not_false_eq_true, if_true, if_false, xe, xok_some, Sum.elim_inl, Sum.elim_inr, Int.reduceEq, Int.reduceLT, Int.reduceLE, Int.reduceAdd, Int.reduceSub, Int.reduceMul, c2, eq_true c1, eq_true c3, eX2_tell hp8]
          · rw [eX12_isOf hA1 hI hm hp]
            simp (disch := omega) only [Bool.false_eq_true, lits, jj, jc, jm, Int.cast_ofNat_Int, j_bi0, j_bi1, not_true, not_false_eq_true, if_true, if_false, xe, xok_some, Sum.elim_inl, Sum.elim_inr, Int.reduceEq, Int.reduceLT, Int.reduceLE, Int.reduceAdd, Int.reduceSub, Int.reduceMul, eq_true (show isOf A m p from ⟨c, c1⟩), eq_true c3, hA1, c2]
          · refine ⟨LK.of (fun o ho => by rw [gi_wr_f (by show o ≠ 66; omega), gi_wr_f (fun e => by have := oM1_hi m; omega)]), up A iM_cameAt (8 * m + p) v, ?_, ?_, ?_⟩
            · exact RH.w_cameAt hA1 (by omega)
            · exact (tell_CH hC c.1 hp8 (by omega)).ref (fun o ho => gi_wr_f (by show o ≠ 66; omega))
            · exact tell_Inv hI ⟨c, c1⟩ c2 c3
        · refine ⟨(j32 0, μ), ?_, (j32 0, μ), ?_, rfl, xStp.same hA hC hI⟩
          · simp (disch := omega) only [Bool.false_eq_true, lits, jj, jc, jm, Int.cast_ofNat_Int, j_bi0, j_bi1, not_true, not_false_eq_true, if_true, if_false, xe, xok_some, Sum.elim_inl, Sum.elim_inr, Int.reduceEq, Int.reduceLT, Int.reduceLE, Int.reduceAdd, Int.reduceSub, Int.reduceMul, c2, eq_true c1, eq_false c3]
          · rw [eX12_isOf hA hI hm hp]; simp (disch := omega) only [Bool.false_eq_true, lits, jj, jc, jm, Int.cast_ofNat_Int, j_bi0, j_bi1, not_true, not_false_eq_true, if_true, if_false, xe, xok_some, Sum.elim_inl, Sum.elim_inr, Int.reduceEq, Int.reduceLT, Int.reduceLE, Int.reduceAdd, Int.reduceSub, Int.reduceMul, eq_true (show isOf A m p from ⟨c, c1⟩), eq_false c3]
      · refine ⟨(j32 0, μ), ?_, (j32 0, μ), ?_, rfl, xStp.same hA hC hI⟩
        · simp (disch := omega) only [Bool.false_eq_true, lits, jj, jc, jm, Int.cast_ofNat_Int, j_bi0, j_bi1, not_true, not_false_eq_true, if_true, if_false, xe, xok_some, Sum.elim_inl, Sum.elim_inr, Int.reduceEq, Int.reduceLT, Int.reduceLE, Int.reduceAdd, Int.reduceSub, Int.reduceMul, c2, eq_false c1]
        · rw [eX12_isOf hA hI hm hp]; simp (disch := omega) only [Bool.false_eq_true, lits, jj, jc, jm, Int.cast_ofNat_Int, j_bi0, j_bi1, not_true, not_false_eq_true, if_true, if_false, xe, xok_some, Sum.elim_inl, Sum.elim_inr, Int.reduceEq, Int.reduceLT, Int.reduceLE, Int.reduceAdd, Int.reduceSub, Int.reduceMul, eq_false (fun h : isOf A m p => c1 h.2)]
    · refine ⟨(j32 0, μ), ?_, (j32 0, μ), ?_, rfl, xStp.same hA hC hI⟩
      · simp (disch := omega) only [Bool.false_eq_true, lits, jj, jc, jm, Int.cast_ofNat_Int, j_bi0, j_bi1, not_true, not_false_eq_true, if_true, if_false, xe, xok_some, Sum.elim_inl, Sum.elim_inr, Int.reduceEq, Int.reduceLT, Int.reduceLE, Int.reduceAdd, Int.reduceSub, Int.reduceMul, c2]
      · rw [eX12_isOf hA hI hm hp]
        by_cases c1 : isOf A m p
        · by_cases c3 : 0 ≤ v ∧ v ≤ 1439
          · simp (disch := omega) only [Bool.false_eq_true, lits, jj, jc, jm, Int.cast_ofNat_Int, j_bi0, j_bi1, not_true, not_false_eq_true, if_true, if_false, xe, xok_some, Sum.elim_inl, Sum.elim_inr, Int.reduceEq, Int.reduceLT, Int.reduceLE, Int.reduceAdd, Int.reduceSub, Int.reduceMul, eq_true c1, eq_true c3, hA, c2]
          · simp (disch := omega) only [Bool.false_eq_true, lits, jj, jc, jm, Int.cast_ofNat_Int, j_bi0, j_bi1, not_true, not_false_eq_true, if_true, if_false, xe, xok_some, Sum.elim_inl, Sum.elim_inr, Int.reduceEq, Int.reduceLT, Int.reduceLE, Int.reduceAdd, Int.reduceSub, Int.reduceMul, eq_true c1, eq_false c3]
        · simp (disch := omega) only [Bool.false_eq_true, lits, jj, jc, jm, Int.cast_ofNat_Int, j_bi0, j_bi1, not_true, not_false_eq_true, if_true, if_false, xe, xok_some, Sum.elim_inl, Sum.elim_inr, Int.reduceEq, Int.reduceLT, Int.reduceLE, Int.reduceAdd, Int.reduceSub, Int.reduceMul, eq_false c1]
  · rw [if_neg c]
    refine ⟨(j32 0, μ), ?_, (j32 0, μ), ?_, rfl, xStp.same hA hC hI⟩
    · simp (disch := omega) only [Bool.false_eq_true, lits, jj, jc, jm, Int.cast_ofNat_Int, j_bi0, j_bi1, not_true, not_false_eq_true, if_true, if_false, xe, xok_some, Sum.elim_inl, Sum.elim_inr, Int.reduceEq, Int.reduceLT, Int.reduceLE, Int.reduceAdd, Int.reduceSub, Int.reduceMul]
    · rw [eX12_isOf hA hI hm hp]; simp (disch := omega) only [Bool.false_eq_true, lits, jj, jc, jm, Int.cast_ofNat_Int, j_bi0, j_bi1, not_true, not_false_eq_true, if_true, if_false, xe, xok_some, Sum.elim_inl, Sum.elim_inr, Int.reduceEq, Int.reduceLT, Int.reduceLE, Int.reduceAdd, Int.reduceSub, Int.reduceMul, eq_false (fun h : isOf A m p => c h.1)]
/-- how many of a set -/
def pcN (p : Nat) : Nat := p % 2 + p / 2 % 2 + p / 4 % 2 + p / 8 % 2 + p / 16 % 2 + p / 32 % 2 + p / 64 % 2 + p / 128 % 2
def pc (P : Int) : Int := pcN P.toNat
theorem pc_tabC : ∀ p, p < 256 → fJ6_bitCount_0f7a4 (Int32.ofNat p) = some (Int32.ofNat (pcN p)) := by decide +kernel
theorem pc_tabM : ∀ p, p < 256 → fX12_bits (Int32.ofNat p) = some (Int32.ofNat (pcN p)) := by decide +kernel
theorem pcN_b (p : Nat) : pcN p ≤ 8 := by unfold pcN; omega
theorem pc_b (P : Int) : 0 ≤ pc P ∧ pc P ≤ 8 := by have := pcN_b P.toNat; unfold pc; omega
theorem eJ6_bitCount {P : Int} (h : 0 ≤ P ∧ P < 256) : fJ6_bitCount_0f7a4 (j32 P) = some (j32 (pc P)) := by
  obtain ⟨p, rfl⟩ := Int.eq_ofNat_of_zero_le h.1
  have := pc_tabC p (by omega)
  unfold j32 pc
  rw [Int32.ofInt_eq_ofNat, this, Int32.ofInt_eq_ofNat]; rfl
theorem eX12_bits {P : Int} (h : 0 ≤ P ∧ P < 256) : fX12_bits (j32 P) = some (j32 (pc P)) := by
  obtain ⟨p, rfl⟩ := Int.eq_ofNat_of_zero_le h.1
  have := pc_tabM p (by omega)
  unfold j32 pc
  rw [Int32.ofInt_eq_ofNat, this, Int32.ofInt_eq_ofNat]; rfl
