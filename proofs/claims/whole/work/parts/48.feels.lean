/-! feels -/
theorem eX12_later {A : xAs} {μ : xm} (hA : RH A μ) (hI : Inv A) {m x : Int} (hm : 0 ≤ m ∧ m < A iM 1) (hx : 0 ≤ x ∧ x < 8) : xloop xfu (fun v => fX12_feels_b6 v.1 v.2 (j32 m) (j32 x) μ) (j32 0, j32 0) = some (j32 (sumTo (sLater A m x) 8)) := by
  have b1 := cA_r hI hm hx.1 hx.2
  have hmt := hI.mt
  refine xloop_for (fun k => (j32 (sumTo (sLater A m x) k), j32 k)) 8 (by omega) rfl ?_ ?_
  · intro k hk
    show fX12_feels_b6 _ _ (j32 m) (j32 x) μ = _
    have e2 := eX12_isOf hA hI (m := m) (p := (k : Int)) (by omega) (by omega)
    have b2 := cA_r hI hm (p := (k : Int)) (by omega) (by omega)
    have b3 := sLater_b (A := A) (m := m) (x := x) (k := k)
    unfold fX12_feels_b6
    by_cases c : inc (A iM_peopleOf m) k
    · by_cases d : A iM_cameAt (8 * m + k) ≤ A iM_cameAt (8 * m + x)
      · simp (disch := omega) only [Bool.false_eq_true, lits, jj, jc, jm, Int.cast_ofNat_Int, j_bi0, j_bi1, not_true, not_false_eq_true, if_true, if_false, xe, xok_some, Sum.elim_inl, Sum.elim_inr, Int.reduceEq, Int.reduceLT, Int.reduceLE, Int.reduceAdd, Int.reduceSub, Int.reduceMul, show ¬ (8 : Int) ≤ k by omega, e2, eq_true (show isOf A m k from ⟨hm, c⟩), hA, d]
        rw [sumTo_s, show sLater A m x k = 0 from if_neg (fun h => by have := h.2; omega)]; rfl
      · simp (disch := omega) only [Bool.false_eq_true, lits, jj, jc, jm, Int.cast_ofNat_Int, j_bi0, j_bi1, not_true, not_false_eq_true, if_true, if_false, xe, xok_some, Sum.elim_inl, Sum.elim_inr, Int.reduceEq, Int.reduceLT, Int.reduceLE, Int.reduceAdd, Int.reduceSub, Int.reduceMul, show ¬ (8 : Int) ≤ k by omega, e2, eq_true (show isOf A m k from ⟨hm, c⟩), hA, d]
        rw [sumTo_s, show sLater A m x k = 1 from if_pos ⟨c, by omega⟩]; rfl
    · simp (disch := omega) only [Bool.false_eq_true, lits, jj, jc, jm, Int.cast_ofNat_Int, j_bi0, j_bi1, not_true, not_false_eq_true, if_true, if_false, xe, xok_some, Sum.elim_inl, Sum.elim_inr, Int.reduceEq, Int.reduceLT, Int.reduceLE, Int.reduceAdd, Int.reduceSub, Int.reduceMul, show ¬ (8 : Int) ≤ k by omega, e2, eq_false (show ¬ isOf A m k from fun h => c h.2)]
      rw [sumTo_s, show sLater A m x k = 0 from if_neg (fun h => c h.1)]; rfl
  · show fX12_feels_b6 _ _ (j32 m) (j32 x) μ = _
    unfold fX12_feels_b6
    simp (disch := omega) only [Bool.false_eq_true, lits, jj, jc, jm, Int.cast_ofNat_Int, j_bi0, j_bi1, not_true, not_false_eq_true, if_true, if_false, xe, xok_some, Sum.elim_inl, Sum.elim_inr, Int.reduceEq, Int.reduceLT, Int.reduceLE, Int.reduceAdd, Int.reduceSub, Int.reduceMul, Int.le_refl]
theorem feels_ok {A : xAs} {μ : xm} (hA : RH A μ) (hI : Inv A) {m x y : Int} (h : isCase A m x y) : fX12_feels (j32 m) (j32 x) (j32 y) μ = some (putR μ (fF A m x y)) ∧ RH A (putR μ (fF A m x y)) := by
  have hm := h.1
  have hx : 0 ≤ x ∧ x < 8 := ⟨h.2.1.1, h.2.1.2.1⟩
  have hy : 0 ≤ y ∧ y < 8 := ⟨h.2.2.1.1, h.2.2.1.2.1⟩
  have hM := hI.minuteOf m hm.1 hm.2
  have hmt := hI.mt
  have h3 := sBeg_b (P := A iM_peopleOf m) (M := A iM_minuteOf m) hM (cA_b hI hm) 8 (by omega)
  have st : ∀ {ν : xm} (z v : Int), RH A ν → RH A (wr ν iM_facts z v) := fun z v hA => RH.wo hA rfl (by decide)
  have w : ∀ {ν : xm} {z v : Int}, 0 ≤ z ∧ z < 12 → xsI ν iM_facts 12 (j32 z) (j32 v) = some (wr ν iM_facts z v) := fun hz => j_sI (by omega)
  unfold fX12_feels
  simp only [lits]
  rw [eX12_later hA hI hm hx, xbd_e, eX12_keepsAt hA hI hm hx hy, xbd_e]
  unfold putR
  obtain ⟨F, hF⟩ : ∃ F, fF A m x y = F := ⟨_, rfl⟩
  have f0 : sWait (cA A m) (A iM_minuteOf m) x y = F 0 := by rw [← hF]; rfl
  have f1 : sLate (cA A m) (A iM_minuteOf m) x = F 1 := by rw [← hF]; rfl
  have f2 : sLate (cA A m) (A iM_minuteOf m) y = F 2 := by rw [← hF]; rfl
  have f3 : pc (A iM_peopleOf m) = F 3 := by rw [← hF]; rfl
  have f4 : sBeg (A iM_peopleOf m) (cA A m) (A iM_minuteOf m) 8 - A iM_minuteOf m = F 4 := by rw [← hF]; rfl
  have f5 : (if sBy A m x = -1 then (0 : Int) else 1) = F 5 := by rw [← hF]; rfl
  have f6 : sumTo (sLater A m x) 8 = F 6 := by rw [← hF]; rfl
  have f7 : A iM_minuteOf m / 60 = F 7 := by rw [← hF]; rfl
  have f8 : A iM_dayOf m = F 8 := by rw [← hF]; rfl
  have f9 : x = F 9 := by rw [← hF]; rfl
  have f10 : y = F 10 := by rw [← hF]; rfl
  have f11 : A iM_worthOf (24 * y + A iM_minuteOf m / 60) = F 11 := by rw [← hF]; rfl
  rw [hF]
  rw [f0, w (by omega), xbd_e]
  have hA1 := st 0 (F 0) hA
  rw [eX12_lateAt hA1 hI hm hx, xbd_e, f1, w (by omega), xbd_e]
  have hA2 := st 1 (F 1) hA1
  rw [eX12_lateAt hA2 hI hm hy, xbd_e, f2, w (by omega), xbd_e]
  have hA3 := st 2 (F 2) hA2
  rw [j_gI (by omega), xbd_e, RH.at hA3 rfl, eX12_bits (hI.peopleOf m hm.1 hm.2), xbd_e, f3, w (by omega), xbd_e]
  have hA4 := st 3 (F 3) hA3
  rw [eX12_beginsAt hA4 hI hm, xbd_e, j_gI (by omega), xbd_e, RH.at hA4 rfl, j_sub, f4, w (by omega), xbd_e]
  have hA5 := st 4 (F 4) hA4
  rw [eX12_keptBy hA5 hI hm hx, xbd_e]
  have hb := (sBy_b hI (m := m) (x := x)).1
  have j155 : ∀ ν, RH A ν → ∀ k : Int, F 5 = k → fX12_feels_j155 (j32 k) (j32 m) (j32 x) (j32 y) (j32 (sumTo (sLater A m x) 8)) ν = some (wr (wr (wr (wr (wr (wr (wr ν iM_facts 5 (F 5)) iM_facts 6 (F 6)) iM_facts 7 (F 7)) iM_facts 8 (F 8)) iM_facts 9 (F 9)) iM_facts 10 (F 10)) iM_facts 11 (F 11)) ∧ RH A (wr (wr (wr (wr (wr (wr (wr ν iM_facts 5 (F 5)) iM_facts 6 (F 6)) iM_facts 7 (F 7)) iM_facts 8 (F 8)) iM_facts 9 (F 9)) iM_facts 10 (F 10)) iM_facts 11 (F 11)) := by
    intro ν hA5 k hk
    unfold fX12_feels_j155
    simp only [lits]
    rw [← hk, w (by omega), xbd_e, f6, w (by omega), xbd_e]
    have hA6 := st 5 (F 5) hA5
    have hA7 := st 6 (F 6) hA6
    rw [j_gI (by omega), xbd_e, RH.at hA7 rfl, j_div (by omega) (by omega), Int.tdiv_eq_ediv_of_nonneg hM.1, f7, w (by omega), xbd_e]
    have hA8 := st 7 (F 7) hA7
    rw [j_gI (by omega), xbd_e, RH.at hA8 rfl, f8, w (by omega), xbd_e]
    have hA9 := st 8 (F 8) hA8
    rw [show ∀ ν, xsI ν iM_facts 12 (j32 9) (j32 x) = xsI ν iM_facts 12 (j32 9) (j32 (F 9)) from fun ν => by rw [← f9], w (by omega), xbd_e]
    have hA10 := st 9 (F 9) hA9
    rw [show ∀ ν, xsI ν iM_facts 12 (j32 10) (j32 y) = xsI ν iM_facts 12 (j32 10) (j32 (F 10)) from fun ν => by rw [← f10], w (by omega), xbd_e]
    have hA11 := st 10 (F 10) hA10
    rw [j_gI (by omega), xbd_e, RH.at hA11 rfl, j_div (by omega) (by omega), Int.tdiv_eq_ediv_of_nonneg hM.1, j_mul, j_add, j_gI (by omega), xbd_e, RH.at hA11 rfl, f11, w (by omega), xbd_e]
    exact ⟨rfl, st 11 (F 11) hA11⟩
  by_cases c : sBy A m x = -1
  · rw [if_pos c] at f5
    rw [if_pos (by rw [c]; rfl)]
    exact j155 _ hA5 0 f5.symm
  · rw [if_neg c] at f5
    rw [if_neg (by rw [show -j32 1 = j32 (-1) from rfl, j_eq (by omega) (by omega)]; exact c)]
    exact j155 _ hA5 1 f5.symm
