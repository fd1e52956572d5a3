/-! gather, feels -/
theorem eX3_putFact {μ : xm} {c v : Int} (h : 97 ≤ c ∧ c ≤ 122) : fX3_putFact (j32 c) (j32 v) μ = some (wr μ iC_meetings_facts (c - 97) v) := by
  unfold fX3_putFact
  simp (disch := omega) only [Bool.false_eq_true, lits, jj, jc, jm, Int.cast_ofNat_Int, j_bi0, j_bi1, not_true, not_false_eq_true, if_true, if_false, xe, xok_some, Sum.elim_inl, Sum.elim_inr, Int.reduceEq, Int.reduceLT, Int.reduceLE, Int.reduceAdd, Int.reduceSub, Int.reduceMul, show ¬ c - 97 < 0 by omega, show ¬ 26 ≤ c - 97 by omega]
theorem eC_hour {A : xAs} {μ : xm} {R : xr} {n : Nat} (hC : CH A μ R n) (hI : Inv A) {m : Int} (hm : 0 ≤ m ∧ m < A iM 1) : fX2_hour (oM m) μ = some (j32 (A iM_minuteOf m / 60)) := by
  have h1 := hI.minuteOf m hm.1 hm.2
  unfold fX2_hour
  simp only [lits, jj, Int.cast_ofNat_Int, hC.minute m hm.1 hm.2]
  rw [j_div (by omega) (by omega), Int.tdiv_eq_ediv_of_nonneg h1.1]
theorem eC_many {A : xAs} {μ : xm} {R : xr} {n : Nat} (hC : CH A μ R n) (hI : Inv A) {m : Int} (hm : 0 ≤ m ∧ m < A iM 1) : fX2_many (oM m) μ = some (j32 (pc (A iM_peopleOf m))) := by
  unfold fX2_many
  simp only [jj, Int.cast_ofNat_Int, hC.people m hm.1 hm.2]
  rw [eJ6_bitCount (hI.peopleOf m hm.1 hm.2)]
  rfl
theorem eC_laterThan {A : xAs} {μ : xm} {R : xr} {n : Nat} (hC : CH A μ R n) (hI : Inv A) {m x : Int} (hm : 0 ≤ m ∧ m < A iM 1) (hx : 0 ≤ x ∧ x < 8) : fX2_laterThan (oM m) (j32 x) μ = some (j32 (sumTo (sLater A m x) 8)) := by
  have e1 := eC_comingOf hC hI hm (p := x) (by omega)
  rw [if_pos hx] at e1
  have b1 := cA_r hI hm hx.1 hx.2
  unfold fX2_laterThan
  rw [e1, xbd_e]
  have key := xloop_for (b := fun v => fX2_laterThan_b11 v.1 v.2 (oM m) μ (j32 (A iM_cameAt (8 * m + x)))) (fun k => (j32 (sumTo (sLater A m x) k), j32 k)) 8 (r := j32 (sumTo (sLater A m x) 8)) (a := (0, 0)) (by omega) rfl ?_ ?_
  · rw [key]; rfl
  · intro k hk
    show fX2_laterThan_b11 _ _ (oM m) μ _ = _
    have e2 := eC_includes hC hI hm (p := (k : Int)) (by omega)
    have e3 := hC.came m k hm.1 hm.2 (by omega) (by omega)
    have b2 := cA_r hI hm (p := (k : Int)) (by omega) (by omega)
    have b3 := sLater_b (A := A) (m := m) (x := x) (k := k)
    unfold fX2_laterThan_b11
    by_cases c : inc (A iM_peopleOf m) k
    · by_cases d : A iM_cameAt (8 * m + k) ≤ A iM_cameAt (8 * m + x)
      · simp (disch := omega) only [Bool.false_eq_true, lits, jj, jc, jm, Int.cast_ofNat_Int, j_bi0, j_bi1, not_true, not_false_eq_true, if_true, if_false, xe, xok_some, Sum.elim_inl, Sum.elim_inr, Int.reduceEq, Int.reduceLT, Int.reduceLE, Int.reduceAdd, Int.reduceSub, Int.reduceMul, show ¬ (8 : Int) ≤ k by omega, e2, eq_true c, e3, d]
        rw [sumTo_s, show sLater A m x k = 0 from if_neg (fun h => by have := h.2; omega), Int.add_zero]; rfl
      · simp (disch := omega) only [Bool.false_eq_true, lits, jj, jc, jm, Int.cast_ofNat_Int, j_bi0, j_bi1, not_true, not_false_eq_true, if_true, if_false, xe, xok_some, Sum.elim_inl, Sum.elim_inr, Int.reduceEq, Int.reduceLT, Int.reduceLE, Int.reduceAdd, Int.reduceSub, Int.reduceMul, show ¬ (8 : Int) ≤ k by omega, e2, eq_true c, e3, d]
        rw [sumTo_s, show sLater A m x k = 1 from if_pos ⟨c, by omega⟩]; rfl
    · simp (disch := omega) only [Bool.false_eq_true, lits, jj, jc, jm, Int.cast_ofNat_Int, j_bi0, j_bi1, not_true, not_false_eq_true, if_true, if_false, xe, xok_some, Sum.elim_inl, Sum.elim_inr, Int.reduceEq, Int.reduceLT, Int.reduceLE, Int.reduceAdd, Int.reduceSub, Int.reduceMul, show ¬ (8 : Int) ≤ k by omega, e2, eq_false c]
      rw [sumTo_s, show sLater A m x k = 0 from if_neg (fun h => c h.1), Int.add_zero]; rfl
  · show fX2_laterThan_b11 _ _ (oM m) μ _ = _
    unfold fX2_laterThan_b11
    simp (disch := omega) only [Bool.false_eq_true, lits, jj, jc, jm, Int.cast_ofNat_Int, j_bi0, j_bi1, not_true, not_false_eq_true, if_true, if_false, xe, xok_some, Sum.elim_inl, Sum.elim_inr, Int.reduceEq, Int.reduceLT, Int.reduceLE, Int.reduceAdd, Int.reduceSub, Int.reduceMul, Int.le_refl]
theorem gather_ok {A : xAs} {μ : xm} {R : xr} {n : Nat} (hC : CH A μ R n) (hI : Inv A) {m x y : Int} (h : isCase A m x y) : fX3_gather (j32 m) (j32 x) (j32 y) μ R = some (some iC_meetings_facts, putC μ (fF A m x y)) ∧ CH A (putC μ (fF A m x y)) R n := by
  have hm := h.1
  have hx : 0 ≤ x ∧ x < 8 := ⟨h.2.1.1, h.2.1.2.1⟩
  have hy : 0 ≤ y ∧ y < 8 := ⟨h.2.2.1.1, h.2.2.1.2.1⟩
  have hM := hI.minuteOf m hm.1 hm.2
  have h3 := sBeg_b (P := A iM_peopleOf m) (M := A iM_minuteOf m) hM (cA_b hI hm) 8 (by omega)
  have hf := eX3_find hC hI (m := m) (by have := hI.mt; omega)
  rw [if_pos hm] at hf
  have st : ∀ {ν : xm} (z v : Int), CH A ν R n → CH A (wr ν iC_meetings_facts z v) R n := fun z v hC => hC.scr_w rfl (by decide) (by decide)
  unfold fX3_gather
  rw [hf, xbd_e, xop_e1, eC_waitFor hC hI hm hx hy, xbd_e]
  unfold putC
  obtain ⟨F, hF⟩ : ∃ F, fF A m x y = F := ⟨_, rfl⟩
  have f0 : sWait (cA A m) (A iM_minuteOf m) x y = F 0 := by rw [← hF]; rfl
  have f1 : sLate (cA A m) (A iM_minuteOf m) x = F 1 := by rw [← hF]; rfl
  have f2 : sLate (cA A m) (A iM_minuteOf m) y = F 2 := by rw [← hF]; rfl
  have f3 : pc (A iM_peopleOf m) = F 3 := by rw [← hF]; rfl
  have f4 : sBeg (A iM_peopleOf m) (cA A m) (A iM_minuteOf m) 8 - A iM_minuteOf m = F 4 := by rw [← hF]; rfl
  have f5 : (if sBy A m x = -1 then (0 : Int) else 1) = F 5 := by rw [← hF]; rfl
  have f6 : sumTo (sLater A m x) 8 = F 6 := by rw [← hF]; rfl
  have f7 : A iM_minuteOf m / 60 = F 7 := by rw [← hF]; rfl
  have f8 : A iM_dayOf m = F 8 := by rw [← hF]; rfl
  have f9 : x = F 9 := by rw [← hF]; rfl
  have f10 : y = F 10 := by rw [← hF]; rfl
  have f11 : A iM_worthOf (24 * y + A iM_minuteOf m / 60) = F 11 := by rw [← hF]; rfl
  rw [hF]
  simp only [lits]
  rw [f0, eX3_putFact (by omega), xbd_e]
  have hC1 := st (119 - 97) (F 0) hC
  rw [eC_lateness hC1 hI hm hx, xbd_e, f1, eX3_putFact (by omega), xbd_e]
  have hC2 := st (97 - 97) (F 1) hC1
  rw [eC_lateness hC2 hI hm hy, xbd_e, f2, eX3_putFact (by omega), xbd_e]
  have hC3 := st (98 - 97) (F 2) hC2
  rw [eC_many hC3 hI hm, xbd_e, f3, eX3_putFact (by omega), xbd_e]
  have hC4 := st (110 - 97) (F 3) hC3
  have es := eC_start hC4 hI hm
  rw [if_pos h.2.2.2.2] at es
  rw [es, xbd_e]
  simp only [jj, Int.cast_ofNat_Int]
  rw [hC4.minute m hm.1 hm.2, f4, eX3_putFact (by omega), xbd_e]
  have hC5 := st (103 - 97) (F 4) hC4
  rw [eX3_keptBy hC5 hI hm hx, xbd_e]
  have hb := (sBy_b hI (m := m) (x := x)).1
  have hmt := hI.mt
  have j100 : ∀ ν, CH A ν R n → ∀ k : Int, F 5 = k → fX3_gather_j100 (j32 k) (j32 x) (j32 y) (oM m) ν = some (some iC_meetings_facts, wr (wr (wr (wr (wr (wr (wr ν iC_meetings_facts (107 - 97) (F 5)) iC_meetings_facts (114 - 97) (F 6)) iC_meetings_facts (104 - 97) (F 7)) iC_meetings_facts (100 - 97) (F 8)) iC_meetings_facts (120 - 97) (F 9)) iC_meetings_facts (121 - 97) (F 10)) iC_meetings_facts (118 - 97) (F 11)) ∧ CH A (wr (wr (wr (wr (wr (wr (wr ν iC_meetings_facts (107 - 97) (F 5)) iC_meetings_facts (114 - 97) (F 6)) iC_meetings_facts (104 - 97) (F 7)) iC_meetings_facts (100 - 97) (F 8)) iC_meetings_facts (120 - 97) (F 9)) iC_meetings_facts (121 - 97) (F 10)) iC_meetings_facts (118 - 97) (F 11)) R n := by
    intro ν hC5 k hk
    unfold fX3_gather_j100
    simp only [lits]
    rw [← hk, eX3_putFact (by omega), xbd_e]
    have hC6 := st (107 - 97) (F 5) hC5
    rw [eC_laterThan hC6 hI hm hx, xbd_e, f6, eX3_putFact (by omega), xbd_e]
    have hC7 := st (114 - 97) (F 6) hC6
    rw [eC_hour hC7 hI hm, xbd_e, f7, eX3_putFact (by omega), xbd_e]
    have hC8 := st (104 - 97) (F 7) hC7
    simp only [jj, Int.cast_ofNat_Int]
    rw [hC8.day m hm.1 hm.2, f8, eX3_putFact (by omega), xbd_e]
    have hC9 := st (100 - 97) (F 8) hC8
    rw [show fX3_putFact (j32 120) (j32 x) = fX3_putFact (j32 120) (j32 (F 9)) from by rw [← f9], eX3_putFact (by omega), xbd_e]
    have hC10 := st (120 - 97) (F 9) hC9
    rw [show ∀ ν, fX3_putFact (j32 121) (j32 y) ν = fX3_putFact (j32 121) (j32 (F 10)) ν from fun ν => by rw [← f10], eX3_putFact (by omega), xbd_e]
    have hC11 := st (121 - 97) (F 10) hC10
    rw [eC_hour hC11 hI hm, xbd_e, eX5_worthAt hC11 hy (by omega), xbd_e, f11, eX3_putFact (by omega), xbd_e]
    exact ⟨rfl, st (118 - 97) (F 11) hC11⟩
  by_cases c : sBy A m x = -1
  · rw [if_pos c] at f5
    rw [if_pos (by rw [c])]
    exact j100 _ hC5 0 f5.symm
  · rw [if_neg c] at f5
    rw [if_neg (by rw [j_eq (by omega) (by omega)]; exact c)]
    exact j100 _ hC5 1 f5.symm
