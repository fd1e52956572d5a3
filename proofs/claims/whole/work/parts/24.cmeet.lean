/-! The class's meetings -/
theorem eX3_find {A : xAs} {μ : xm} {R : xr} {n : Nat} (hC : CH A μ R n) (hI : Inv A) {m : Int} (hm : -2147483648 ≤ m ∧ m < 2147483648) : fX3_find (j32 m) μ R = some (if 0 ≤ m ∧ m < A iM 1 then some (oM m) else none) := by
  have h1 := hI.mt
  have h2 := hC.mt
  unfold fX3_find
  by_cases c1 : m < 0
  · simp (disch := omega) only [lits, jj, jc, jm, Int.cast_ofNat_Int, j_bi0, j_bi1, not_true, not_false_eq_true, if_true, if_false, xe, xok_some, Sum.elim_inl, Sum.elim_inr, c1, show ¬ (0 ≤ m ∧ m < A iM 1) by omega]
  by_cases c2 : A iM 1 ≤ m
  · simp (disch := omega) only [lits, jj, jc, jm, Int.cast_ofNat_Int, j_bi0, j_bi1, not_true, not_false_eq_true, if_true, if_false, xe, xok_some, Sum.elim_inl, Sum.elim_inr, c1, h2, c2, show ¬ (0 ≤ m ∧ m < A iM 1) by omega]
  have h3 := hC.list m (by omega) (by omega)
  simp (disch := omega) only [lits, jj, jc, jm, Int.cast_ofNat_Int, j_bi0, j_bi1, not_true, not_false_eq_true, if_true, if_false, xe, xok_some, Sum.elim_inl, Sum.elim_inr, c1, h2, c2, show ¬ 24 ≤ m by omega, j_gR, h3, show (0 ≤ m ∧ m < A iM 1) by omega, and_self]
theorem mc_P {A : xAs} {μ : xm} {R : xr} {n : Nat} (hC : CH A μ R n) (hI : Inv A) {m : Int} (hm : 0 ≤ m ∧ m < A iM 1) : 0 ≤ gi μ (oM m) 2 ∧ gi μ (oM m) 2 < 256 := by
  rw [hC.people m hm.1 hm.2]; exact hI.peopleOf m hm.1 hm.2
theorem mc_M {A : xAs} {μ : xm} {R : xr} {n : Nat} (hC : CH A μ R n) (hI : Inv A) {m : Int} (hm : 0 ≤ m ∧ m < A iM 1) : 0 ≤ gi μ (oM m) 1 ∧ gi μ (oM m) 1 ≤ 1439 := by
  rw [hC.minute m hm.1 hm.2]; exact hI.minuteOf m hm.1 hm.2
theorem mc_c {A : xAs} {μ : xm} {R : xr} {n : Nat} (hC : CH A μ R n) (hI : Inv A) {m : Int} (hm : 0 ≤ m ∧ m < A iM 1) : ∀ p, 0 ≤ p → p < 8 → -1 ≤ gi μ (oM m + 1) p ∧ gi μ (oM m + 1) p ≤ 1439 := by
  intro p h1 h2
  rw [hC.came m p hm.1 hm.2 h1 h2]; exact cA_r hI hm h1 h2
theorem mc_e {A : xAs} {μ : xm} {R : xr} {n : Nat} (hC : CH A μ R n) {m : Int} (hm : 0 ≤ m ∧ m < A iM 1) : ∀ p : Int, 0 ≤ p → p < ((8 : Nat) : Int) → gi μ (oM m + 1) p = cA A m p := fun p h1 h2 => hC.came m p hm.1 hm.2 h1 h2
theorem eC_includes {A : xAs} {μ : xm} {R : xr} {n : Nat} (hC : CH A μ R n) (hI : Inv A) {m p : Int} (hm : 0 ≤ m ∧ m < A iM 1) (hp : -2147483648 ≤ p ∧ p < 2147483648) : fX2_includes (oM m) (j32 p) μ = some (j32 (bi (inc (A iM_peopleOf m) p))) := by
  rw [eX2_includes (mc_P hC hI hm) hp, hC.people m hm.1 hm.2]
theorem eC_start {A : xAs} {μ : xm} {R : xr} {n : Nat} (hC : CH A μ R n) (hI : Inv A) {m : Int} (hm : 0 ≤ m ∧ m < A iM 1) : fX2_start (oM m) μ = some (j32 (if sAll (A iM_peopleOf m) (cA A m) 8 = true then sBeg (A iM_peopleOf m) (cA A m) (A iM_minuteOf m) 8 else -1)) := by
  rw [eX2_start (mc_P hC hI hm) (mc_M hC hI hm) (mc_c hC hI hm), hC.people m hm.1 hm.2, hC.minute m hm.1 hm.2, sAll_c (mc_e hC hm), sBeg_c (mc_e hC hm)]
/-- the coming, none for those that are not of it -/
theorem eC_comingOf {A : xAs} {μ : xm} {R : xr} {n : Nat} (hC : CH A μ R n) (hI : Inv A) {m p : Int} (hm : 0 ≤ m ∧ m < A iM 1) (hp : -2147483648 ≤ p ∧ p < 2147483648) : fX2_comingOf (oM m) (j32 p) μ = some (j32 (if 0 ≤ p ∧ p < 8 then A iM_cameAt (8 * m + p) else -1)) := by
  rw [eX2_comingOf (mc_P hC hI hm) hp, hC.people m hm.1 hm.2]
  by_cases c : 0 ≤ p ∧ p < 8
  · rw [if_pos c, hC.came m p hm.1 hm.2 c.1 c.2]
    by_cases c2 : bitI (A iM_peopleOf m) p = 1
    · rw [if_pos ⟨c.1, c.2, c2⟩]
    · rw [if_neg (fun h => c2 h.2.2), (hI.cameAt m p hm.1 hm.2 c.1 c.2).2.2 c2]
  · rw [if_neg c, if_neg (fun h => c ⟨h.1, h.2.1⟩)]
theorem eC_keeper {A : xAs} {μ : xm} {R : xr} {n : Nat} (hC : CH A μ R n) (hI : Inv A) {m : Int} (hm : 0 ≤ m ∧ m < A iM 1) (ha : sAll (A iM_peopleOf m) (cA A m) 8 = true) : fX2_keeper (oM m) μ = some (j32 (sKeep (A iM_peopleOf m) (cA A m) 8)) := by
  rw [eX2_keeper (mc_P hC hI hm) ?_, hC.people m hm.1 hm.2, sKeep_c (Nat.le_refl _) (mc_e hC hm)]
  intro p h1 h2 h3
  rw [hC.people m hm.1 hm.2] at h3
  have h4 := sAll_iff.mp ha p h1 (by omega) h3
  have h5 := cA_r hI hm h1 h2
  rw [hC.came m p hm.1 hm.2 h1 h2]
  simp only [cA] at h4
  omega
theorem eC_lateness {A : xAs} {μ : xm} {R : xr} {n : Nat} (hC : CH A μ R n) (hI : Inv A) {m p : Int} (hm : 0 ≤ m ∧ m < A iM 1) (hp : 0 ≤ p ∧ p < 8) : fX2_lateness (oM m) (j32 p) μ = some (j32 (sLate (cA A m) (A iM_minuteOf m) p)) := by
  have h1 := cA_r hI hm hp.1 hp.2
  have h2 := hI.minuteOf m hm.1 hm.2
  unfold fX2_lateness sLate
  rw [eC_comingOf hC hI hm (by omega), if_pos hp]
  simp (disch := omega) only [lits, jj, jc, jm, Int.cast_ofNat_Int, j_bi0, j_bi1, not_true, not_false_eq_true, if_true, if_false, xe, xok_some, Sum.elim_inl, Sum.elim_inr, hC.minute m hm.1 hm.2, j_max]
  by_cases c : A iM_cameAt (8 * m + p) > A iM_minuteOf m
  · rw [if_pos c, show max 0 (A iM_cameAt (8 * m + p) - A iM_minuteOf m) = A iM_cameAt (8 * m + p) - A iM_minuteOf m by omega]
  · rw [if_neg c, show max 0 (A iM_cameAt (8 * m + p) - A iM_minuteOf m) = 0 by omega]
theorem eC_waitFor {A : xAs} {μ : xm} {R : xr} {n : Nat} (hC : CH A μ R n) (hI : Inv A) {m x y : Int} (hm : 0 ≤ m ∧ m < A iM 1) (hx : 0 ≤ x ∧ x < 8) (hy : 0 ≤ y ∧ y < 8) : fX2_waitFor (oM m) (j32 x) (j32 y) μ = some (j32 (sWait (cA A m) (A iM_minuteOf m) x y)) := by
  have h1 := cA_r hI hm hx.1 hx.2
  have h3 := cA_r hI hm hy.1 hy.2
  have h2 := hI.minuteOf m hm.1 hm.2
  unfold fX2_waitFor sWait
  rw [eC_comingOf hC hI hm (by omega), if_pos hx, eC_comingOf hC hI hm (by omega), if_pos hy]
  simp (disch := omega) only [lits, jj, jc, jm, Int.cast_ofNat_Int, j_bi0, j_bi1, not_true, not_false_eq_true, if_true, if_false, xe, xok_some, Sum.elim_inl, Sum.elim_inr, hC.minute m hm.1 hm.2, j_max]
  congr 2
  simp only [cA]
  split <;> split <;> omega
theorem eX3_didKeep {A : xAs} {μ : xm} {R : xr} {n : Nat} (hC : CH A μ R n) (hI : Inv A) {q m x : Int} (hq : 0 ≤ q ∧ q < A iM 1) (hm : 0 ≤ m ∧ m < A iM 1) (hx : 0 ≤ x ∧ x < 8) : fX3_didKeep (oM q) (oM m) (j32 x) μ = some (j32 (bi (sIs A q m x))) := by
  have h1 := hI.mt
  have hd1 := hI.dayOf q hq.1 hq.2
  have hd2 := hI.dayOf m hm.1 hm.2
  have hm1 := hI.minuteOf q hq.1 hq.2
  have hm2 := hI.minuteOf m hm.1 hm.2
  have hc := cA_r hI hm (p := x) hx.1 hx.2
  have hb := sBeg_b (P := A iM_peopleOf q) hm1 (cA_b hI hq) 8 (by omega)
  have hk := sKeep_b (P := A iM_peopleOf q) (c := cA A q) 8 (by omega)
  have no : ∀ h : ¬ sIs A q m x, some (j32 0) = some (j32 (bi (sIs A q m x))) := fun h => by rw [bi, if_neg h]
  have yes : ∀ h : sIs A q m x, some (j32 1) = some (j32 (bi (sIs A q m x))) := fun h => by rw [bi, if_pos h]
  have hK0 := fun h => eC_keeper hC hI hq h
  generalize some (j32 (bi (sIs A q m x))) = X at no yes ⊢
  unfold fX3_didKeep
  rw [eC_includes hC hI hq (by omega), eC_start hC hI hq, eC_comingOf hC hI hm (by omega), if_pos hx]
  generalize hB : sBeg (A iM_peopleOf q) (cA A q) (A iM_minuteOf q) 8 = B at hb
  generalize hK : sKeep (A iM_peopleOf q) (cA A q) 8 = K at hk hK0
  have e1 := hC.day q hq.1 hq.2
  have e2 := hC.day m hm.1 hm.2
  have e3 := hC.minute q hq.1 hq.2
  have e4 := hC.minute m hm.1 hm.2
  by_cases c1 : A iM_dayOf q = A iM_dayOf m
  · by_cases c2 : A iM_minuteOf m ≤ A iM_minuteOf q
    · simp (disch := omega) only [lits, jj, jc, jm, Int.cast_ofNat_Int, j_bi0, j_bi1, not_true, not_false_eq_true, if_true, if_false, xe, xok_some, Sum.elim_inl, Sum.elim_inr, e1, e2, e3, e4, c1, c2]
      exact no (fun h => absurd h.2.1 (by omega))
    · by_cases c3 : inc (A iM_peopleOf q) x
      · by_cases c4 : sAll (A iM_peopleOf q) (cA A q) 8 = true
        · have hK1 := hK0 c4
          by_cases c5 : B - A iM_minuteOf q ≤ 0
          · simp (disch := omega) only [lits, jj, jc, jm, Int.cast_ofNat_Int, j_bi0, j_bi1, not_true, not_false_eq_true, if_true, if_false, xe, xok_some, Sum.elim_inl, Sum.elim_inr, e1, e2, e3, e4, c1, c2, eq_true c3, c4, c5, show ¬ B = -1 by omega]
            exact no (fun h => absurd h.2.2.2.2.1 (by rw [hB]; omega))
          · by_cases c7 : K = x
            · simp (disch := omega) only [lits, jj, jc, jm, Int.cast_ofNat_Int, j_bi0, j_bi1, not_true, not_false_eq_true, if_true, if_false, xe, xok_some, Sum.elim_inl, Sum.elim_inr, e1, e2, e3, e4, c1, c2, eq_true c3, c4, c5, show ¬ B = -1 by omega, hK1, c7]
              exact no (fun h => h.2.2.2.2.2.2 (by rw [hK]; exact c7))
            · by_cases c6 : A iM_minuteOf m < A iM_cameAt (8 * m + x) - (B - A iM_minuteOf q)
              · simp (disch := omega) only [lits, jj, jc, jm, Int.cast_ofNat_Int, j_bi0, j_bi1, not_true, not_false_eq_true, if_true, if_false, xe, xok_some, Sum.elim_inl, Sum.elim_inr, e1, e2, e3, e4, c1, c2, eq_true c3, c4, c5, c6, show ¬ B = -1 by omega, hK1, c7]
                exact no (fun h => absurd h.2.2.2.2.2.1 (by rw [hB]; omega))
              · simp (disch := omega) only [lits, jj, jc, jm, Int.cast_ofNat_Int, j_bi0, j_bi1, not_true, not_false_eq_true, if_true, if_false, xe, xok_some, Sum.elim_inl, Sum.elim_inr, e1, e2, e3, e4, c1, c2, eq_true c3, c4, c5, c6, c7, show ¬ B = -1 by omega, hK1]
                exact yes ⟨c1, by omega, c3, c4, by rw [hB]; omega, by rw [hB]; omega, by rw [hK]; exact c7⟩
        · simp (disch := omega) only [lits, jj, jc, jm, Int.cast_ofNat_Int, j_bi0, j_bi1, not_true, not_false_eq_true, if_true, if_false, xe, xok_some, Sum.elim_inl, Sum.elim_inr, e1, e2, e3, e4, c1, c2, eq_true c3, c4]
          exact no (fun h => c4 h.2.2.2.1)
      · simp (disch := omega) only [lits, jj, jc, jm, Int.cast_ofNat_Int, j_bi0, j_bi1, not_true, not_false_eq_true, if_true, if_false, xe, xok_some, Sum.elim_inl, Sum.elim_inr, e1, e2, e3, e4, c1, c2, eq_false c3]
        exact no (fun h => c3 h.2.2.1)
  · simp (disch := omega) only [lits, jj, jc, jm, Int.cast_ofNat_Int, j_bi0, j_bi1, not_true, not_false_eq_true, if_true, if_false, xe, xok_some, Sum.elim_inl, Sum.elim_inr, e1, e2, e3, e4, c1]
    exact no (fun h => c1 h.1)
theorem eX3_keptBy {A : xAs} {μ : xm} {R : xr} {n : Nat} (hC : CH A μ R n) (hI : Inv A) {m x : Int} (hm : 0 ≤ m ∧ m < A iM 1) (hx : 0 ≤ x ∧ x < 8) : fX3_keptBy (j32 m) (j32 x) μ R = some (j32 (sBy A m x)) := by
  have h1 := hI.mt
  unfold fX3_keptBy
  rw [eX3_find hC hI (by omega), if_pos hm]
  simp only [xe]
  rw [eC_lateness hC hI hm hx, xbd_e]
  have hl : -2147483648 ≤ sLate (cA A m) (A iM_minuteOf m) x ∧ sLate (cA A m) (A iM_minuteOf m) x < 2147483648 := by
    have h2 := cA_r hI hm (p := x) hx.1 hx.2
    have hM := hI.minuteOf m hm.1 hm.2
    unfold sLate; simp only [cA]; split <;> omega
  by_cases c : sLate (cA A m) (A iM_minuteOf m) x = 0
  · simp (disch := omega) only [lits, jj, jc, jm, Int.cast_ofNat_Int, j_bi0, j_bi1, not_true, not_false_eq_true, if_true, if_false, xe, xok_some, Sum.elim_inl, Sum.elim_inr, c]
    unfold sBy
    rw [if_pos c]
  · simp (disch := omega) only [lits, jj, jc, jm, Int.cast_ofNat_Int, j_bi0, j_bi1, not_true, not_false_eq_true, if_true, if_false, xe, xok_some, Sum.elim_inl, Sum.elim_inr, c]
    unfold sBy
    rw [if_neg c]
    -- behind the last meeting nothing changes
    have key := xloop_for (b := fun v => fX3_keptBy_b29 v.1 v.2.1 v.2.2 (j32 x) μ R (oM m)) (fun k => (j32 (sBy0 A m x (min k (A iM 1).toNat)), j32 (if sBy0 A m x (min k (A iM 1).toNat) = -1 then -1 else A iM_minuteOf (sBy0 A m x (min k (A iM 1).toNat))), j32 k)) 24 (r := j32 (sBy0 A m x (A iM 1).toNat)) (a := (j32 (-1), j32 (-1), j32 0)) (by decide) ?_ ?_ ?_
    · rw [key]; rfl
    · rw [Nat.zero_min]; rfl
    · intro k hk
      show fX3_keptBy_b29 _ _ _ (j32 x) μ R (oM m) = _
      unfold fX3_keptBy_b29
      rw [eX3_find hC hI (by omega)]
      by_cases cq : (k : Int) < A iM 1
      · have hq : 0 ≤ (k : Int) ∧ (k : Int) < A iM 1 := by omega
        rw [Nat.min_eq_left (show k ≤ (A iM 1).toNat by omega), Nat.min_eq_left (show k + 1 ≤ (A iM 1).toNat by omega)]
        have hb := (sBy0_b (A := A) (m := m) (x := x) k).1
        have hmk := hI.minuteOf k hq.1 hq.2
        rw [if_pos hq, sBy0_s]
        have hdk := eX3_didKeep hC hI hq hm hx
        have e3 := hC.minute k hq.1 hq.2
        generalize sBy0 A m x k = w at hb ⊢
        by_cases c1 : sIs A k m x
        · by_cases c2 : w = -1
          · simp (disch := omega) only [lits, jj, jc, jm, Int.cast_ofNat_Int, j_bi0, j_bi1, not_true, not_false_eq_true, if_true, if_false, xe, xok_some, Sum.elim_inl, Sum.elim_inr, hdk, eq_true c1, show ¬ 24 ≤ (k : Int) by omega, e3, c2, show ¬ A iM_minuteOf k < -1 by omega, true_or, and_self, show ¬ (k : Int) = -1 by omega]
            rfl
          · have hw := hI.minuteOf w (by omega) (by omega)
            by_cases c3 : A iM_minuteOf k ≥ A iM_minuteOf w
            · simp (disch := omega) only [lits, jj, jc, jm, Int.cast_ofNat_Int, j_bi0, j_bi1, not_true, not_false_eq_true, if_true, if_false, xe, xok_some, Sum.elim_inl, Sum.elim_inr, hdk, eq_true c1, show ¬ 24 ≤ (k : Int) by omega, e3, c2, c3, show ¬ A iM_minuteOf k < A iM_minuteOf w by omega, or_true, and_self, show ¬ (k : Int) = -1 by omega]
              rfl
            · simp (disch := omega) only [lits, jj, jc, jm, Int.cast_ofNat_Int, j_bi0, j_bi1, not_true, not_false_eq_true, if_true, if_false, xe, xok_some, Sum.elim_inl, Sum.elim_inr, hdk, eq_true c1, show ¬ 24 ≤ (k : Int) by omega, e3, c2, c3, show A iM_minuteOf k < A iM_minuteOf w by omega, or_false, and_false]
              rfl
        · by_cases c2 : w = -1
          · simp (disch := omega) only [lits, jj, jc, jm, Int.cast_ofNat_Int, j_bi0, j_bi1, not_true, not_false_eq_true, if_true, if_false, xe, xok_some, Sum.elim_inl, Sum.elim_inr, hdk, eq_false c1, show ¬ 24 ≤ (k : Int) by omega, e3, c2, show ¬ A iM_minuteOf k < -1 by omega, false_and]
            rfl
          · have hw := hI.minuteOf w (by omega) (by omega)
            by_cases c3 : A iM_minuteOf k < A iM_minuteOf w
            · simp (disch := omega) only [lits, jj, jc, jm, Int.cast_ofNat_Int, j_bi0, j_bi1, not_true, not_false_eq_true, if_true, if_false, xe, xok_some, Sum.elim_inl, Sum.elim_inr, hdk, eq_false c1, show ¬ 24 ≤ (k : Int) by omega, e3, c2, c3, false_and]
              rfl
            · simp (disch := omega) only [lits, jj, jc, jm, Int.cast_ofNat_Int, j_bi0, j_bi1, not_true, not_false_eq_true, if_true, if_false, xe, xok_some, Sum.elim_inl, Sum.elim_inr, hdk, eq_false c1, show ¬ 24 ≤ (k : Int) by omega, e3, c2, c3, false_and]
              rfl
      · rw [Nat.min_eq_right (show (A iM 1).toNat ≤ k by omega), Nat.min_eq_right (show (A iM 1).toNat ≤ k + 1 by omega), if_neg (show ¬ (0 ≤ (k : Int) ∧ (k : Int) < A iM 1) by omega)]
        simp (disch := omega) only [lits, jj, jc, jm, Int.cast_ofNat_Int, j_bi0, j_bi1, not_true, not_false_eq_true, if_true, if_false, xe, xok_some, Sum.elim_inl, Sum.elim_inr, show ¬ 24 ≤ (k : Int) by omega]
        rfl
    · show fX3_keptBy_b29 _ _ _ (j32 x) μ R (oM m) = _
      unfold fX3_keptBy_b29
      rw [Nat.min_eq_right (show (A iM 1).toNat ≤ 24 by omega)]
      simp (disch := omega) only [lits, jj, jc, jm, Int.cast_ofNat_Int, j_bi0, j_bi1, not_true, not_false_eq_true, if_true, if_false, xe, xok_some, Sum.elim_inl, Sum.elim_inr, Int.le_refl]
theorem eX3_keeperAt {A : xAs} {μ : xm} {R : xr} {n : Nat} (hC : CH A μ R n) (hI : Inv A) {m : Int} (hm : 0 ≤ m ∧ m < A iM 1) (ha : sAll (A iM_peopleOf m) (cA A m) 8 = true) : fX3_keeperAt (j32 m) μ R = some (j32 (sKeep (A iM_peopleOf m) (cA A m) 8)) := by
  have h1 := hI.mt
  unfold fX3_keeperAt
  rw [eX3_find hC hI (by omega), if_pos hm]
  simp only [xe]
  rw [eC_keeper hC hI hm ha]
  rfl
