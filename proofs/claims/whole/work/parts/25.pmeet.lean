/-! The calls that only read the meetings -/
theorem xS_ok {α : Type} {x y : Option α} {v : α} (h1 : x = some v) (h2 : y = some v) : ∃ q, x = some q ∧ y = some q := ⟨v, h1, h2⟩
theorem s_begins {A : xAs} {μ : xm} {R : xr} {n : Nat} (hA : RH A μ) (hC : CH A μ R n) (hI : Inv A) (a1 : Int32) : ∃ q, fX11_begins a1 μ R = some q ∧ fX12_begins a1 μ = some q := by
  obtain ⟨m, rfl, hm⟩ := j32_ex a1
  have h1 := hI.mt
  unfold fX11_begins fX12_begins
  rw [eX3_find hC hI hm, eX12_isMeeting hA hI hm]
  by_cases c : 0 ≤ m ∧ m < A iM 1
  · rw [if_pos c]
    simp only [xe]
    rw [eC_start hC hI c, eX12_allCame hA hI c, eX12_beginsAt hA hI c]
    by_cases c2 : sAll (A iM_peopleOf m) (cA A m) 8 = true
    · refine xS_ok (v := j32 (sBeg (A iM_peopleOf m) (cA A m) (A iM_minuteOf m) 8)) ?_ ?_
      · simp (disch := omega) only [Bool.false_eq_true, lits, jj, jc, jm, Int.cast_ofNat_Int, j_bi0, j_bi1, not_true, not_false_eq_true, if_true, if_false, xe, xok_some, Sum.elim_inl, Sum.elim_inr, c2]
      · simp (disch := omega) only [Bool.false_eq_true, lits, jj, jc, jm, Int.cast_ofNat_Int, j_bi0, j_bi1, not_true, not_false_eq_true, if_true, if_false, xe, xok_some, Sum.elim_inl, Sum.elim_inr, eq_true c, c2]
    · refine xS_ok (v := j32 (-1)) ?_ ?_
      · simp (disch := omega) only [Bool.false_eq_true, lits, jj, jc, jm, Int.cast_ofNat_Int, j_bi0, j_bi1, not_true, not_false_eq_true, if_true, if_false, xe, xok_some, Sum.elim_inl, Sum.elim_inr, c2]
      · simp (disch := omega) only [Bool.false_eq_true, lits, jj, jc, jm, Int.cast_ofNat_Int, j_bi0, j_bi1, not_true, not_false_eq_true, if_true, if_false, xe, xok_some, Sum.elim_inl, Sum.elim_inr, eq_true c, c2]
  · rw [if_neg c]
    refine xS_ok (v := j32 (-1)) ?_ ?_
    · simp (disch := omega) only [Bool.false_eq_true, lits, jj, jc, jm, Int.cast_ofNat_Int, j_bi0, j_bi1, not_true, not_false_eq_true, if_true, if_false, xe, xok_some, Sum.elim_inl, Sum.elim_inr]
    · simp (disch := omega) only [Bool.false_eq_true, lits, jj, jc, jm, Int.cast_ofNat_Int, j_bi0, j_bi1, not_true, not_false_eq_true, if_true, if_false, xe, xok_some, Sum.elim_inl, Sum.elim_inr, eq_false c]
theorem s_keeps {A : xAs} {μ : xm} {R : xr} {n : Nat} (hA : RH A μ) (hC : CH A μ R n) (hI : Inv A) (a1 a2 a3 : Int32) : ∃ q, fX11_keeps a1 a2 a3 μ R = some q ∧ fX12_keeps a1 a2 a3 μ = some q := by
  obtain ⟨m, rfl, hm⟩ := j32_ex a1
  obtain ⟨x, rfl, hx⟩ := j32_ex a2
  obtain ⟨y, rfl, hy⟩ := j32_ex a3
  have h1 := hI.mt
  unfold fX11_keeps fX12_keeps
  rw [eX3_find hC hI hm, eX12_isOf hA hI hm hx, eX12_isOf hA hI hm hy]
  by_cases c : 0 ≤ m ∧ m < A iM 1
  · rw [if_pos c]
    simp only [xe]
    rw [eC_comingOf hC hI c hx, eC_comingOf hC hI c hy]
    by_cases c1 : isOf A m x
    · have hx8 : 0 ≤ x ∧ x < 8 := ⟨c1.2.1, c1.2.2.1⟩
      have bx := cA_r hI c hx8.1 hx8.2
      by_cases c2 : isOf A m y
      · have hy8 : 0 ≤ y ∧ y < 8 := ⟨c2.2.1, c2.2.2.1⟩
        have by_ := cA_r hI c hy8.1 hy8.2
        have e1 := eC_waitFor hC hI c hx8 hy8
        have e2 := eX12_keepsAt hA hI c hx8 hy8
        by_cases c3 : x = y
        · refine xS_ok (v := j32 (-1)) ?_ ?_
          · simp (disch := omega) only [Bool.false_eq_true, lits, jj, jc, jm, Int.cast_ofNat_Int, j_bi0, j_bi1, not_true, not_false_eq_true, if_true, if_false, xe, xok_some, Sum.elim_inl, Sum.elim_inr, c3]
          · simp (disch := omega) only [Bool.false_eq_true, lits, jj, jc, jm, Int.cast_ofNat_Int, j_bi0, j_bi1, not_true, not_false_eq_true, if_true, if_false, xe, xok_some, Sum.elim_inl, Sum.elim_inr, eq_true c1, eq_true c2, c3]
        · by_cases c4 : A iM_cameAt (8 * m + x) = -1
          · refine xS_ok (v := j32 (-1)) ?_ ?_
            · simp (disch := omega) only [Bool.false_eq_true, lits, jj, jc, jm, Int.cast_ofNat_Int, j_bi0, j_bi1, not_true, not_false_eq_true, if_true, if_false, xe, xok_some, Sum.elim_inl, Sum.elim_inr, c3, hx8, and_self, c4]
            · simp (disch := omega) only [Bool.false_eq_true, lits, jj, jc, jm, Int.cast_ofNat_Int, j_bi0, j_bi1, not_true, not_false_eq_true, if_true, if_false, xe, xok_some, Sum.elim_inl, Sum.elim_inr, eq_true c1, eq_true c2, c3, hA, c4]
          · by_cases c5 : A iM_cameAt (8 * m + y) = -1
            · refine xS_ok (v := j32 (-1)) ?_ ?_
              · simp (disch := omega) only [Bool.false_eq_true, lits, jj, jc, jm, Int.cast_ofNat_Int, j_bi0, j_bi1, not_true, not_false_eq_true, if_true, if_false, xe, xok_some, Sum.elim_inl, Sum.elim_inr, c3, hx8, hy8, and_self, c4, c5]
              · simp (disch := omega) only [Bool.false_eq_true, lits, jj, jc, jm, Int.cast_ofNat_Int, j_bi0, j_bi1, not_true, not_false_eq_true, if_true, if_false, xe, xok_some, Sum.elim_inl, Sum.elim_inr, eq_true c1, eq_true c2, c3, hA, c4, c5]
            · refine xS_ok (v := j32 (sWait (cA A m) (A iM_minuteOf m) x y)) ?_ ?_
              · simp (disch := omega) only [Bool.false_eq_true, lits, jj, jc, jm, Int.cast_ofNat_Int, j_bi0, j_bi1, not_true, not_false_eq_true, if_true, if_false, xe, xok_some, Sum.elim_inl, Sum.elim_inr, c3, hx8, hy8, and_self, c4, c5, e1]
              · simp (disch := omega) only [Bool.false_eq_true, lits, jj, jc, jm, Int.cast_ofNat_Int, j_bi0, j_bi1, not_true, not_false_eq_true, if_true, if_false, xe, xok_some, Sum.elim_inl, Sum.elim_inr, eq_true c1, eq_true c2, c3, hA, c4, c5, e2]
      · refine xS_ok (v := j32 (-1)) ?_ ?_
        · have e : (if 0 ≤ y ∧ y < 8 then A iM_cameAt (8 * m + y) else -1) = -1 := by
            by_cases c8 : 0 ≤ y ∧ y < 8
            · rw [if_pos c8]; exact (hI.cameAt m y c.1 c.2 c8.1 c8.2).2.2 (fun h => c2 ⟨c, c8.1, c8.2, h⟩)
            · rw [if_neg c8]
          rw [e]
          by_cases c3 : x = y
          · simp (disch := omega) only [Bool.false_eq_true, lits, jj, jc, jm, Int.cast_ofNat_Int, j_bi0, j_bi1, not_true, not_false_eq_true, if_true, if_false, xe, xok_some, Sum.elim_inl, Sum.elim_inr, c3]
          · by_cases c4 : A iM_cameAt (8 * m + x) = -1
            · simp (disch := omega) only [Bool.false_eq_true, lits, jj, jc, jm, Int.cast_ofNat_Int, j_bi0, j_bi1, not_true, not_false_eq_true, if_true, if_false, xe, xok_some, Sum.elim_inl, Sum.elim_inr, c3, hx8, and_self, c4]
            · simp (disch := omega) only [Bool.false_eq_true, lits, jj, jc, jm, Int.cast_ofNat_Int, j_bi0, j_bi1, not_true, not_false_eq_true, if_true, if_false, xe, xok_some, Sum.elim_inl, Sum.elim_inr, c3, hx8, and_self, c4]
        · simp (disch := omega) only [Bool.false_eq_true, lits, jj, jc, jm, Int.cast_ofNat_Int, j_bi0, j_bi1, not_true, not_false_eq_true, if_true, if_false, xe, xok_some, Sum.elim_inl, Sum.elim_inr, eq_true c1, eq_false c2]
    · refine xS_ok (v := j32 (-1)) ?_ ?_
      · have e : (if 0 ≤ x ∧ x < 8 then A iM_cameAt (8 * m + x) else -1) = -1 := by
          by_cases c8 : 0 ≤ x ∧ x < 8
          · rw [if_pos c8]; exact (hI.cameAt m x c.1 c.2 c8.1 c8.2).2.2 (fun h => c1 ⟨c, c8.1, c8.2, h⟩)
          · rw [if_neg c8]
        rw [e]
        by_cases c3 : x = y
        · simp (disch := omega) only [Bool.false_eq_true, lits, jj, jc, jm, Int.cast_ofNat_Int, j_bi0, j_bi1, not_true, not_false_eq_true, if_true, if_false, xe, xok_some, Sum.elim_inl, Sum.elim_inr, c3]
        · simp (disch := omega) only [Bool.false_eq_true, lits, jj, jc, jm, Int.cast_ofNat_Int, j_bi0, j_bi1, not_true, not_false_eq_true, if_true, if_false, xe, xok_some, Sum.elim_inl, Sum.elim_inr, c3]
      · simp (disch := omega) only [Bool.false_eq_true, lits, jj, jc, jm, Int.cast_ofNat_Int, j_bi0, j_bi1, not_true, not_false_eq_true, if_true, if_false, xe, xok_some, Sum.elim_inl, Sum.elim_inr, eq_false c1]
  · rw [if_neg c]
    refine xS_ok (v := j32 (-1)) ?_ ?_
    · simp (disch := omega) only [Bool.false_eq_true, lits, jj, jc, jm, Int.cast_ofNat_Int, j_bi0, j_bi1, not_true, not_false_eq_true, if_true, if_false, xe, xok_some, Sum.elim_inl, Sum.elim_inr]
    · simp (disch := omega) only [Bool.false_eq_true, lits, jj, jc, jm, Int.cast_ofNat_Int, j_bi0, j_bi1, not_true, not_false_eq_true, if_true, if_false, xe, xok_some, Sum.elim_inl, Sum.elim_inr, eq_false (fun h : isOf A m x => c h.1)]
theorem sBy_all {A : xAs} {m x : Int} (hI : Inv A) (h : sBy A m x ≠ -1) : (0 ≤ sBy A m x ∧ sBy A m x < A iM 1) ∧ sAll (A iM_peopleOf (sBy A m x)) (cA A (sBy A m x)) 8 = true := by
  have h1 := sBy_b hI (m := m) (x := x)
  refine ⟨by omega, ?_⟩
  rcases h1.2 with h2 | h2
  · exact absurd h2 h
  · exact h2.2.2.2.1
theorem s_kept {A : xAs} {μ : xm} {R : xr} {n : Nat} (hA : RH A μ) (hC : CH A μ R n) (hI : Inv A) (a1 a2 a3 : Int32) : ∃ q, fX11_kept a1 a2 a3 μ R = some q ∧ fX12_kept a1 a2 a3 μ = some q := by
  obtain ⟨m, rfl, hm⟩ := j32_ex a1
  obtain ⟨x, rfl, hx⟩ := j32_ex a2
  obtain ⟨w, rfl, hw⟩ := j32_ex a3
  have h1 := hI.mt
  unfold fX11_kept fX12_kept
  simp only [lits]
  rw [eX3_find hC hI hm, eX12_isOf hA hI hm hx, eX12_in hw (by omega) (by omega), eX11_within hw (by omega) (by omega)]
  by_cases c : 0 ≤ m ∧ m < A iM 1
  · rw [if_pos c]
    simp only [xe]
    rw [eC_comingOf hC hI c hx]
    by_cases c1 : isOf A m x
    · have hx8 : 0 ≤ x ∧ x < 8 := ⟨c1.2.1, c1.2.2.1⟩
      have bx := cA_r hI c hx8.1 hx8.2
      have hb := sBy_b hI (m := m) (x := x)
      by_cases c4 : A iM_cameAt (8 * m + x) = -1
      · refine xS_ok (v := j32 (-1)) ?_ ?_
        · simp (disch := omega) only [Bool.false_eq_true, lits, jj, jc, jm, Int.cast_ofNat_Int, j_bi0, j_bi1, not_true, not_false_eq_true, if_true, if_false, xe, xok_some, Sum.elim_inl, Sum.elim_inr, hx8, and_self, c4]
        · simp (disch := omega) only [Bool.false_eq_true, lits, jj, jc, jm, Int.cast_ofNat_Int, j_bi0, j_bi1, not_true, not_false_eq_true, if_true, if_false, xe, xok_some, Sum.elim_inl, Sum.elim_inr, eq_true c1, hA, c4]
      · by_cases c5 : 0 ≤ w ∧ w ≤ 1
        · have e1 := eX3_keptBy hC hI c hx8
          have e2 := eX12_keptBy hA hI c hx8
          by_cases c6 : sBy A m x = -1
          · refine xS_ok (v := j32 (-2)) ?_ ?_
            · simp (disch := omega) only [Bool.false_eq_true, lits, jj, jc, jm, Int.cast_ofNat_Int, j_bi0, j_bi1, not_true, not_false_eq_true, if_true, if_false, xe, xok_some, Sum.elim_inl, Sum.elim_inr, hx8, and_self, c4, c5, e1, c6]
            · simp (disch := omega) only [Bool.false_eq_true, lits, jj, jc, jm, Int.cast_ofNat_Int, j_bi0, j_bi1, not_true, not_false_eq_true, if_true, if_false, xe, xok_some, Sum.elim_inl, Sum.elim_inr, eq_true c1, hA, c4, c5, and_self, e2, c6]
          · have h7 := sBy_all hI c6
            have e3 := eX3_keeperAt hC hI h7.1 h7.2
            have e4 := eX12_keeperOf hA hI h7.1
            by_cases c7 : w = 0
            · refine xS_ok (v := j32 (sBy A m x)) ?_ ?_
              · simp (disch := omega) only [Bool.false_eq_true, lits, jj, jc, jm, Int.cast_ofNat_Int, j_bi0, j_bi1, not_true, not_false_eq_true, if_true, if_false, xe, xok_some, Sum.elim_inl, Sum.elim_inr, hx8, and_self, c4, c5, e1, c6, c7]
                try simp
              · simp (disch := omega) only [Bool.false_eq_true, lits, jj, jc, jm, Int.cast_ofNat_Int, j_bi0, j_bi1, not_true, not_false_eq_true, if_true, if_false, xe, xok_some, Sum.elim_inl, Sum.elim_inr, eq_true c1, hA, c4, c5, and_self, e2, c6, c7]
                try simp
            · refine xS_ok (v := j32 (sKeep (A iM_peopleOf (sBy A m x)) (cA A (sBy A m x)) 8)) ?_ ?_
              · simp (disch := omega) only [Bool.false_eq_true, lits, jj, jc, jm, Int.cast_ofNat_Int, j_bi0, j_bi1, not_true, not_false_eq_true, if_true, if_false, xe, xok_some, Sum.elim_inl, Sum.elim_inr, hx8, and_self, c4, c5, e1, c6, c7, e3]
              · simp (disch := omega) only [Bool.false_eq_true, lits, jj, jc, jm, Int.cast_ofNat_Int, j_bi0, j_bi1, not_true, not_false_eq_true, if_true, if_false, xe, xok_some, Sum.elim_inl, Sum.elim_inr, eq_true c1, hA, c4, c5, and_self, e2, c6, c7, e4]
        · refine xS_ok (v := j32 (-1)) ?_ ?_
          · simp (disch := omega) only [Bool.false_eq_true, lits, jj, jc, jm, Int.cast_ofNat_Int, j_bi0, j_bi1, not_true, not_false_eq_true, if_true, if_false, xe, xok_some, Sum.elim_inl, Sum.elim_inr, hx8, and_self, c4, eq_false c5]
          · simp (disch := omega) only [Bool.false_eq_true, lits, jj, jc, jm, Int.cast_ofNat_Int, j_bi0, j_bi1, not_true, not_false_eq_true, if_true, if_false, xe, xok_some, Sum.elim_inl, Sum.elim_inr, eq_true c1, hA, c4, eq_false c5]
    · refine xS_ok (v := j32 (-1)) ?_ ?_
      · have e : (if 0 ≤ x ∧ x < 8 then A iM_cameAt (8 * m + x) else -1) = -1 := by
          by_cases c8 : 0 ≤ x ∧ x < 8
          · rw [if_pos c8]; exact (hI.cameAt m x c.1 c.2 c8.1 c8.2).2.2 (fun h => c1 ⟨c, c8.1, c8.2, h⟩)
          · rw [if_neg c8]
        rw [e]
        simp (disch := omega) only [Bool.false_eq_true, lits, jj, jc, jm, Int.cast_ofNat_Int, j_bi0, j_bi1, not_true, not_false_eq_true, if_true, if_false, xe, xok_some, Sum.elim_inl, Sum.elim_inr]
      · simp (disch := omega) only [Bool.false_eq_true, lits, jj, jc, jm, Int.cast_ofNat_Int, j_bi0, j_bi1, not_true, not_false_eq_true, if_true, if_false, xe, xok_some, Sum.elim_inl, Sum.elim_inr, eq_false c1]
  · rw [if_neg c]
    refine xS_ok (v := j32 (-1)) ?_ ?_
    · simp (disch := omega) only [Bool.false_eq_true, lits, jj, jc, jm, Int.cast_ofNat_Int, j_bi0, j_bi1, not_true, not_false_eq_true, if_true, if_false, xe, xok_some, Sum.elim_inl, Sum.elim_inr]
    · simp (disch := omega) only [Bool.false_eq_true, lits, jj, jc, jm, Int.cast_ofNat_Int, j_bi0, j_bi1, not_true, not_false_eq_true, if_true, if_false, xe, xok_some, Sum.elim_inl, Sum.elim_inr, eq_false (fun h : isOf A m x => c h.1)]
theorem sumTo_c {f g : Int → Int} : ∀ {k : Nat}, (∀ z : Int, 0 ≤ z → z < k → f z = g z) → sumTo f k = sumTo g k
  | 0, _ => rfl
  | k + 1, h => by
    show sumTo f k + f k = sumTo g k + g k
    rw [sumTo_c (k := k) (fun z h1 h2 => h z h1 (by omega)), h k (by omega) (by omega)]
theorem sumTo_b {f : Int → Int} {B : Int} : ∀ {k : Nat}, (∀ z : Int, 0 ≤ z → z < k → 0 ≤ f z ∧ f z ≤ B) → 0 ≤ sumTo f k ∧ sumTo f k ≤ B * k
  | 0, _ => by show (0 : Int) ≤ 0 ∧ (0 : Int) ≤ B * 0; omega
  | k + 1, h => by
    have h1 := sumTo_b (k := k) (fun z h1 h2 => h z h1 (by omega))
    have h2 := h k (by omega) (by omega)
    show 0 ≤ sumTo f k + f k ∧ sumTo f k + f k ≤ B * ((k : Int) + 1)
    rw [Int.mul_add]
    omega
theorem sumTo_s {f : Int → Int} {k : Nat} : sumTo f (k + 1) = sumTo f k + f k := rfl
/-- minutes that p of meeting m waited; all of them -/
def sLostP (A : xAs) (m p : Int) : Int := if inc (A iM_peopleOf m) p then sBeg (A iM_peopleOf m) (cA A m) (A iM_minuteOf m) 8 - max (A iM_minuteOf m) (A iM_cameAt (8 * m + p)) else 0
def sLostM (A : xAs) (m : Int) : Int := if A iM_isSettled m = 1 then sumTo (sLostP A m) 8 else 0
theorem sBeg_ge {P M : Int} {c : Int → Int} : ∀ {k : Nat} {p : Int}, 0 ≤ p → p < k → inc P p → c p ≤ sBeg P c M k
  | 0, p, h1, h2, _ => by omega
  | k + 1, p, h1, h2, h3 => by
    rw [sBeg_s]
    by_cases e : p = k
    · subst e
      split
      · omega
      · rename_i h; have : ¬ c k > sBeg P c M k := fun q => h ⟨h3, q⟩; omega
    · have := sBeg_ge (M := M) (c := c) (k := k) h1 (by omega) h3
      split <;> omega
theorem sLostP_b {A : xAs} (hI : Inv A) {m : Int} (hm : 0 ≤ m ∧ m < A iM 1) {p : Int} (hp : 0 ≤ p ∧ p < 8) : 0 ≤ sLostP A m p ∧ sLostP A m p ≤ 1439 := by
  have hM := hI.minuteOf m hm.1 hm.2
  have hb := sBeg_b (P := A iM_peopleOf m) hM (cA_b hI hm) 8 (by omega)
  have hc := cA_r hI hm hp.1 hp.2
  unfold sLostP
  split
  · rename_i h
    have hg := sBeg_ge (P := A iM_peopleOf m) (M := A iM_minuteOf m) (c := cA A m) (k := 8) hp.1 (by omega) h
    simp only [cA] at hg hb ⊢
    omega
  · omega
theorem sLostM_b {A : xAs} (hI : Inv A) {m : Int} (hm : 0 ≤ m ∧ m < A iM 1) : 0 ≤ sLostM A m ∧ sLostM A m ≤ 11512 := by
  unfold sLostM
  split
  · have := sumTo_b (f := sLostP A m) (B := 1439) (k := 8) (fun z h1 h2 => sLostP_b hI hm ⟨h1, by omega⟩)
    omega
  · omega
theorem eC_isSettled {A : xAs} {μ : xm} {R : xr} {n : Nat} (hC : CH A μ R n) (hI : Inv A) {m : Int} (hm : 0 ≤ m ∧ m < A iM 1) : fX2_isSettled (oM m) μ = some (j32 (A iM_isSettled m)) := by
  have h := hI.isSettled m hm.1 hm.2
  have e := hC.settled m hm.1 hm.2
  unfold fX2_isSettled xz
  simp (disch := omega) only [Bool.false_eq_true, lits, jj, jc, jm, Int.cast_ofNat_Int, j_bi0, j_bi1, not_true, not_false_eq_true, if_true, if_false, xe, xok_some, Sum.elim_inl, Sum.elim_inr, e]
  rcases h with h | h <;> (rw [h]; rfl)
theorem eC_waitedByAll {A : xAs} {μ : xm} {R : xr} {n : Nat} (hC : CH A μ R n) (hI : Inv A) {m : Int} (hm : 0 ≤ m ∧ m < A iM 1) (ha : sAll (A iM_peopleOf m) (cA A m) 8 = true) : fX2_waitedByAll (oM m) μ = some (j32 (sumTo (sLostP A m) 8)) := by
  have h1 := hI.mt
  have hM := hI.minuteOf m hm.1 hm.2
  have hb := sBeg_b (P := A iM_peopleOf m) hM (cA_b hI hm) 8 (by omega)
  unfold fX2_waitedByAll
  rw [eC_start hC hI hm, if_pos ha, xbd_e]
  obtain ⟨B, hB⟩ : ∃ B, sBeg (A iM_peopleOf m) (cA A m) (A iM_minuteOf m) 8 = B := ⟨_, rfl⟩
  rw [hB] at hb ⊢
  have key := xloop_for (b := fun v => fX2_waitedByAll_b9 v.1 v.2 (oM m) μ (j32 B)) (fun k => (j32 (sumTo (sLostP A m) k), j32 k)) 8 (r := j32 (sumTo (sLostP A m) 8)) (a := (0, 0)) (by decide) rfl ?_ ?_
  · rw [key]; rfl
  · intro k hk
    have hk2 := cA_r hI hm (p := k) (by omega) (by omega)
    have e := hC.came m k hm.1 hm.2 (by omega) (by omega)
    show fX2_waitedByAll_b9 _ _ (oM m) μ (j32 B) = _
    unfold fX2_waitedByAll_b9
    rw [eC_includes hC hI hm (by omega), sumTo_s]
    by_cases c1 : inc (A iM_peopleOf m) k
    · rw [show sLostP A m k = B - max (A iM_minuteOf m) (A iM_cameAt (8 * m + k)) by unfold sLostP; rw [if_pos c1, hB]]
      simp (disch := omega) only [Bool.false_eq_true, lits, jj, jc, jm, Int.cast_ofNat_Int, j_bi0, j_bi1, not_true, not_false_eq_true, if_true, if_false, xe, xok_some, Sum.elim_inl, Sum.elim_inr, eq_true c1, show ¬ (8 ≤ (k : Int)) by omega, e, hC.minute m hm.1 hm.2, j_max]
      rfl
    · rw [show sLostP A m k = 0 by unfold sLostP; rw [if_neg c1]]
      simp (disch := omega) only [Bool.false_eq_true, lits, jj, jc, jm, Int.cast_ofNat_Int, j_bi0, j_bi1, not_true, not_false_eq_true, if_true, if_false, xe, xok_some, Sum.elim_inl, Sum.elim_inr, eq_false c1, show ¬ (8 ≤ (k : Int)) by omega, Int.add_zero]
      rfl
  · show fX2_waitedByAll_b9 _ _ (oM m) μ (j32 B) = _
    unfold fX2_waitedByAll_b9
    simp (disch := omega) only [Bool.false_eq_true, lits, jj, jc, jm, Int.cast_ofNat_Int, j_bi0, j_bi1, not_true, not_false_eq_true, if_true, if_false, xe, xok_some, Sum.elim_inl, Sum.elim_inr, Int.le_refl]
theorem sSet_all {A : xAs} (hI : Inv A) {m : Int} (hm : 0 ≤ m ∧ m < A iM 1) (h : A iM_isSettled m = 1) : sAll (A iM_peopleOf m) (cA A m) 8 = true :=
  sAll_iff.mpr (fun p _ _ h3 => hI.settledCame m p hm.1 hm.2 h h3)
theorem s_lost {A : xAs} {μ : xm} {R : xr} {n : Nat} (hA : RH A μ) (hC : CH A μ R n) (hI : Inv A) : ∃ q, fX11_lost μ R = some q ∧ fX12_lost μ = some q := by
  have h1 := hI.mt
  refine xS_ok (v := j32 (sumTo (sLostM A) (A iM 1).toNat)) ?_ ?_
  · unfold fX11_lost fX3_waitedAtSettled
    have key := xloop_for (b := fun v => fX3_waitedAtSettled_b4 v.1 v.2 μ R) (fun k => (j32 (sumTo (sLostM A) (min k (A iM 1).toNat)), j32 k)) 24 (r := j32 (sumTo (sLostM A) (A iM 1).toNat)) (a := (0, 0)) (by decide) (by rw [Nat.zero_min]; rfl) ?_ ?_
    · rw [key]; rfl
    · intro k hk
      show fX3_waitedAtSettled_b4 _ _ μ R = _
      unfold fX3_waitedAtSettled_b4
      rw [eX3_find hC hI (by omega)]
      by_cases cq : (k : Int) < A iM 1
      · have hq : 0 ≤ (k : Int) ∧ (k : Int) < A iM 1 := by omega
        rw [Nat.min_eq_left (show k ≤ (A iM 1).toNat by omega), Nat.min_eq_left (show k + 1 ≤ (A iM 1).toNat by omega), if_pos hq, sumTo_s]
        have hs := hI.isSettled k hq.1 hq.2
        have e1 := eC_isSettled hC hI hq
        by_cases c1 : A iM_isSettled k = 1
        · have e2 := eC_waitedByAll hC hI hq (sSet_all hI hq c1)
          rw [show sLostM A k = sumTo (sLostP A k) 8 by unfold sLostM; rw [if_pos c1]]
          simp (disch := omega) only [Bool.false_eq_true, lits, jj, jc, jm, Int.cast_ofNat_Int, j_bi0, j_bi1, not_true, not_false_eq_true, if_true, if_false, xe, xok_some, Sum.elim_inl, Sum.elim_inr, show ¬ 24 ≤ (k : Int) by omega, e1, c1, e2, show ¬ (1 : Int) = 0 by omega]
          rfl
        · rw [show sLostM A k = 0 by unfold sLostM; rw [if_neg c1]]
          simp (disch := omega) only [Bool.false_eq_true, lits, jj, jc, jm, Int.cast_ofNat_Int, j_bi0, j_bi1, not_true, not_false_eq_true, if_true, if_false, xe, xok_some, Sum.elim_inl, Sum.elim_inr, show ¬ 24 ≤ (k : Int) by omega, e1, show A iM_isSettled k = 0 by omega, Int.add_zero]
          rfl
      · rw [Nat.min_eq_right (show (A iM 1).toNat ≤ k by omega), Nat.min_eq_right (show (A iM 1).toNat ≤ k + 1 by omega), if_neg (show ¬ (0 ≤ (k : Int) ∧ (k : Int) < A iM 1) by omega)]
        simp (disch := omega) only [Bool.false_eq_true, lits, jj, jc, jm, Int.cast_ofNat_Int, j_bi0, j_bi1, not_true, not_false_eq_true, if_true, if_false, xe, xok_some, Sum.elim_inl, Sum.elim_inr, show ¬ 24 ≤ (k : Int) by omega]
        rfl
    · show fX3_waitedAtSettled_b4 _ _ μ R = _
      unfold fX3_waitedAtSettled_b4
      rw [Nat.min_eq_right (show (A iM 1).toNat ≤ 24 by omega)]
      simp (disch := omega) only [Bool.false_eq_true, lits, jj, jc, jm, Int.cast_ofNat_Int, j_bi0, j_bi1, not_true, not_false_eq_true, if_true, if_false, xe, xok_some, Sum.elim_inl, Sum.elim_inr, Int.le_refl]
  · unfold fX12_lost
    have key := xloop_for (b := fun v => fX12_lost_b4 v.1 v.2 μ) (fun k => (j32 (sumTo (sLostM A) k), j32 k)) (A iM 1).toNat (r := j32 (sumTo (sLostM A) (A iM 1).toNat)) (a := (0, 0)) (by omega) rfl ?_ ?_
    · rw [key]; rfl
    · intro k hk
      have hq : 0 ≤ (k : Int) ∧ (k : Int) < A iM 1 := by omega
      have hs := hI.isSettled k hq.1 hq.2
      have hM := hI.minuteOf k hq.1 hq.2
      have hb := sBeg_b (P := A iM_peopleOf k) hM (cA_b hI hq) 8 (by omega)
      have e1 := eX12_beginsAt hA hI hq
      show fX12_lost_b4 _ _ μ = _
      unfold fX12_lost_b4
      have in_ : xloop xfu (fun v => fX12_lost_b14 v.1 v.2 μ (j32 k)) (j32 (sumTo (sLostM A) k), j32 0) = some (j32 (sumTo (sLostM A) k + sLostM A k)) := by
        by_cases c1 : A iM_isSettled k = 1
        · rw [show sLostM A k = sumTo (sLostP A k) 8 by unfold sLostM; rw [if_pos c1]]
          refine xloop_for (fun i => (j32 (sumTo (sLostM A) k + sumTo (sLostP A k) i), j32 i)) 8 (by decide) (by show (j32 (_ + 0), _) = _; rw [Int.add_zero]; rfl) ?_ ?_
          · intro i hi
            have hk2 := cA_r hI hq (p := i) (by omega) (by omega)
            show fX12_lost_b14 _ _ μ (j32 k) = _
            unfold fX12_lost_b14 fX12_lost_j81
            rw [eX12_isOf hA hI (by omega) (by omega), sumTo_s]
            by_cases c2 : isOf A k i
            · obtain ⟨B, hB⟩ : ∃ B, sBeg (A iM_peopleOf k) (cA A k) (A iM_minuteOf k) 8 = B := ⟨_, rfl⟩
              rw [hB] at e1
              rw [show sLostP A k i = B - max (A iM_minuteOf k) (A iM_cameAt (8 * k + i)) by unfold sLostP; rw [if_pos c2.2, hB]]
              by_cases c3 : A iM_cameAt (8 * k + i) ≤ A iM_minuteOf k
              · simp (disch := omega) only [Bool.false_eq_true, lits, jj, jc, jm, Int.cast_ofNat_Int, j_bi0, j_bi1, not_true, not_false_eq_true, if_true, if_false, xe, xok_some, Sum.elim_inl, Sum.elim_inr, show ¬ 8 ≤ (i : Int) by omega, hA, c1, eq_true c2, c3, e1, show ¬ (1 : Int) = 0 by omega]
                rw [show max (A iM_minuteOf k) (A iM_cameAt (8 * k + i)) = A iM_minuteOf k by omega, show sumTo (sLostM A) k + sumTo (sLostP A k) i + B - A iM_minuteOf k = sumTo (sLostM A) k + (sumTo (sLostP A k) i + (B - A iM_minuteOf k)) by omega]
                rfl
              · simp (disch := omega) only [Bool.false_eq_true, lits, jj, jc, jm, Int.cast_ofNat_Int, j_bi0, j_bi1, not_true, not_false_eq_true, if_true, if_false, xe, xok_some, Sum.elim_inl, Sum.elim_inr, show ¬ 8 ≤ (i : Int) by omega, hA, c1, eq_true c2, c3, e1, show ¬ (1 : Int) = 0 by omega]
                rw [show max (A iM_minuteOf k) (A iM_cameAt (8 * k + i)) = A iM_cameAt (8 * k + i) by omega, show sumTo (sLostM A) k + sumTo (sLostP A k) i + B - A iM_cameAt (8 * k + i) = sumTo (sLostM A) k + (sumTo (sLostP A k) i + (B - A iM_cameAt (8 * k + i))) by omega]
                rfl
            · rw [show sLostP A k i = 0 by unfold sLostP; rw [if_neg (fun h => c2 ⟨hq, h⟩)]]
              simp (disch := omega) only [Bool.false_eq_true, lits, jj, jc, jm, Int.cast_ofNat_Int, j_bi0, j_bi1, not_true, not_false_eq_true, if_true, if_false, xe, xok_some, Sum.elim_inl, Sum.elim_inr, show ¬ 8 ≤ (i : Int) by omega, hA, c1, eq_false c2, Int.add_zero, show ¬ (1 : Int) = 0 by omega]
              rfl
          · show fX12_lost_b14 _ _ μ (j32 k) = _
            unfold fX12_lost_b14
            simp (disch := omega) only [Bool.false_eq_true, lits, jj, jc, jm, Int.cast_ofNat_Int, j_bi0, j_bi1, not_true, not_false_eq_true, if_true, if_false, xe, xok_some, Sum.elim_inl, Sum.elim_inr, Int.le_refl]
        · rw [show sLostM A k = 0 by unfold sLostM; rw [if_neg c1], Int.add_zero]
          refine xloop_for (fun i => (j32 (sumTo (sLostM A) k), j32 i)) 8 (by decide) rfl ?_ ?_
          · intro i hi
            show fX12_lost_b14 _ _ μ (j32 k) = _
            unfold fX12_lost_b14
            simp (disch := omega) only [Bool.false_eq_true, lits, jj, jc, jm, Int.cast_ofNat_Int, j_bi0, j_bi1, not_true, not_false_eq_true, if_true, if_false, xe, xok_some, Sum.elim_inl, Sum.elim_inr, show ¬ 8 ≤ (i : Int) by omega, hA, show A iM_isSettled k = 0 by omega]
            rfl
          · show fX12_lost_b14 _ _ μ (j32 k) = _
            unfold fX12_lost_b14
            simp (disch := omega) only [Bool.false_eq_true, lits, jj, jc, jm, Int.cast_ofNat_Int, j_bi0, j_bi1, not_true, not_false_eq_true, if_true, if_false, xe, xok_some, Sum.elim_inl, Sum.elim_inr, Int.le_refl]
      rw [show (0 : Int32) = j32 0 from rfl]
      dsimp only
      rw [in_, sumTo_s]
      simp (disch := omega) only [Bool.false_eq_true, lits, jj, jc, jm, Int.cast_ofNat_Int, j_bi0, j_bi1, not_true, not_false_eq_true, if_true, if_false, xe, xok_some, Sum.elim_inl, Sum.elim_inr, hA, show ¬ A iM 1 ≤ (k : Int) by omega]
      rfl
    · show fX12_lost_b4 _ _ μ = _
      unfold fX12_lost_b4
      simp (disch := omega) only [Bool.false_eq_true, lits, jj, jc, jm, Int.cast_ofNat_Int, j_bi0, j_bi1, not_true, not_false_eq_true, if_true, if_false, xe, xok_some, Sum.elim_inl, Sum.elim_inr, hA, show A iM 1 ≤ (((A iM 1).toNat : Nat) : Int) by omega]
