/-! The reference's meetings -/
abbrev cA (A : xAs) (m : Int) : Int → Int := fun p => A iM_cameAt (8 * m + p)
theorem cA_b {A : xAs} (hI : Inv A) {m : Int} (hm : 0 ≤ m ∧ m < A iM 1) : ∀ p, 0 ≤ p → p < 8 → -1 ≤ cA A m p ∧ cA A m p ≤ 1439 :=
  fun p h1 h2 => ⟨(hI.cameAt m p hm.1 hm.2 h1 h2).1, (hI.cameAt m p hm.1 hm.2 h1 h2).2.1⟩
theorem cA_r {A : xAs} (hI : Inv A) {m : Int} (hm : 0 ≤ m ∧ m < A iM 1) {p : Int} (h1 : 0 ≤ p) (h2 : p < 8) : -1 ≤ A iM_cameAt (8 * m + p) ∧ A iM_cameAt (8 * m + p) ≤ 1439 := cA_b hI hm p h1 h2
theorem isOf_inc {A : xAs} {m p : Int} (hm : 0 ≤ m ∧ m < A iM 1) : isOf A m p ↔ inc (A iM_peopleOf m) p := ⟨fun h => h.2, fun h => ⟨hm, h⟩⟩
theorem eX12_allCame {A : xAs} {μ : xm} (hA : RH A μ) (hI : Inv A) {m : Int} (hm : 0 ≤ m ∧ m < A iM 1) : fX12_allCame (j32 m) μ = some (j32 (bi (sAll (A iM_peopleOf m) (cA A m) 8 = true))) := by
  have h1 := hI.mt
  unfold fX12_allCame
  simp only [lits]
  have key : xok (xloop xfu (fun v => fX12_allCame_b2 v (j32 m) μ) (j32 0)) (fun r => (sAll (A iM_peopleOf m) (cA A m) 8 = true ∧ r = .inl ()) ∨ (¬ sAll (A iM_peopleOf m) (cA A m) 8 = true ∧ r = .inr (j32 0))) := by
    refine xok_for (fun k a => sAll (A iM_peopleOf m) (cA A m) k = true ∧ a = j32 k) 8 (by decide) ⟨rfl, rfl⟩ ?_ ?_
    · rintro k a hk ⟨h2, rfl⟩
      have hk2 := cA_r hI hm (p := k) (by omega) (by omega)
      unfold fX12_allCame_b2
      rw [eX12_isOf hA hI (by omega) (by omega)]
      by_cases c1 : isOf A m k
      · by_cases c2 : A iM_cameAt (8 * m + k) = -1
        · simp (disch := omega) only [lits, jj, jc, jm, Int.cast_ofNat_Int, j_bi0, j_bi1, not_true, not_false_eq_true, if_true, if_false, xe, xok_some, Sum.elim_inl, Sum.elim_inr, eq_true c1, show ¬ (8 ≤ (k : Int)) by omega, hA, c2, cA]
          exact Or.inr ⟨fun h => (sAll_iff.mp h k (by omega) (by omega) c1.2) c2, trivial⟩
        · simp (disch := omega) only [lits, jj, jc, jm, Int.cast_ofNat_Int, j_bi0, j_bi1, not_true, not_false_eq_true, if_true, if_false, xe, xok_some, Sum.elim_inl, Sum.elim_inr, eq_true c1, show ¬ (8 ≤ (k : Int)) by omega, hA, c2, cA]
          exact ⟨sAll_s.mpr ⟨h2, fun _ => c2⟩, rfl⟩
      · simp (disch := omega) only [lits, jj, jc, jm, Int.cast_ofNat_Int, j_bi0, j_bi1, not_true, not_false_eq_true, if_true, if_false, xe, xok_some, Sum.elim_inl, Sum.elim_inr, eq_false c1, show ¬ (8 ≤ (k : Int)) by omega]
        exact ⟨sAll_s.mpr ⟨h2, fun h => absurd ((isOf_inc hm).mpr h) c1⟩, rfl⟩
    · rintro a ⟨h2, rfl⟩
      unfold fX12_allCame_b2
      simp (disch := omega) only [lits, jj, jc, jm, Int.cast_ofNat_Int, j_bi0, j_bi1, not_true, not_false_eq_true, if_true, if_false, xe, xok_some, Sum.elim_inl, Sum.elim_inr, Int.le_refl]
      exact Or.inl ⟨h2, trivial⟩
  obtain ⟨r, e, h⟩ := key
  rw [e, xbd_e]
  rcases h with ⟨h2, rfl⟩ | ⟨h2, rfl⟩
  · rw [bi, if_pos h2]; rfl
  · rw [bi, if_neg h2]; rfl
theorem eX12_beginsAt {A : xAs} {μ : xm} (hA : RH A μ) (hI : Inv A) {m : Int} (hm : 0 ≤ m ∧ m < A iM 1) : fX12_beginsAt (j32 m) μ = some (j32 (sBeg (A iM_peopleOf m) (cA A m) (A iM_minuteOf m) 8)) := by
  have h1 := hI.mt
  have hM := hI.minuteOf m hm.1 hm.2
  unfold fX12_beginsAt
  simp (disch := omega) only [lits, jj, jc, jm, Int.cast_ofNat_Int, j_bi0, j_bi1, not_true, not_false_eq_true, if_true, if_false, xe, xok_some, Sum.elim_inl, Sum.elim_inr, hA, cA]
  have key := xloop_for (b := fun v => fX12_beginsAt_b9 v.1 v.2 (j32 m) μ) (fun k => (j32 (sBeg (A iM_peopleOf m) (cA A m) (A iM_minuteOf m) k), j32 k)) 8 (r := j32 (sBeg (A iM_peopleOf m) (cA A m) (A iM_minuteOf m) 8)) (a := (j32 (A iM_minuteOf m), j32 0)) (by decide) rfl ?_ ?_
  · rw [key]; rfl
  · intro k hk
    have hb := sBeg_b (P := A iM_peopleOf m) hM (cA_b hI hm) k (by omega)
    have hk2 := cA_r hI hm (p := k) (by omega) (by omega)
    show fX12_beginsAt_b9 _ _ (j32 m) μ = _
    unfold fX12_beginsAt_b9
    rw [eX12_isOf hA hI (by omega) (by omega)]
    rw [sBeg_s]
    generalize sBeg (A iM_peopleOf m) (cA A m) (A iM_minuteOf m) k = w at hb ⊢
    by_cases c1 : isOf A m k
    · by_cases c3 : A iM_cameAt (8 * m + k) > w
      · simp (disch := omega) only [lits, jj, jc, jm, Int.cast_ofNat_Int, j_bi0, j_bi1, not_true, not_false_eq_true, if_true, if_false, xe, xok_some, Sum.elim_inl, Sum.elim_inr, eq_true c1, eq_true c1.2, show ¬ (8 ≤ (k : Int)) by omega, hA, show ¬ A iM_cameAt (8 * m + k) ≤ w by omega, c3, and_self, cA]
        rfl
      · simp (disch := omega) only [lits, jj, jc, jm, Int.cast_ofNat_Int, j_bi0, j_bi1, not_true, not_false_eq_true, if_true, if_false, xe, xok_some, Sum.elim_inl, Sum.elim_inr, eq_true c1, eq_true c1.2, show ¬ (8 ≤ (k : Int)) by omega, hA, show A iM_cameAt (8 * m + k) ≤ w by omega, c3, and_false, cA]
        rfl
    · simp (disch := omega) only [lits, jj, jc, jm, Int.cast_ofNat_Int, j_bi0, j_bi1, not_true, not_false_eq_true, if_true, if_false, xe, xok_some, Sum.elim_inl, Sum.elim_inr, eq_false c1, eq_false (fun h => c1 ((isOf_inc hm).mpr h)), show ¬ (8 ≤ (k : Int)) by omega, false_and]
      rfl
  · show fX12_beginsAt_b9 _ _ (j32 m) μ = _
    have hb := sBeg_b (P := A iM_peopleOf m) hM (cA_b hI hm) 8 (by omega)
    unfold fX12_beginsAt_b9
    simp (disch := omega) only [lits, jj, jc, jm, Int.cast_ofNat_Int, j_bi0, j_bi1, not_true, not_false_eq_true, if_true, if_false, xe, xok_some, Sum.elim_inl, Sum.elim_inr, Int.le_refl]
theorem eX12_keeperOf {A : xAs} {μ : xm} (hA : RH A μ) (hI : Inv A) {m : Int} (hm : 0 ≤ m ∧ m < A iM 1) : fX12_keeperOf (j32 m) μ = some (j32 (sKeep (A iM_peopleOf m) (cA A m) 8)) := by
  have h1 := hI.mt
  unfold fX12_keeperOf
  simp only [lits, jj]
  have key := xloop_for (b := fun v => fX12_keeperOf_b4 v.1 v.2 (j32 m) μ) (fun k => (j32 (sKeep (A iM_peopleOf m) (cA A m) k), j32 k)) 8 (r := j32 (sKeep (A iM_peopleOf m) (cA A m) 8)) (a := (j32 (-1), j32 0)) (by decide) rfl ?_ ?_
  · rw [key]; rfl
  · intro k hk
    have hb := sKeep_b (P := A iM_peopleOf m) (c := cA A m) k (by omega)
    have hk2 := cA_r hI hm (p := k) (by omega) (by omega)
    show fX12_keeperOf_b4 _ _ (j32 m) μ = _
    unfold fX12_keeperOf_b4
    rw [eX12_isOf hA hI (by omega) (by omega)]
    rw [sKeep_s]
    generalize sKeep (A iM_peopleOf m) (cA A m) k = w at hb ⊢
    by_cases c1 : isOf A m k
    · by_cases c2 : w = -1
      · simp (disch := omega) only [lits, jj, jc, jm, Int.cast_ofNat_Int, j_bi0, j_bi1, not_true, not_false_eq_true, if_true, if_false, xe, xok_some, Sum.elim_inl, Sum.elim_inr, eq_true c1, eq_true c1.2, show ¬ (8 ≤ (k : Int)) by omega, c2, true_or, and_self]
        rfl
      · have hw := cA_r hI hm (p := w) (by omega) (by omega)
        by_cases c3 : A iM_cameAt (8 * m + k) > A iM_cameAt (8 * m + w)
        · simp (disch := omega) only [lits, jj, jc, jm, Int.cast_ofNat_Int, j_bi0, j_bi1, not_true, not_false_eq_true, if_true, if_false, xe, xok_some, Sum.elim_inl, Sum.elim_inr, eq_true c1, eq_true c1.2, show ¬ (8 ≤ (k : Int)) by omega, hA, c2, show ¬ A iM_cameAt (8 * m + k) ≤ A iM_cameAt (8 * m + w) by omega, c3, or_true, and_self, cA]
          rfl
        · simp (disch := omega) only [lits, jj, jc, jm, Int.cast_ofNat_Int, j_bi0, j_bi1, not_true, not_false_eq_true, if_true, if_false, xe, xok_some, Sum.elim_inl, Sum.elim_inr, eq_true c1, eq_true c1.2, show ¬ (8 ≤ (k : Int)) by omega, hA, c2, show A iM_cameAt (8 * m + k) ≤ A iM_cameAt (8 * m + w) by omega, c3, or_false, and_false, cA]
          rfl
    · simp (disch := omega) only [lits, jj, jc, jm, Int.cast_ofNat_Int, j_bi0, j_bi1, not_true, not_false_eq_true, if_true, if_false, xe, xok_some, Sum.elim_inl, Sum.elim_inr, eq_false c1, eq_false (fun h => c1 ((isOf_inc hm).mpr h)), show ¬ (8 ≤ (k : Int)) by omega, false_and]
      rfl
  · show fX12_keeperOf_b4 _ _ (j32 m) μ = _
    unfold fX12_keeperOf_b4
    simp (disch := omega) only [lits, jj, jc, jm, Int.cast_ofNat_Int, j_bi0, j_bi1, not_true, not_false_eq_true, if_true, if_false, xe, xok_some, Sum.elim_inl, Sum.elim_inr, Int.le_refl]
/-- how late, and by how long x keeps y waiting -/
def sLate (c : Int → Int) (M x : Int) : Int := if c x > M then c x - M else 0
def sWait (c : Int → Int) (M x y : Int) : Int := if c x > (if c y > M then c y else M) then c x - (if c y > M then c y else M) else 0
theorem eX12_lateAt {A : xAs} {μ : xm} (hA : RH A μ) (hI : Inv A) {m x : Int} (hm : 0 ≤ m ∧ m < A iM 1) (hx : 0 ≤ x ∧ x < 8) : fX12_lateAt (j32 m) (j32 x) μ = some (j32 (sLate (cA A m) (A iM_minuteOf m) x)) := by
  have h1 := hI.mt
  have h2 := cA_r hI hm (p := x) hx.1 hx.2
  have hM := hI.minuteOf m hm.1 hm.2
  unfold fX12_lateAt sLate
  by_cases c : A iM_cameAt (8 * m + x) > A iM_minuteOf m
  · simp (disch := omega) only [lits, jj, jc, jm, Int.cast_ofNat_Int, j_bi0, j_bi1, not_true, not_false_eq_true, if_true, if_false, xe, xok_some, Sum.elim_inl, Sum.elim_inr, hA, c, show ¬ A iM_cameAt (8 * m + x) ≤ A iM_minuteOf m by omega, cA]
  · simp (disch := omega) only [lits, jj, jc, jm, Int.cast_ofNat_Int, j_bi0, j_bi1, not_true, not_false_eq_true, if_true, if_false, xe, xok_some, Sum.elim_inl, Sum.elim_inr, hA, c, show A iM_cameAt (8 * m + x) ≤ A iM_minuteOf m by omega, cA]
theorem eX12_keepsAt {A : xAs} {μ : xm} (hA : RH A μ) (hI : Inv A) {m x y : Int} (hm : 0 ≤ m ∧ m < A iM 1) (hx : 0 ≤ x ∧ x < 8) (hy : 0 ≤ y ∧ y < 8) : fX12_keepsAt (j32 m) (j32 x) (j32 y) μ = some (j32 (sWait (cA A m) (A iM_minuteOf m) x y)) := by
  have h1 := hI.mt
  have h2 := cA_r hI hm (p := x) hx.1 hx.2
  have h3 := cA_r hI hm (p := y) hy.1 hy.2
  have hM := hI.minuteOf m hm.1 hm.2
  unfold fX12_keepsAt sWait
  have hj : ∀ w : Int, -1 ≤ w ∧ w ≤ 1439 → fX12_keepsAt_j40 (j32 w) (j32 m) (j32 x) μ = some (j32 (if A iM_cameAt (8 * m + x) > w then A iM_cameAt (8 * m + x) - w else 0)) := by
    intro w hw
    unfold fX12_keepsAt_j40
    by_cases c : A iM_cameAt (8 * m + x) > w
    · simp (disch := omega) only [lits, jj, jc, jm, Int.cast_ofNat_Int, j_bi0, j_bi1, not_true, not_false_eq_true, if_true, if_false, xe, xok_some, Sum.elim_inl, Sum.elim_inr, hA, c, show ¬ A iM_cameAt (8 * m + x) ≤ w by omega, cA]
    · simp (disch := omega) only [lits, jj, jc, jm, Int.cast_ofNat_Int, j_bi0, j_bi1, not_true, not_false_eq_true, if_true, if_false, xe, xok_some, Sum.elim_inl, Sum.elim_inr, hA, c, show A iM_cameAt (8 * m + x) ≤ w by omega, cA]
  by_cases c : A iM_cameAt (8 * m + y) > A iM_minuteOf m
  · simp (disch := omega) only [lits, jj, jc, jm, Int.cast_ofNat_Int, j_bi0, j_bi1, not_true, not_false_eq_true, if_true, if_false, xe, xok_some, Sum.elim_inl, Sum.elim_inr, hA, c, show ¬ A iM_cameAt (8 * m + y) ≤ A iM_minuteOf m by omega, hj, cA]
  · simp (disch := omega) only [lits, jj, jc, jm, Int.cast_ofNat_Int, j_bi0, j_bi1, not_true, not_false_eq_true, if_true, if_false, xe, xok_some, Sum.elim_inl, Sum.elim_inr, hA, c, show A iM_cameAt (8 * m + y) ≤ A iM_minuteOf m by omega, hj, cA]

/-- whether meeting q is one by which x was kept for meeting m -/
abbrev sIs (A : xAs) (q m x : Int) : Prop := A iM_dayOf q = A iM_dayOf m ∧ A iM_minuteOf q < A iM_minuteOf m ∧ inc (A iM_peopleOf q) x ∧ sAll (A iM_peopleOf q) (cA A q) 8 = true ∧ 0 < sBeg (A iM_peopleOf q) (cA A q) (A iM_minuteOf q) 8 - A iM_minuteOf q ∧ A iM_cameAt (8 * m + x) - (sBeg (A iM_peopleOf q) (cA A q) (A iM_minuteOf q) 8 - A iM_minuteOf q) ≤ A iM_minuteOf m ∧ sKeep (A iM_peopleOf q) (cA A q) 8 ≠ x
def sBy0 (A : xAs) (m x : Int) : Nat → Int
  | 0 => -1
  | k + 1 => if sIs A k m x ∧ (sBy0 A m x k = -1 ∨ A iM_minuteOf k ≥ A iM_minuteOf (sBy0 A m x k)) then k else sBy0 A m x k
theorem sBy0_s {A : xAs} {m x : Int} {k : Nat} : sBy0 A m x (k + 1) = if sIs A k m x ∧ (sBy0 A m x k = -1 ∨ A iM_minuteOf k ≥ A iM_minuteOf (sBy0 A m x k)) then (k : Int) else sBy0 A m x k := rfl
def sBy (A : xAs) (m x : Int) : Int := if sLate (cA A m) (A iM_minuteOf m) x = 0 then -1 else sBy0 A m x (A iM 1).toNat
theorem sBy0_b {A : xAs} {m x : Int} : ∀ k : Nat, (-1 ≤ sBy0 A m x k ∧ sBy0 A m x k < k) ∧ (sBy0 A m x k = -1 ∨ sIs A (sBy0 A m x k) m x) := by
  intro k
  induction k with
  | zero => exact ⟨⟨Int.le_refl _, by show (-1 : Int) < 0; decide⟩, Or.inl rfl⟩
  | succ k ih =>
    rw [sBy0_s]
    split
    · rename_i h; exact ⟨by omega, Or.inr h.1⟩
    · exact ⟨by omega, ih.2⟩
theorem sBy_b {A : xAs} (hI : Inv A) {m x : Int} : (-1 ≤ sBy A m x ∧ sBy A m x < A iM 1) ∧ (sBy A m x = -1 ∨ sIs A (sBy A m x) m x) := by
  have h1 := hI.mt
  have h2 := sBy0_b (A := A) (m := m) (x := x) (A iM 1).toNat
  unfold sBy
  split
  · exact ⟨by omega, Or.inl rfl⟩
  · exact ⟨by omega, h2.2⟩
theorem eX12_isKeeping {A : xAs} {μ : xm} (hA : RH A μ) (hI : Inv A) {q m x : Int} (hq : 0 ≤ q ∧ q < A iM 1) (hm : 0 ≤ m ∧ m < A iM 1) (hx : 0 ≤ x ∧ x < 8) : fX12_isKeeping (j32 q) (j32 m) (j32 x) μ = some (j32 (bi (sIs A q m x))) := by
  have h1 := hI.mt
  have hd1 := hI.dayOf q hq.1 hq.2
  have hd2 := hI.dayOf m hm.1 hm.2
  have hm1 := hI.minuteOf q hq.1 hq.2
  have hm2 := hI.minuteOf m hm.1 hm.2
  have hc := cA_r hI hm (p := x) hx.1 hx.2
  have hb := sBeg_b (P := A iM_peopleOf q) hm1 (cA_b hI hq) 8 (by omega)
  have hk := sKeep_b (P := A iM_peopleOf q) (c := cA A q) 8 (by omega)
  have no : ∀ h : ¬ sIs A q m x, some (j32 0) = some (j32 (bi (sIs A q m x))) := fun h => by rw [bi, if_neg h]
  have yes : ∀ h : sIs A q m x, some (j32 1) = some (j32 (bi (sIs A q m x))) := fun h => by rw [bi, if_pos h]
  generalize some (j32 (bi (sIs A q m x))) = X at no yes ⊢
  unfold fX12_isKeeping
  rw [eX12_isOf hA hI (by omega) (by omega), eX12_allCame hA hI hq, eX12_beginsAt hA hI hq, eX12_keeperOf hA hI hq]
  generalize hB : sBeg (A iM_peopleOf q) (cA A q) (A iM_minuteOf q) 8 = B at hb
  generalize hK : sKeep (A iM_peopleOf q) (cA A q) 8 = K at hk
  by_cases c0 : q = m
  · simp (disch := omega) only [lits, jj, jc, jm, Int.cast_ofNat_Int, j_bi0, j_bi1, not_true, not_false_eq_true, if_true, if_false, xe, xok_some, Sum.elim_inl, Sum.elim_inr, c0]
    exact no (fun h => by rw [c0] at h; exact absurd h.2.1 (by omega))
  by_cases c1 : A iM_dayOf q = A iM_dayOf m
  · by_cases c2 : A iM_minuteOf m ≤ A iM_minuteOf q
    · simp (disch := omega) only [lits, jj, jc, jm, Int.cast_ofNat_Int, j_bi0, j_bi1, not_true, not_false_eq_true, if_true, if_false, xe, xok_some, Sum.elim_inl, Sum.elim_inr, c0, hA, c1, c2]
      exact no (fun h => absurd h.2.1 (by omega))
    · by_cases c3 : isOf A q x
      · by_cases c4 : sAll (A iM_peopleOf q) (cA A q) 8 = true
        · by_cases c5 : B - A iM_minuteOf q ≤ 0
          · simp (disch := omega) only [lits, jj, jc, jm, Int.cast_ofNat_Int, j_bi0, j_bi1, not_true, not_false_eq_true, if_true, if_false, xe, xok_some, Sum.elim_inl, Sum.elim_inr, c0, hA, c1, c2, eq_true c3, c4, c5]
            exact no (fun h => absurd h.2.2.2.2.1 (by rw [hB]; omega))
          · by_cases c6 : A iM_minuteOf m < A iM_cameAt (8 * m + x) - (B - A iM_minuteOf q)
            · simp (disch := omega) only [lits, jj, jc, jm, Int.cast_ofNat_Int, j_bi0, j_bi1, not_true, not_false_eq_true, if_true, if_false, xe, xok_some, Sum.elim_inl, Sum.elim_inr, c0, hA, c1, c2, eq_true c3, c4, c5, c6]
              exact no (fun h => absurd h.2.2.2.2.2.1 (by rw [hB]; omega))
            · by_cases c7 : K = x
              · simp (disch := omega) only [lits, jj, jc, jm, Int.cast_ofNat_Int, j_bi0, j_bi1, not_true, not_false_eq_true, if_true, if_false, xe, xok_some, Sum.elim_inl, Sum.elim_inr, c0, hA, c1, c2, eq_true c3, c4, c5, c6, c7]
                exact no (fun h => h.2.2.2.2.2.2 (by rw [hK]; exact c7))
              · simp (disch := omega) only [lits, jj, jc, jm, Int.cast_ofNat_Int, j_bi0, j_bi1, not_true, not_false_eq_true, if_true, if_false, xe, xok_some, Sum.elim_inl, Sum.elim_inr, c0, hA, c1, c2, eq_true c3, c4, c5, c6, c7]
                exact yes ⟨c1, by omega, c3.2, c4, by rw [hB]; omega, by rw [hB]; omega, by rw [hK]; exact c7⟩
        · simp (disch := omega) only [lits, jj, jc, jm, Int.cast_ofNat_Int, j_bi0, j_bi1, not_true, not_false_eq_true, if_true, if_false, xe, xok_some, Sum.elim_inl, Sum.elim_inr, c0, hA, c1, c2, eq_true c3, c4]
          exact no (fun h => c4 h.2.2.2.1)
      · simp (disch := omega) only [lits, jj, jc, jm, Int.cast_ofNat_Int, j_bi0, j_bi1, not_true, not_false_eq_true, if_true, if_false, xe, xok_some, Sum.elim_inl, Sum.elim_inr, c0, hA, c1, c2, eq_false c3]
        exact no (fun h => c3 ⟨hq, h.2.2.1⟩)
  · simp (disch := omega) only [lits, jj, jc, jm, Int.cast_ofNat_Int, j_bi0, j_bi1, not_true, not_false_eq_true, if_true, if_false, xe, xok_some, Sum.elim_inl, Sum.elim_inr, c0, hA, c1]
    exact no (fun h => c1 h.1)
theorem eX12_keptBy {A : xAs} {μ : xm} (hA : RH A μ) (hI : Inv A) {m x : Int} (hm : 0 ≤ m ∧ m < A iM 1) (hx : 0 ≤ x ∧ x < 8) : fX12_keptBy (j32 m) (j32 x) μ = some (j32 (sBy A m x)) := by
  have h1 := hI.mt
  unfold fX12_keptBy
  rw [eX12_lateAt hA hI hm hx, xbd_e]
  have hl : -2147483648 ≤ sLate (cA A m) (A iM_minuteOf m) x ∧ sLate (cA A m) (A iM_minuteOf m) x < 2147483648 := by
    have h2 := cA_r hI hm (p := x) hx.1 hx.2
    have hM := hI.minuteOf m hm.1 hm.2
    unfold sLate; simp only [cA]; split <;> omega
  by_cases c : sLate (cA A m) (A iM_minuteOf m) x = 0
  · simp (disch := omega) only [lits, jj, jc, jm, Int.cast_ofNat_Int, j_bi0, j_bi1, not_true, not_false_eq_true, if_true, if_false, xe, xok_some, Sum.elim_inl, Sum.elim_inr, c]
    unfold sBy
    rw [if_pos c]
  · simp (disch := omega) only [lits, jj, jc, jm, Int.cast_ofNat_Int, j_bi0, j_bi1, not_true, not_false_eq_true, if_true, if_false, xe, xok_some, Sum.elim_inl, Sum.elim_inr, c]
    unfold sBy
    rw [if_neg c]
    have key := xloop_for (b := fun v => fX12_keptBy_b16 v.1 v.2 (j32 m) (j32 x) μ) (fun k => (j32 (sBy0 A m x k), j32 k)) (A iM 1).toNat (r := j32 (sBy0 A m x (A iM 1).toNat)) (a := (j32 (-1), j32 0)) (by omega) rfl ?_ ?_
    · rw [key]; rfl
    · intro k hk
      have hb := (sBy0_b (A := A) (m := m) (x := x) k).1
      have hq : 0 ≤ (k : Int) ∧ (k : Int) < A iM 1 := by omega
      have hmk := hI.minuteOf k hq.1 hq.2
      show fX12_keptBy_b16 _ _ (j32 m) (j32 x) μ = _
      unfold fX12_keptBy_b16
      rw [eX12_isKeeping hA hI hq hm hx, sBy0_s]
      generalize sBy0 A m x k = w at hb ⊢
      by_cases c1 : sIs A k m x
      · by_cases c2 : w = -1
        · simp (disch := omega) only [lits, jj, jc, jm, Int.cast_ofNat_Int, j_bi0, j_bi1, not_true, not_false_eq_true, if_true, if_false, xe, xok_some, Sum.elim_inl, Sum.elim_inr, eq_true c1, hA, show ¬ A iM 1 ≤ (k : Int) by omega, c2, true_or, and_self]
          rfl
        · have hw := hI.minuteOf w (by omega) (by omega)
          by_cases c3 : A iM_minuteOf k ≥ A iM_minuteOf w
          · simp (disch := omega) only [lits, jj, jc, jm, Int.cast_ofNat_Int, j_bi0, j_bi1, not_true, not_false_eq_true, if_true, if_false, xe, xok_some, Sum.elim_inl, Sum.elim_inr, eq_true c1, hA, show ¬ A iM 1 ≤ (k : Int) by omega, c2, c3, show ¬ A iM_minuteOf k < A iM_minuteOf w by omega, or_true, and_self]
            rfl
          · simp (disch := omega) only [lits, jj, jc, jm, Int.cast_ofNat_Int, j_bi0, j_bi1, not_true, not_false_eq_true, if_true, if_false, xe, xok_some, Sum.elim_inl, Sum.elim_inr, eq_true c1, hA, show ¬ A iM 1 ≤ (k : Int) by omega, c2, c3, show A iM_minuteOf k < A iM_minuteOf w by omega, or_false, and_false]
            rfl
      · simp (disch := omega) only [lits, jj, jc, jm, Int.cast_ofNat_Int, j_bi0, j_bi1, not_true, not_false_eq_true, if_true, if_false, xe, xok_some, Sum.elim_inl, Sum.elim_inr, eq_false c1, hA, show ¬ A iM 1 ≤ (k : Int) by omega, false_and]
        rfl
    · show fX12_keptBy_b16 _ _ (j32 m) (j32 x) μ = _
      unfold fX12_keptBy_b16
      simp (disch := omega) only [lits, jj, jc, jm, Int.cast_ofNat_Int, j_bi0, j_bi1, not_true, not_false_eq_true, if_true, if_false, xe, xok_some, Sum.elim_inl, Sum.elim_inr, hA, show A iM 1 ≤ (((A iM 1).toNat : Nat) : Int) by omega]
