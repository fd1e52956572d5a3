/-! Notes: noteIs, hand, take, owed -/
abbrev aLive (A : xAs) (i day : Int) : Prop := 0 < A iM_leftOf i ∧ (A iM_lapseOf i = -1 ∨ day < A iM_lapseOf i)
abbrev isN (A : xAs) (i : Int) : Prop := 0 ≤ i ∧ i < A iM 37
theorem eX4_holds {A : xAs} {μ : xm} {R : xr} {n : Nat} (hC : CH A μ R n) (hI : Inv A) {i : Int} (hi : -2147483648 ≤ i ∧ i < 2147483648) : fX4_holds (j32 i) μ = some (j32 (bi (isN A i))) := by
  have h1 := hI.notes
  have e := hC.notes
  unfold fX4_holds
  by_cases c1 : i < 0
  · simp (disch := omega) only [Bool.false_eq_true, lits, jj, jc, jm, Int.cast_ofNat_Int, j_bi0, j_bi1, not_true, not_false_eq_true, if_true, if_false, xe, xok_some, Sum.elim_inl, Sum.elim_inr, Int.reduceEq, Int.reduceLT, Int.reduceLE, Int.reduceAdd, Int.reduceSub, Int.reduceMul, c1]; rw [bi, if_neg (fun h => absurd h.1 (by omega))]
  by_cases c2 : A iM 37 ≤ i
  · simp (disch := omega) only [Bool.false_eq_true, lits, jj, jc, jm, Int.cast_ofNat_Int, j_bi0, j_bi1, not_true, not_false_eq_true, if_true, if_false, xe, xok_some, Sum.elim_inl, Sum.elim_inr, Int.reduceEq, Int.reduceLT, Int.reduceLE, Int.reduceAdd, Int.reduceSub, Int.reduceMul, c1, e, c2]; rw [bi, if_neg (fun h => absurd h.2 (by omega))]
  simp (disch := omega) only [Bool.false_eq_true, lits, jj, jc, jm, Int.cast_ofNat_Int, j_bi0, j_bi1, not_true, not_false_eq_true, if_true, if_false, xe, xok_some, Sum.elim_inl, Sum.elim_inr, Int.reduceEq, Int.reduceLT, Int.reduceLE, Int.reduceAdd, Int.reduceSub, Int.reduceMul, c1, e, c2, show ¬ 60 ≤ i by omega]
  rw [bi, if_pos ⟨by omega, by omega⟩]
theorem eX12_isNote {A : xAs} {μ : xm} (hA : RH A μ) (hI : Inv A) {i : Int} (hi : -2147483648 ≤ i ∧ i < 2147483648) : fX12_isNote (j32 i) μ = some (j32 (bi (isN A i))) := by
  have h1 := hI.notes
  unfold fX12_isNote
  by_cases c1 : i < 0
  · simp (disch := omega) only [Bool.false_eq_true, lits, jj, jc, jm, Int.cast_ofNat_Int, j_bi0, j_bi1, not_true, not_false_eq_true, if_true, if_false, xe, xok_some, Sum.elim_inl, Sum.elim_inr, Int.reduceEq, Int.reduceLT, Int.reduceLE, Int.reduceAdd, Int.reduceSub, Int.reduceMul, c1]; rw [bi, if_neg (fun h => absurd h.1 (by omega))]
  by_cases c2 : A iM 37 ≤ i
  · simp (disch := omega) only [Bool.false_eq_true, lits, jj, jc, jm, Int.cast_ofNat_Int, j_bi0, j_bi1, not_true, not_false_eq_true, if_true, if_false, xe, xok_some, Sum.elim_inl, Sum.elim_inr, Int.reduceEq, Int.reduceLT, Int.reduceLE, Int.reduceAdd, Int.reduceSub, Int.reduceMul, c1, hA, c2]; rw [bi, if_neg (fun h => absurd h.2 (by omega))]
  simp (disch := omega) only [Bool.false_eq_true, lits, jj, jc, jm, Int.cast_ofNat_Int, j_bi0, j_bi1, not_true, not_false_eq_true, if_true, if_false, xe, xok_some, Sum.elim_inl, Sum.elim_inr, Int.reduceEq, Int.reduceLT, Int.reduceLE, Int.reduceAdd, Int.reduceSub, Int.reduceMul, c1, hA, c2]
  rw [bi, if_pos ⟨by omega, by omega⟩]
theorem eX4_isLive {A : xAs} {μ : xm} {R : xr} {n : Nat} (hC : CH A μ R n) (hI : Inv A) {i d : Int} (hi : -2147483648 ≤ i ∧ i < 2147483648) (hd : -2147483648 ≤ d ∧ d < 2147483648) : fX4_isLive (j32 i) (j32 d) μ = some (j32 (bi (isN A i ∧ aLive A i d))) := by
  have h1 := hI.notes
  have no : ∀ h : ¬ (isN A i ∧ aLive A i d), some (j32 0) = some (j32 (bi (isN A i ∧ aLive A i d))) := fun h => by rw [bi, if_neg h]
  have yes : ∀ h : (isN A i ∧ aLive A i d), some (j32 1) = some (j32 (bi (isN A i ∧ aLive A i d))) := fun h => by rw [bi, if_pos h]
  generalize some (j32 (bi (isN A i ∧ aLive A i d))) = X at no yes ⊢
  unfold fX4_isLive
  rw [eX4_holds hC hI hi]
  by_cases c1 : isN A i
  · have e1 := hC.minutes i c1.1 c1.2
    have e2 := hC.lapses i c1.1 c1.2
    have b1 := hI.leftOf i c1.1 c1.2
    have b2 := hI.lapseOf i c1.1 c1.2
    by_cases c2 : A iM_leftOf i ≤ 0
    · simp (disch := omega) only [Bool.false_eq_true, lits, jj, jc, jm, Int.cast_ofNat_Int, j_bi0, j_bi1, not_true, not_false_eq_true, if_true, if_false, xe, xok_some, Sum.elim_inl, Sum.elim_inr, Int.reduceEq, Int.reduceLT, Int.reduceLE, Int.reduceAdd, Int.reduceSub, Int.reduceMul, eq_true c1, e1, c2]; exact no (fun h => absurd h.2.1 (by omega))
    · by_cases c3 : A iM_lapseOf i = -1
      · simp (disch := omega) only [Bool.false_eq_true, lits, jj, jc, jm, Int.cast_ofNat_Int, j_bi0, j_bi1, not_true, not_false_eq_true, if_true, if_false, xe, xok_some, Sum.elim_inl, Sum.elim_inr, Int.reduceEq, Int.reduceLT, Int.reduceLE, Int.reduceAdd, Int.reduceSub, Int.reduceMul, eq_true c1, e1, c2, e2, c3]; exact yes ⟨c1, by omega, Or.inl c3⟩
      · by_cases c4 : A iM_lapseOf i ≤ d
        · simp (disch := omega) only [Bool.false_eq_true, lits, jj, jc, jm, Int.cast_ofNat_Int, j_bi0, j_bi1, not_true, not_false_eq_true, if_true, if_false, xe, xok_some, Sum.elim_inl, Sum.elim_inr, Int.reduceEq, Int.reduceLT, Int.reduceLE, Int.reduceAdd, Int.reduceSub, Int.reduceMul, eq_true c1, e1, c2, e2, c3, c4]; exact no (fun h => by rcases h.2.2 with h | h; exact c3 h; omega)
        · simp (disch := omega) only [Bool.false_eq_true, lits, jj, jc, jm, Int.cast_ofNat_Int, j_bi0, j_bi1, not_true, not_false_eq_true, if_true, if_false, xe, xok_some, Sum.elim_inl, Sum.elim_inr, Int.reduceEq, Int.reduceLT, Int.reduceLE, Int.reduceAdd, Int.reduceSub, Int.reduceMul, eq_true c1, e1, c2, e2, c3, c4]; exact yes ⟨c1, by omega, Or.inr (by omega)⟩
  · simp (disch := omega) only [Bool.false_eq_true, lits, jj, jc, jm, Int.cast_ofNat_Int, j_bi0, j_bi1, not_true, not_false_eq_true, if_true, if_false, xe, xok_some, Sum.elim_inl, Sum.elim_inr, Int.reduceEq, Int.reduceLT, Int.reduceLE, Int.reduceAdd, Int.reduceSub, Int.reduceMul, eq_false c1]; exact no (fun h => c1 h.1)
theorem eX12_isLiveOn {A : xAs} {μ : xm} (hA : RH A μ) (hI : Inv A) {i d : Int} (c1 : isN A i) (hd : -2147483648 ≤ d ∧ d < 2147483648) : fX12_isLiveOn (j32 i) (j32 d) μ = some (j32 (bi (aLive A i d))) := by
  have h1 := hI.notes
  have b1 := hI.leftOf i c1.1 c1.2
  have b2 := hI.lapseOf i c1.1 c1.2
  have hb : 0 ≤ i ∧ i < 60 := ⟨c1.1, by have := c1.2; omega⟩
  have no : ∀ h : ¬ (aLive A i d), some (j32 0) = some (j32 (bi (aLive A i d))) := fun h => by rw [bi, if_neg h]
  have yes : ∀ h : (aLive A i d), some (j32 1) = some (j32 (bi (aLive A i d))) := fun h => by rw [bi, if_pos h]
  generalize some (j32 (bi (aLive A i d))) = X at no yes ⊢
  unfold fX12_isLiveOn
  by_cases c2 : A iM_leftOf i ≤ 0
  · simp (disch := omega) only [Bool.false_eq_true, lits, jj, jc, jm, Int.cast_ofNat_Int, j_bi0, j_bi1, not_true, not_false_eq_true, if_true, if_false, xe, xok_some, Sum.elim_inl, Sum.elim_inr, Int.reduceEq, Int.reduceLT, Int.reduceLE, Int.reduceAdd, Int.reduceSub, Int.reduceMul, hA, c2]; exact no (fun h => absurd h.1 (by omega))
  · by_cases c3 : A iM_lapseOf i = -1
    · simp (disch := omega) only [Bool.false_eq_true, lits, jj, jc, jm, Int.cast_ofNat_Int, j_bi0, j_bi1, not_true, not_false_eq_true, if_true, if_false, xe, xok_some, Sum.elim_inl, Sum.elim_inr, Int.reduceEq, Int.reduceLT, Int.reduceLE, Int.reduceAdd, Int.reduceSub, Int.reduceMul, hA, c2, c3]; exact yes ⟨by omega, Or.inl c3⟩
    · by_cases c4 : A iM_lapseOf i ≤ d
      · simp (disch := omega) only [Bool.false_eq_true, lits, jj, jc, jm, Int.cast_ofNat_Int, j_bi0, j_bi1, not_true, not_false_eq_true, if_true, if_false, xe, xok_some, Sum.elim_inl, Sum.elim_inr, Int.reduceEq, Int.reduceLT, Int.reduceLE, Int.reduceAdd, Int.reduceSub, Int.reduceMul, hA, c2, c3, c4]; exact no (fun h => by rcases h.2 with h | h; exact c3 h; omega)
      · simp (disch := omega) only [Bool.false_eq_true, lits, jj, jc, jm, Int.cast_ofNat_Int, j_bi0, j_bi1, not_true, not_false_eq_true, if_true, if_false, xe, xok_some, Sum.elim_inl, Sum.elim_inr, Int.reduceEq, Int.reduceLT, Int.reduceLE, Int.reduceAdd, Int.reduceSub, Int.reduceMul, hA, c2, c3, c4]; exact yes ⟨by omega, Or.inr (by omega)⟩
theorem eX12_isLive {A : xAs} {μ : xm} (hA : RH A μ) (hI : Inv A) {i : Int} (hi : -2147483648 ≤ i ∧ i < 2147483648) : fX12_isLive (j32 i) μ = some (j32 (bi (isN A i ∧ aLive A i (A iM 0)))) := by
  have h0 := hI.now
  unfold fX12_isLive
  rw [eX12_isNote hA hI hi]
  simp only [lits, jj, hA, Int.cast_ofNat_Int]
  by_cases c1 : isN A i
  · rw [eX12_isLiveOn hA hI c1 (by omega)]
    by_cases c2 : aLive A i (A iM 0)
    · simp (disch := omega) only [Bool.false_eq_true, lits, jj, jc, jm, Int.cast_ofNat_Int, j_bi0, j_bi1, not_true, not_false_eq_true, if_true, if_false, xe, xok_some, Sum.elim_inl, Sum.elim_inr, Int.reduceEq, Int.reduceLT, Int.reduceLE, Int.reduceAdd, Int.reduceSub, Int.reduceMul, eq_true c1, eq_true c2]; rw [bi, if_pos (by trivial)]
    · simp (disch := omega) only [Bool.false_eq_true, lits, jj, jc, jm, Int.cast_ofNat_Int, j_bi0, j_bi1, not_true, not_false_eq_true, if_true, if_false, xe, xok_some, Sum.elim_inl, Sum.elim_inr, Int.reduceEq, Int.reduceLT, Int.reduceLE, Int.reduceAdd, Int.reduceSub, Int.reduceMul, eq_true c1, eq_false c2]; rw [bi, if_neg (by simp)]
  · simp (disch := omega) only [Bool.false_eq_true, lits, jj, jc, jm, Int.cast_ofNat_Int, j_bi0, j_bi1, not_true, not_false_eq_true, if_true, if_false, xe, xok_some, Sum.elim_inl, Sum.elim_inr, Int.reduceEq, Int.reduceLT, Int.reduceLE, Int.reduceAdd, Int.reduceSub, Int.reduceMul, eq_false c1]; rw [bi, if_neg (fun h => by simp at h)]
theorem eX4_owerOf {A : xAs} {μ : xm} {R : xr} {n : Nat} (hC : CH A μ R n) (hI : Inv A) {i : Int} (c1 : isN A i) : fX4_owerOf (j32 i) μ = some (j32 (A iM_owesIt i)) := by
  have h1 := hI.notes
  have hb : 0 ≤ i ∧ i < 60 := ⟨c1.1, by have := c1.2; omega⟩
  unfold fX4_owerOf; rw [eX4_holds hC hI (by omega)]; simp (disch := omega) only [Bool.false_eq_true, lits, jj, jc, jm, Int.cast_ofNat_Int, j_bi0, j_bi1, not_true, not_false_eq_true, if_true, if_false, xe, xok_some, Sum.elim_inl, Sum.elim_inr, Int.reduceEq, Int.reduceLT, Int.reduceLE, Int.reduceAdd, Int.reduceSub, Int.reduceMul, eq_true c1, hC.owers i c1.1 c1.2]
theorem eX4_holderOf {A : xAs} {μ : xm} {R : xr} {n : Nat} (hC : CH A μ R n) (hI : Inv A) {i : Int} (c1 : isN A i) : fX4_holderOf (j32 i) μ = some (j32 (A iM_hasIt i)) := by
  have h1 := hI.notes
  have hb : 0 ≤ i ∧ i < 60 := ⟨c1.1, by have := c1.2; omega⟩
  unfold fX4_holderOf; rw [eX4_holds hC hI (by omega)]; simp (disch := omega) only [Bool.false_eq_true, lits, jj, jc, jm, Int.cast_ofNat_Int, j_bi0, j_bi1, not_true, not_false_eq_true, if_true, if_false, xe, xok_some, Sum.elim_inl, Sum.elim_inr, Int.reduceEq, Int.reduceLT, Int.reduceLE, Int.reduceAdd, Int.reduceSub, Int.reduceMul, eq_true c1, hC.holders i c1.1 c1.2]
theorem eX4_minutesOf {A : xAs} {μ : xm} {R : xr} {n : Nat} (hC : CH A μ R n) (hI : Inv A) {i : Int} (c1 : isN A i) : fX4_minutesOf (j32 i) μ = some (j32 (A iM_leftOf i)) := by
  have h1 := hI.notes
  have hb : 0 ≤ i ∧ i < 60 := ⟨c1.1, by have := c1.2; omega⟩
  unfold fX4_minutesOf; rw [eX4_holds hC hI (by omega)]; simp (disch := omega) only [Bool.false_eq_true, lits, jj, jc, jm, Int.cast_ofNat_Int, j_bi0, j_bi1, not_true, not_false_eq_true, if_true, if_false, xe, xok_some, Sum.elim_inl, Sum.elim_inr, Int.reduceEq, Int.reduceLT, Int.reduceLE, Int.reduceAdd, Int.reduceSub, Int.reduceMul, eq_true c1, hC.minutes i c1.1 c1.2]
theorem eX4_madeOn {A : xAs} {μ : xm} {R : xr} {n : Nat} (hC : CH A μ R n) (hI : Inv A) {i : Int} (c1 : isN A i) : fX4_madeOn (j32 i) μ = some (j32 (A iM_madeOn i)) := by
  have h1 := hI.notes
  have hb : 0 ≤ i ∧ i < 60 := ⟨c1.1, by have := c1.2; omega⟩
  unfold fX4_madeOn; rw [eX4_holds hC hI (by omega)]; simp (disch := omega) only [Bool.false_eq_true, lits, jj, jc, jm, Int.cast_ofNat_Int, j_bi0, j_bi1, not_true, not_false_eq_true, if_true, if_false, xe, xok_some, Sum.elim_inl, Sum.elim_inr, Int.reduceEq, Int.reduceLT, Int.reduceLE, Int.reduceAdd, Int.reduceSub, Int.reduceMul, eq_true c1, hC.made i c1.1 c1.2]
theorem eX4_lapsesOn {A : xAs} {μ : xm} {R : xr} {n : Nat} (hC : CH A μ R n) (hI : Inv A) {i : Int} (c1 : isN A i) : fX4_lapsesOn (j32 i) μ = some (j32 (A iM_lapseOf i)) := by
  have h1 := hI.notes
  have hb : 0 ≤ i ∧ i < 60 := ⟨c1.1, by have := c1.2; omega⟩
  unfold fX4_lapsesOn; rw [eX4_holds hC hI (by omega)]; simp (disch := omega) only [Bool.false_eq_true, lits, jj, jc, jm, Int.cast_ofNat_Int, j_bi0, j_bi1, not_true, not_false_eq_true, if_true, if_false, xe, xok_some, Sum.elim_inl, Sum.elim_inr, Int.reduceEq, Int.reduceLT, Int.reduceLE, Int.reduceAdd, Int.reduceSub, Int.reduceMul, eq_true c1, hC.lapses i c1.1 c1.2]
theorem s_noteIs {A : xAs} {μ : xm} {R : xr} {n : Nat} (hA : RH A μ) (hC : CH A μ R n) (hI : Inv A) (a1 a2 : Int32) : ∃ q, fX11_noteIs a1 a2 μ = some q ∧ fX12_noteIs a1 a2 μ = some q := by
  obtain ⟨i, rfl, hi⟩ := j32_ex a1
  obtain ⟨w, rfl, hw⟩ := j32_ex a2
  have h0 := hI.now
  have h1 := hI.notes
  unfold fX11_noteIs fX12_noteIs
  rw [eX4_holds hC hI hi, eX12_isNote hA hI hi, eX12_isLive hA hI hi]
  simp only [lits, jj, Int.cast_ofNat_Int]
  rw [hC.now, eX4_isLive hC hI hi (by omega)]
  by_cases c1 : isN A i
  · have hb : 0 ≤ i ∧ i < 60 := ⟨c1.1, by have := c1.2; omega⟩
    rw [eX4_owerOf hC hI c1, eX4_holderOf hC hI c1, eX4_minutesOf hC hI c1, eX4_madeOn hC hI c1, eX4_lapsesOn hC hI c1]
    by_cases k0 : w = 0
    · exact xS_ok (v := j32 (A iM_owesIt i)) (by simp (disch := omega) only [Bool.false_eq_true, lits, jj, jc, jm, Int.cast_ofNat_Int, j_bi0, j_bi1, not_true, not_false_eq_true, if_true, if_false, xe, xok_some, Sum.elim_inl, Sum.elim_inr, Int.reduceEq, Int.reduceLT, Int.reduceLE, Int.reduceAdd, Int.reduceSub, Int.reduceMul, eq_true c1, k0]) (by simp (disch := omega) only [Bool.false_eq_true, lits, jj, jc, jm, Int.cast_ofNat_Int, j_bi0, j_bi1, not_true, not_false_eq_true, if_true, if_false, xe, xok_some, Sum.elim_inl, Sum.elim_inr, Int.reduceEq, Int.reduceLT, Int.reduceLE, Int.reduceAdd, Int.reduceSub, Int.reduceMul, eq_true c1, k0, hA])
    by_cases k1 : w = 1
    · exact xS_ok (v := j32 (A iM_hasIt i)) (by simp (disch := omega) only [Bool.false_eq_true, lits, jj, jc, jm, Int.cast_ofNat_Int, j_bi0, j_bi1, not_true, not_false_eq_true, if_true, if_false, xe, xok_some, Sum.elim_inl, Sum.elim_inr, Int.reduceEq, Int.reduceLT, Int.reduceLE, Int.reduceAdd, Int.reduceSub, Int.reduceMul, eq_true c1, k0, k1]) (by simp (disch := omega) only [Bool.false_eq_true, lits, jj, jc, jm, Int.cast_ofNat_Int, j_bi0, j_bi1, not_true, not_false_eq_true, if_true, if_false, xe, xok_some, Sum.elim_inl, Sum.elim_inr, Int.reduceEq, Int.reduceLT, Int.reduceLE, Int.reduceAdd, Int.reduceSub, Int.reduceMul, eq_true c1, k0, k1, hA])
    by_cases k2 : w = 2
    · exact xS_ok (v := j32 (A iM_leftOf i)) (by simp (disch := omega) only [Bool.false_eq_true, lits, jj, jc, jm, Int.cast_ofNat_Int, j_bi0, j_bi1, not_true, not_false_eq_true, if_true, if_false, xe, xok_some, Sum.elim_inl, Sum.elim_inr, Int.reduceEq, Int.reduceLT, Int.reduceLE, Int.reduceAdd, Int.reduceSub, Int.reduceMul, eq_true c1, k0, k1, k2]) (by simp (disch := omega) only [Bool.false_eq_true, lits, jj, jc, jm, Int.cast_ofNat_Int, j_bi0, j_bi1, not_true, not_false_eq_true, if_true, if_false, xe, xok_some, Sum.elim_inl, Sum.elim_inr, Int.reduceEq, Int.reduceLT, Int.reduceLE, Int.reduceAdd, Int.reduceSub, Int.reduceMul, eq_true c1, k0, k1, k2, hA])
    by_cases k3 : w = 3
    · exact xS_ok (v := j32 (A iM_madeOn i)) (by simp (disch := omega) only [Bool.false_eq_true, lits, jj, jc, jm, Int.cast_ofNat_Int, j_bi0, j_bi1, not_true, not_false_eq_true, if_true, if_false, xe, xok_some, Sum.elim_inl, Sum.elim_inr, Int.reduceEq, Int.reduceLT, Int.reduceLE, Int.reduceAdd, Int.reduceSub, Int.reduceMul, eq_true c1, k0, k1, k2, k3]) (by simp (disch := omega) only [Bool.false_eq_true, lits, jj, jc, jm, Int.cast_ofNat_Int, j_bi0, j_bi1, not_true, not_false_eq_true, if_true, if_false, xe, xok_some, Sum.elim_inl, Sum.elim_inr, Int.reduceEq, Int.reduceLT, Int.reduceLE, Int.reduceAdd, Int.reduceSub, Int.reduceMul, eq_true c1, k0, k1, k2, k3, hA])
    by_cases k4 : w = 4
    · exact xS_ok (v := j32 (A iM_lapseOf i)) (by simp (disch := omega) only [Bool.false_eq_true, lits, jj, jc, jm, Int.cast_ofNat_Int, j_bi0, j_bi1, not_true, not_false_eq_true, if_true, if_false, xe, xok_some, Sum.elim_inl, Sum.elim_inr, Int.reduceEq, Int.reduceLT, Int.reduceLE, Int.reduceAdd, Int.reduceSub, Int.reduceMul, eq_true c1, k0, k1, k2, k3, k4]) (by simp (disch := omega) only [Bool.false_eq_true, lits, jj, jc, jm, Int.cast_ofNat_Int, j_bi0, j_bi1, not_true, not_false_eq_true, if_true, if_false, xe, xok_some, Sum.elim_inl, Sum.elim_inr, Int.reduceEq, Int.reduceLT, Int.reduceLE, Int.reduceAdd, Int.reduceSub, Int.reduceMul, eq_true c1, k0, k1, k2, k3, k4, hA])
    by_cases k5 : w = 5
    · by_cases c2 : aLive A i (A iM 0)
      · exact xS_ok (v := j32 1) (by simp (disch := omega) only [Bool.false_eq_true, lits, jj, jc, jm, Int.cast_ofNat_Int, j_bi0, j_bi1, not_true, not_false_eq_true, if_true, if_false, xe, xok_some, Sum.elim_inl, Sum.elim_inr, Int.reduceEq, Int.reduceLT, Int.reduceLE, Int.reduceAdd, Int.reduceSub, Int.reduceMul, eq_true c1, k0, k1, k2, k3, k4, k5, eq_true c2, and_self]) (by simp (disch := omega) only [Bool.false_eq_true, lits, jj, jc, jm, Int.cast_ofNat_Int, j_bi0, j_bi1, not_true, not_false_eq_true, if_true, if_false, xe, xok_some, Sum.elim_inl, Sum.elim_inr, Int.reduceEq, Int.reduceLT, Int.reduceLE, Int.reduceAdd, Int.reduceSub, Int.reduceMul, eq_true c1, k0, k1, k2, k3, k4, k5, eq_true c2, and_self])
      · exact xS_ok (v := j32 0) (by simp (disch := omega) only [Bool.false_eq_true, lits, jj, jc, jm, Int.cast_ofNat_Int, j_bi0, j_bi1, not_true, not_false_eq_true, if_true, if_false, xe, xok_some, Sum.elim_inl, Sum.elim_inr, Int.reduceEq, Int.reduceLT, Int.reduceLE, Int.reduceAdd, Int.reduceSub, Int.reduceMul, eq_true c1, k0, k1, k2, k3, k4, k5, eq_false c2, and_false]) (by simp (disch := omega) only [Bool.false_eq_true, lits, jj, jc, jm, Int.cast_ofNat_Int, j_bi0, j_bi1, not_true, not_false_eq_true, if_true, if_false, xe, xok_some, Sum.elim_inl, Sum.elim_inr, Int.reduceEq, Int.reduceLT, Int.reduceLE, Int.reduceAdd, Int.reduceSub, Int.reduceMul, eq_true c1, k0, k1, k2, k3, k4, k5, eq_false c2, and_false])
    · exact xS_ok (v := j32 (-1000)) (by simp (disch := omega) only [Bool.false_eq_true, lits, jj, jc, jm, Int.cast_ofNat_Int, j_bi0, j_bi1, not_true, not_false_eq_true, if_true, if_false, xe, xok_some, Sum.elim_inl, Sum.elim_inr, Int.reduceEq, Int.reduceLT, Int.reduceLE, Int.reduceAdd, Int.reduceSub, Int.reduceMul, eq_true c1, k0, k1, k2, k3, k4, k5]) (by simp (disch := omega) only [Bool.false_eq_true, lits, jj, jc, jm, Int.cast_ofNat_Int, j_bi0, j_bi1, not_true, not_false_eq_true, if_true, if_false, xe, xok_some, Sum.elim_inl, Sum.elim_inr, Int.reduceEq, Int.reduceLT, Int.reduceLE, Int.reduceAdd, Int.reduceSub, Int.reduceMul, eq_true c1, k0, k1, k2, k3, k4, k5])
  · exact xS_ok (v := j32 (-1000)) (by simp (disch := omega) only [Bool.false_eq_true, lits, jj, jc, jm, Int.cast_ofNat_Int, j_bi0, j_bi1, not_true, not_false_eq_true, if_true, if_false, xe, xok_some, Sum.elim_inl, Sum.elim_inr, Int.reduceEq, Int.reduceLT, Int.reduceLE, Int.reduceAdd, Int.reduceSub, Int.reduceMul, eq_false c1]) (by simp (disch := omega) only [Bool.false_eq_true, lits, jj, jc, jm, Int.cast_ofNat_Int, j_bi0, j_bi1, not_true, not_false_eq_true, if_true, if_false, xe, xok_some, Sum.elim_inl, Sum.elim_inr, Int.reduceEq, Int.reduceLT, Int.reduceLE, Int.reduceAdd, Int.reduceSub, Int.reduceMul, eq_false c1])

/-- a note is handed on -/
theorem s_hand {A : xAs} {μ : xm} {R : xr} {n : Nat} (hA : RH A μ) (hC : CH A μ R n) (hI : Inv A) (a1 a2 : Int32) : ∃ q, fX11_hand a1 a2 μ = some q ∧ ∃ q2, fX12_hand a1 a2 q.2 = some q2 ∧ q2.1 = q.1 ∧ xStp μ R n q2.2 := by
  obtain ⟨i, rfl, hi⟩ := j32_ex a1
  obtain ⟨p, rfl, hp⟩ := j32_ex a2
  have h0 := hI.now
  have h1 := hI.notes
  unfold fX11_hand fX12_hand
  simp only [lits, jj, Int.cast_ofNat_Int]
  rw [hC.now, eX4_isLive hC hI hi (by omega), eX11_isPerson hp, eX12_isPerson hp]
  by_cases c1 : isN A i ∧ aLive A i (A iM 0)
  · have hb : 0 ≤ i ∧ i < 60 := ⟨c1.1.1, by have := c1.1.2; omega⟩
    have b1 := hI.hasIt i c1.1.1 c1.1.2
    have b2 := hI.owesIt i c1.1.1 c1.1.2
    have b3 := hI.leftOf i c1.1.1 c1.1.2
    have e1 := eX4_holderOf hC hI c1.1
    by_cases c2 : 0 ≤ p ∧ p < 8
    · by_cases c3 : A iM_hasIt i = p
      · refine ⟨(j32 0, μ), ?_, (j32 0, μ), ?_, rfl, xStp.same hA hC hI⟩
        · simp (disch := omega) only [Bool.false_eq_true, lits, jj, jc, jm, Int.cast_ofNat_Int, j_bi0, j_bi1, not_true, not_false_eq_true, if_true, if_false, xe, xok_some, Sum.elim_inl, Sum.elim_inr, Int.reduceEq, Int.reduceLT, Int.reduceLE, Int.reduceAdd, Int.reduceSub, Int.reduceMul, eq_true c1, eq_true c2, e1, c3]
        · rw [eX12_isLive hA hI hi]; simp (disch := omega) only [Bool.false_eq_true, lits, jj, jc, jm, Int.cast_ofNat_Int, j_bi0, j_bi1, not_true, not_false_eq_true, if_true, if_false, xe, xok_some, Sum.elim_inl, Sum.elim_inr, Int.reduceEq, Int.reduceLT, Int.reduceLE, Int.reduceAdd, Int.reduceSub, Int.reduceMul, eq_true c1, eq_true c2, hA, c3]
      · obtain ⟨L, hL⟩ : ∃ L, (if A iM_owesIt i = p then 0 else A iM_leftOf i) = L := ⟨_, rfl⟩
        have hLb : 0 ≤ L ∧ L ≤ 1440 := by rw [← hL]; split <;> omega
        -- the class's memory
        obtain ⟨μ1, f1, g1, g2, g3⟩ : ∃ μ1, fX4_handTo (j32 i) (j32 p) μ = some μ1 ∧ (∀ o, o ≠ iC_notes_holders → o ≠ iC_notes_minutes → gi μ1 o = gi μ o) ∧ (∀ z, 0 ≤ z → gi μ1 iC_notes_holders z = if z = i then p else gi μ iC_notes_holders z) ∧ (∀ z, 0 ≤ z → gi μ1 iC_notes_minutes z = if z = i then L else gi μ iC_notes_minutes z) := by
          have e2 := hC.owers i c1.1.1 c1.1.2
          have e3 := hC.minutes i c1.1.1 c1.1.2
          by_cases c4 : A iM_owesIt i = p
          · refine ⟨wr (wr μ iC_notes_holders i p) iC_notes_minutes i 0, ?_, ?_, ?_, ?_⟩
            · unfold fX4_handTo
              rw [eX4_holds hC hI hi]
              simp (disch := omega) only [Bool.false_eq_true, lits, jj, jc, jm, Int.cast_ofNat_Int, j_bi0, j_bi1, not_true, not_false_eq_true, if_true, if_false, xe, xok_some, Sum.elim_inl, Sum.elim_inr, Int.reduceEq, Int.reduceLT, Int.reduceLE, Int.reduceAdd, Int.reduceSub, Int.reduceMul, eq_true c1.1]
              rw [gi_wr_o (by decide), e2]
              simp (disch := omega) only [Bool.false_eq_true, lits, jj, jc, jm, Int.cast_ofNat_Int, j_bi0, j_bi1, not_true, not_false_eq_true, if_true, if_false, xe, xok_some, Sum.elim_inl, Sum.elim_inr, Int.reduceEq, Int.reduceLT, Int.reduceLE, Int.reduceAdd, Int.reduceSub, Int.reduceMul, c4]
            · intro o h1 h2; rw [gi_wr_f h2, gi_wr_f h1]
            · intro z hz
              rw [gi_wr_o (by decide)]
              by_cases e : z = i
              · rw [if_pos e, e, gi_wr (by omega)]
              · rw [if_neg e, gi_wr_z (by omega)]
            · intro z hz
              by_cases e : z = i
              · rw [if_pos e, e, gi_wr (by omega), ← hL, if_pos c4]
              · rw [if_neg e, gi_wr_z (by omega), gi_wr_o (by decide)]
          · refine ⟨wr μ iC_notes_holders i p, ?_, ?_, ?_, ?_⟩
            · unfold fX4_handTo
              rw [eX4_holds hC hI hi]
              simp (disch := omega) only [Bool.false_eq_true, lits, jj, jc, jm, Int.cast_ofNat_Int, j_bi0, j_bi1, not_true, not_false_eq_true, if_true, if_false, xe, xok_some, Sum.elim_inl, Sum.elim_inr, Int.reduceEq, Int.reduceLT, Int.reduceLE, Int.reduceAdd, Int.reduceSub, Int.reduceMul, eq_true c1.1]
              rw [gi_wr_o (by decide), e2]
              simp (disch := omega) only [Bool.false_eq_true, lits, jj, jc, jm, Int.cast_ofNat_Int, j_bi0, j_bi1, not_true, not_false_eq_true, if_true, if_false, xe, xok_some, Sum.elim_inl, Sum.elim_inr, Int.reduceEq, Int.reduceLT, Int.reduceLE, Int.reduceAdd, Int.reduceSub, Int.reduceMul, c4]
            · intro o h1 h2; rw [gi_wr_f h1]
            · intro z hz
              by_cases e : z = i
              · rw [if_pos e, e, gi_wr (by omega)]
              · rw [if_neg e, gi_wr_z (by omega)]
            · intro z hz
              rw [gi_wr_o (by decide)]
              by_cases e : z = i
              · rw [if_pos e, e, e3, ← hL, if_neg c4]
              · rw [if_neg e]
        have hA1 : RH A μ1 := RH.keep hA (fun o h1 h2 => g1 o (by show o ≠ 30; omega) (by show o ≠ 31; omega))
        generalize hμ2 : wr (wr μ1 iM_hasIt i p) iM_leftOf i L = μ2
        refine ⟨(j32 1, μ1), ?_, (j32 1, μ2), ?_, rfl, ?_⟩
        · simp (disch := omega) only [Bool.false_eq_true, lits, jj, jc, jm, Int.cast_ofNat_Int, j_bi0, j_bi1, not_true, not_false_eq_true, if_true, if_false, xe, xok_some, Sum.elim_inl, Sum.elim_inr, Int.reduceEq, Int.reduceLT, Int.reduceLE, Int.reduceAdd, Int.reduceSub, Int.reduceMul, eq_true c1, eq_true c2, e1, c3, f1]
        · rw [eX12_isLive hA1 hI hi]
          have e4 : gi (wr μ1 iM_hasIt i p) iM_owesIt i = A iM_owesIt i := by rw [gi_wr_o (by decide), RH.at hA1 rfl]
          have e5 : gi (wr μ1 iM_hasIt i p) iM_leftOf i = A iM_leftOf i := by rw [gi_wr_o (by decide), RH.at hA1 rfl]
          by_cases c4 : A iM_owesIt i = p
          · rw [if_pos c4] at hL
            subst hL
            simp (disch := omega) only [Bool.false_eq_true, lits, jj, jc, jm, Int.cast_ofNat_Int, j_bi0, j_bi1, not_true, not_false_eq_true, if_true, if_false, xe, xok_some, Sum.elim_inl, Sum.elim_inr, Int.reduceEq, Int.reduceLT, Int.reduceLE, Int.reduceAdd, Int.reduceSub, Int.reduceMul, eq_true c1, eq_true c2, hA1, c3, e4, c4, hμ2]
          · rw [if_neg c4] at hL
            simp (disch := omega) only [Bool.false_eq_true, lits, jj, jc, jm, Int.cast_ofNat_Int, j_bi0, j_bi1, not_true, not_false_eq_true, if_true, if_false, xe, xok_some, Sum.elim_inl, Sum.elim_inr, Int.reduceEq, Int.reduceLT, Int.reduceLE, Int.reduceAdd, Int.reduceSub, Int.reduceMul, eq_true c1, eq_true c2, hA1, c3, e4, e5, c4]
            rw [hL, hμ2]
        · have g7 : ∀ o, o ≠ iM_hasIt → o ≠ iM_leftOf → gi μ2 o = gi μ1 o := fun o h1 h2 => by
            rw [← hμ2, gi_wr_f h2, gi_wr_f h1]
          refine ⟨LK.of (fun o ho => by rw [g7 o (by show o ≠ 85; omega) (by show o ≠ 86; omega), g1 o (by show o ≠ 30; omega) (by show o ≠ 31; omega)]), up (up A iM_hasIt i p) iM_leftOf i L, ?_, ?_, ?_⟩
          · rw [← hμ2]; exact RH.w_leftOf (RH.w_hasIt hA1 (by omega)) (by omega)
          · have u37 : up (up A iM_hasIt i p) iM_leftOf i L iM 37 = A iM 37 := by simp (disch := first | omega | decide) only [up_z, up_n, up_o]
            refine hC.u_notes (fun o h1 h2 h3 h4 h5 h6 h7 => ?_) (fun z hz e => ?_) (fun o h1 h2 h3 h4 h5 h6 => by rw [up_o h3, up_o h2]) (fun k hk e => by simp (disch := first | omega | decide) only [up_z, up_n, up_o]) ?_ ?_ ?_ ?_ ?_ ?_
            · rw [g7 o (by show o ≠ 85; omega) (by show o ≠ 86; omega), g1 o (by assumption) (by assumption)]
            · rw [g7 _ (by decide) (by decide), g1 _ (by decide) (by decide)]
            · rw [g7 _ (by decide) (by decide), g1 _ (by decide) (by decide), u37]; exact hC.notes
            · intro z hz hz2
              rw [u37] at hz2
              rw [g7 _ (by decide) (by decide), g1 _ (by decide) (by decide), up_o (by decide), up_o (by decide)]; exact hC.owers z hz hz2
            · intro z hz hz2
              rw [u37] at hz2
              rw [g7 _ (by decide) (by decide), g2 z hz, up_o (by decide)]
              by_cases e : z = i
              · rw [if_pos e, e, up_z]
              · rw [if_neg e, up_n (by omega)]; exact hC.holders z hz hz2
            · intro z hz hz2
              rw [u37] at hz2
              rw [g7 _ (by decide) (by decide), g3 z hz]
              by_cases e : z = i
              · rw [if_pos e, e, up_z]
              · rw [if_neg e, up_n (by omega), up_o (by decide)]; exact hC.minutes z hz hz2
            · intro z hz hz2
              rw [u37] at hz2
              rw [g7 _ (by decide) (by decide), g1 _ (by decide) (by decide), up_o (by decide), up_o (by decide)]; exact hC.made z hz hz2
            · intro z hz hz2
              rw [u37] at hz2
              rw [g7 _ (by decide) (by decide), g1 _ (by decide) (by decide), up_o (by decide), up_o (by decide)]; exact hC.lapses z hz hz2
          · have u37 : up (up A iM_hasIt i p) iM_leftOf i L iM 37 = A iM 37 := by simp (disch := first | omega | decide) only [up_z, up_n, up_o]
            refine hI.u_notes (fun o h1 h2 h3 h4 h5 h6 => by rw [up_o h3, up_o h2]) (fun k hk e => by simp (disch := first | omega | decide) only [up_z, up_n, up_o]) ?_ ?_ ?_ ?_ ?_ ?_ ?_
            · rw [u37]; exact h1
            · intro z hz hz2; rw [u37] at hz2; rw [up_o (by decide), up_o (by decide)]; exact hI.owesIt z hz hz2
            · intro z hz hz2; rw [u37] at hz2; rw [up_o (by decide)]
              by_cases e : z = i
              · rw [e, up_z]; omega
              · rw [up_n (by omega)]; exact hI.hasIt z hz hz2
            · intro z hz hz2; rw [u37] at hz2
              by_cases e : z = i
              · rw [e, up_z]; omega
              · rw [up_n (by omega), up_o (by decide)]; exact hI.leftOf z hz hz2
            · intro z hz hz2; rw [u37] at hz2; rw [up_o (by decide), up_o (by decide)]; exact hI.madeOn z hz hz2
            · intro z hz hz2; rw [u37] at hz2; rw [up_o (by decide), up_o (by decide)]; exact hI.lapseOf z hz hz2
            · intro z hz hz2; rw [u37] at hz2
              rw [up_o (o := iM_leftOf) (a := iM_owesIt) (by decide), up_o (o := iM_leftOf) (a := iM_hasIt) (by decide), up_o (o := iM_hasIt) (a := iM_owesIt) (by decide)]
              by_cases e : z = i
              · rw [e, up_z, up_z]; intro h; rw [← hL, if_pos h]
              · rw [up_n (by omega), up_n (by omega), up_o (by decide)]; exact hI.own z hz hz2
    · refine ⟨(j32 0, μ), ?_, (j32 0, μ), ?_, rfl, xStp.same hA hC hI⟩
      · simp (disch := omega) only [Bool.false_eq_true, lits, jj, jc, jm, Int.cast_ofNat_Int, j_bi0, j_bi1, not_true, not_false_eq_true, if_true, if_false, xe, xok_some, Sum.elim_inl, Sum.elim_inr, Int.reduceEq, Int.reduceLT, Int.reduceLE, Int.reduceAdd, Int.reduceSub, Int.reduceMul, eq_true c1, eq_false c2]
      · rw [eX12_isLive hA hI hi]; simp (disch := omega) only [Bool.false_eq_true, lits, jj, jc, jm, Int.cast_ofNat_Int, j_bi0, j_bi1, not_true, not_false_eq_true, if_true, if_false, xe, xok_some, Sum.elim_inl, Sum.elim_inr, Int.reduceEq, Int.reduceLT, Int.reduceLE, Int.reduceAdd, Int.reduceSub, Int.reduceMul, eq_true c1, eq_false c2]
  · refine ⟨(j32 0, μ), ?_, (j32 0, μ), ?_, rfl, xStp.same hA hC hI⟩
    · simp (disch := omega) only [Bool.false_eq_true, lits, jj, jc, jm, Int.cast_ofNat_Int, j_bi0, j_bi1, not_true, not_false_eq_true, if_true, if_false, xe, xok_some, Sum.elim_inl, Sum.elim_inr, Int.reduceEq, Int.reduceLT, Int.reduceLE, Int.reduceAdd, Int.reduceSub, Int.reduceMul, eq_false c1]
    · rw [eX12_isLive hA hI hi]; simp (disch := omega) only [Bool.false_eq_true, lits, jj, jc, jm, Int.cast_ofNat_Int, j_bi0, j_bi1, not_true, not_false_eq_true, if_true, if_false, xe, xok_some, Sum.elim_inl, Sum.elim_inr, Int.reduceEq, Int.reduceLT, Int.reduceLE, Int.reduceAdd, Int.reduceSub, Int.reduceMul, eq_false c1]
