/-! the law as it is kept; owes -/
abbrev Lok (L b : Int) : Prop := (L = 111 ∧ b = 1440) ∨ (L = 112 ∧ b = 100) ∨ (L = 108 ∧ b = 100)
def LawC (μ : xm) (R : xr) (V : Int → (Nat → Int) → Int) : Prop := ∃ o, R iC_reader 1 = some o ∧ (o = 5 ∨ o = 12) ∧ gi μ o 6 = gi μ iM 20 ∧ ∀ μ' F, (∀ j, o ≤ j → j ≤ o + 5 → gi μ' j = gi μ j) → HFc μ' F → ∀ L b, Lok L b → ∃ ν, fX0_amount o (j32 L) (j32 b) iC_meetings_facts μ' = some (j32 (V L F), ν) ∧ gi ν = gi μ'
def LawR (μ : xm) (V : Int → (Nat → Int) → Int) : Prop := ∀ μ' F, (∀ j, 75 ≤ j → j ≤ 79 → gi μ' j = gi μ j) → gi μ' iM 20 = gi μ iM 20 → HFr μ' F → ∀ L b, Lok L b → ∃ ν, fX12_byLaw (j32 L) (j32 b) μ' = some (j32 (V L F), ν) ∧ ∀ o, o ≠ iM_stack → gi ν o = gi μ' o
def Law (V : Int → (Nat → Int) → Int) (μ : xm) (R : xr) : Prop := LawC μ R V ∧ LawR μ V ∧ ∀ L b F, Lok L b → 0 ≤ V L F ∧ V L F ≤ b
theorem Law.keep {V : Int → (Nat → Int) → Int} {μ μ' : xm} {R R' : xr} (h : Law V μ R) (hk : LK μ μ') (hR : R' iC_reader 1 = R iC_reader 1) : Law V μ' R' := by
  obtain ⟨⟨o, h1, h2, h3, h4⟩, h5, h6⟩ := h
  refine ⟨⟨o, hR.trans h1, h2, ?_, fun ν F hν hF => h4 ν F (fun j a b => (hν j a b).trans (hk.1 j (by omega))) hF⟩, fun ν F hν e hF => h5 ν F (fun j a b => (hν j a b).trans (hk.1 j (by omega))) (e.trans hk.2) hF, h6⟩
  rw [hk.1 o (by omega), hk.2]; exact h3
theorem RH_st {A : xAs} {μ ν : xm} (hA : RH A μ) (h : ∀ o, o ≠ iM_stack → gi ν o = gi μ o) : RH A ν :=
  RH.mk (fun o ho => (h o (by rintro rfl; exact absurd ho (by decide))).trans (RH.at hA ho)) (by rw [h iM (by decide)]; exact RH.sc hA)
/-- what the law says, both ways -/
theorem lawC_ok {V : Int → (Nat → Int) → Int} {A : xAs} {μ : xm} {R : xr} {n : Nat} (hL : Law V μ R) (hC : CH A μ R n) {F : Nat → Int} (hF : HFc μ F) {L b : Int} (hl : Lok L b) : ∃ o, fX1_current μ R = some (some o) ∧ ∃ ν, fX0_amount o (j32 L) (j32 b) iC_meetings_facts μ = some (j32 (V L F), ν) ∧ gi ν = gi μ := by
  obtain ⟨⟨o, h1, h2, h3, h4⟩, h5, h6⟩ := hL
  obtain ⟨ν, e, g⟩ := h4 μ F (fun _ _ _ => rfl) hF L b hl
  refine ⟨o, ?_, ν, e, g⟩
  unfold fX1_current
  first | (rw [h1]; rfl) | rw [h1]
theorem eC_owed {V : Int → (Nat → Int) → Int} {A : xAs} {μ : xm} {R : xr} {n : Nat} (hL : Law V μ R) (hC : CH A μ R n) {F : Nat → Int} (hF : HFc μ F) : ∃ ν, fX11_minutesOwed iC_meetings_facts μ R = some (j32 (V 111 F), ν) ∧ gi ν = gi μ := by
  obtain ⟨o, h1, ν, h2, h3⟩ := lawC_ok hL hC hF (L := 111) (b := 1440) (Or.inl ⟨rfl, rfl⟩)
  refine ⟨ν, ?_, h3⟩
  unfold fX11_minutesOwed
  simp (disch := omega) only [Bool.false_eq_true, lits, jj, jc, jm, Int.cast_ofNat_Int, j_bi0, j_bi1, not_true, not_false_eq_true, if_true, if_false, xe, xok_some, Sum.elim_inl, Sum.elim_inr, Int.reduceEq, Int.reduceLT, Int.reduceLE, Int.reduceAdd, Int.reduceSub, Int.reduceMul, h1, h2]
theorem eC_hund {V : Int → (Nat → Int) → Int} {A : xAs} {μ : xm} {R : xr} {n : Nat} (hL : Law V μ R) (hC : CH A μ R n) {F : Nat → Int} (hF : HFc μ F) : ∃ ν, fX11_hundredths iC_meetings_facts μ R = some (j32 (V 112 F), ν) ∧ gi ν = gi μ := by
  obtain ⟨o, h1, ν, h2, h3⟩ := lawC_ok hL hC hF (L := 112) (b := 100) (Or.inr (Or.inl ⟨rfl, rfl⟩))
  refine ⟨ν, ?_, h3⟩
  unfold fX11_hundredths
  simp (disch := omega) only [Bool.false_eq_true, lits, jj, jc, jm, Int.cast_ofNat_Int, j_bi0, j_bi1, not_true, not_false_eq_true, if_true, if_false, xe, xok_some, Sum.elim_inl, Sum.elim_inr, Int.reduceEq, Int.reduceLT, Int.reduceLE, Int.reduceAdd, Int.reduceSub, Int.reduceMul, h1, h2]
theorem eC_lapse {V : Int → (Nat → Int) → Int} {A : xAs} {μ : xm} {R : xr} {n : Nat} (hL : Law V μ R) (hC : CH A μ R n) {F : Nat → Int} (hF : HFc μ F) : ∃ ν, fX11_daysToLapse iC_meetings_facts μ R = some (j32 (V 108 F), ν) ∧ gi ν = gi μ := by
  obtain ⟨o, h1, ν, h2, h3⟩ := lawC_ok hL hC hF (L := 108) (b := 100) (Or.inr (Or.inr ⟨rfl, rfl⟩))
  refine ⟨ν, ?_, h3⟩
  unfold fX11_daysToLapse
  simp (disch := omega) only [Bool.false_eq_true, lits, jj, jc, jm, Int.cast_ofNat_Int, j_bi0, j_bi1, not_true, not_false_eq_true, if_true, if_false, xe, xok_some, Sum.elim_inl, Sum.elim_inr, Int.reduceEq, Int.reduceLT, Int.reduceLE, Int.reduceAdd, Int.reduceSub, Int.reduceMul, h1, h2]
def wL (w : Int) : Int := if w = 0 then 111 else if w = 1 then 112 else 108
/-- what the reference writes when it asks the law -/
def SR (μ ν : xm) : Prop := ∀ o, o ≠ iM_stack → o ≠ iM_facts → gi ν o = gi μ o
theorem eX12_owesBy {V : Int → (Nat → Int) → Int} {A : xAs} {μ : xm} {R : xr} (hL : Law V μ R) (hA : RH A μ) (hI : Inv A) {m x y w : Int} (h : isCase A m x y) (hw : 0 ≤ w ∧ w ≤ 2) : ∃ ν, fX12_owesBy (j32 m) (j32 x) (j32 y) (j32 w) μ = some (j32 (V (wL w) (fF A m x y)), ν) ∧ RH A ν ∧ SR μ ν := by
  obtain ⟨e1, hA1⟩ := feels_ok hA hI h
  have hF := putR_F (μ := μ) (fF_b hI h)
  obtain ⟨b, hl⟩ : ∃ b, Lok (wL w) b ∧ b = if w = 0 then 1440 else 100 := by
    unfold wL
    by_cases c : w = 0
    · exact ⟨1440, Or.inl ⟨if_pos c, rfl⟩, by rw [if_pos c]⟩
    · by_cases d : w = 1
      · exact ⟨100, Or.inr (Or.inl ⟨by rw [if_neg c, if_pos d], rfl⟩), by rw [if_neg c]⟩
      · exact ⟨100, Or.inr (Or.inr ⟨by rw [if_neg c, if_neg d], rfl⟩), by rw [if_neg c]⟩
  obtain ⟨ν, e2, g2⟩ := hL.2.1 (putR μ (fF A m x y)) (fF A m x y) (fun j h1 h2 => putR_o (by show j ≠ 81; omega)) (by rw [putR_o (by decide)]) hF (wL w) b hl.1
  refine ⟨ν, ?_, RH_st hA1 g2, fun o h1 h2 => (g2 o h1).trans (putR_o h2)⟩
  unfold fX12_owesBy
  rw [hl.2] at e2
  unfold wL at e2 ⊢
  by_cases c : w = 0
  · rw [if_pos c] at *
    rw [if_pos c] at e2
    simp (disch := omega) only [Bool.false_eq_true, lits, jj, jc, jm, Int.cast_ofNat_Int, j_bi0, j_bi1, not_true, not_false_eq_true, if_true, if_false, xe, xok_some, Sum.elim_inl, Sum.elim_inr, Int.reduceEq, Int.reduceLT, Int.reduceLE, Int.reduceAdd, Int.reduceSub, Int.reduceMul, e1, c, e2]
  · by_cases d : w = 1
    · rw [if_neg c] at *
      rw [if_neg c, if_pos d] at e2
      rw [if_pos d]
      simp (disch := omega) only [Bool.false_eq_true, lits, jj, jc, jm, Int.cast_ofNat_Int, j_bi0, j_bi1, not_true, not_false_eq_true, if_true, if_false, xe, xok_some, Sum.elim_inl, Sum.elim_inr, Int.reduceEq, Int.reduceLT, Int.reduceLE, Int.reduceAdd, Int.reduceSub, Int.reduceMul, e1, d, e2]
    · rw [if_neg c] at *
      rw [if_neg c, if_neg d] at e2
      rw [if_neg d]
      simp (disch := omega) only [Bool.false_eq_true, lits, jj, jc, jm, Int.cast_ofNat_Int, j_bi0, j_bi1, not_true, not_false_eq_true, if_true, if_false, xe, xok_some, Sum.elim_inl, Sum.elim_inr, Int.reduceEq, Int.reduceLT, Int.reduceLE, Int.reduceAdd, Int.reduceSub, Int.reduceMul, e1, c, d, e2]
