/-! the facts of a case -/
def sLater (A : xAs) (m x : Int) : Int → Int := fun p => if inc (A iM_peopleOf m) p ∧ A iM_cameAt (8 * m + x) < A iM_cameAt (8 * m + p) then 1 else 0
theorem sLater_b {A : xAs} {m x : Int} {k : Nat} : 0 ≤ sumTo (sLater A m x) k ∧ sumTo (sLater A m x) k ≤ 1 * k := sumTo_b (fun z _ _ => by unfold sLater; split <;> omega)
def fF (A : xAs) (m x y : Int) : Nat → Int
  | 0 => sWait (cA A m) (A iM_minuteOf m) x y
  | 1 => sLate (cA A m) (A iM_minuteOf m) x
  | 2 => sLate (cA A m) (A iM_minuteOf m) y
  | 3 => pc (A iM_peopleOf m)
  | 4 => sBeg (A iM_peopleOf m) (cA A m) (A iM_minuteOf m) 8 - A iM_minuteOf m
  | 5 => if sBy A m x = -1 then 0 else 1
  | 6 => sumTo (sLater A m x) 8
  | 7 => A iM_minuteOf m / 60
  | 8 => A iM_dayOf m
  | 9 => x
  | 10 => y
  | 11 => A iM_worthOf (24 * y + A iM_minuteOf m / 60)
  | _ => 0
def fl12 : Nat → Int
  | 0 => 22
  | 1 => 0
  | 2 => 1
  | 3 => 13
  | 4 => 6
  | 5 => 10
  | 6 => 17
  | 7 => 7
  | 8 => 3
  | 9 => 23
  | 10 => 24
  | 11 => 21
  | _ => 0
def HFc (μ : xm) (F : Nat → Int) : Prop := ∀ i : Nat, i < 12 → gi μ iC_meetings_facts (fl12 i) = F i
def HFr (μ : xm) (F : Nat → Int) : Prop := ∀ i : Nat, i < 12 → gi μ iM_facts i = F i
def putC (μ : xm) (F : Nat → Int) : xm := wr (wr (wr (wr (wr (wr (wr (wr (wr (wr (wr (wr μ iC_meetings_facts 22 (F 0)) iC_meetings_facts 0 (F 1)) iC_meetings_facts 1 (F 2)) iC_meetings_facts 13 (F 3)) iC_meetings_facts 6 (F 4)) iC_meetings_facts 10 (F 5)) iC_meetings_facts 17 (F 6)) iC_meetings_facts 7 (F 7)) iC_meetings_facts 3 (F 8)) iC_meetings_facts 23 (F 9)) iC_meetings_facts 24 (F 10)) iC_meetings_facts 21 (F 11)
def putR (μ : xm) (F : Nat → Int) : xm := wr (wr (wr (wr (wr (wr (wr (wr (wr (wr (wr (wr μ iM_facts 0 (F 0)) iM_facts 1 (F 1)) iM_facts 2 (F 2)) iM_facts 3 (F 3)) iM_facts 4 (F 4)) iM_facts 5 (F 5)) iM_facts 6 (F 6)) iM_facts 7 (F 7)) iM_facts 8 (F 8)) iM_facts 9 (F 9)) iM_facts 10 (F 10)) iM_facts 11 (F 11)
theorem putC_o {μ : xm} {F : Nat → Int} {o : Nat} (h : o ≠ iC_meetings_facts) : gi (putC μ F) o = gi μ o := by
  unfold putC
  rw [gi_wr_f h, gi_wr_f h, gi_wr_f h, gi_wr_f h, gi_wr_f h, gi_wr_f h, gi_wr_f h, gi_wr_f h, gi_wr_f h, gi_wr_f h, gi_wr_f h, gi_wr_f h]
theorem putR_o {μ : xm} {F : Nat → Int} {o : Nat} (h : o ≠ iM_facts) : gi (putR μ F) o = gi μ o := by
  unfold putR
  rw [gi_wr_f h, gi_wr_f h, gi_wr_f h, gi_wr_f h, gi_wr_f h, gi_wr_f h, gi_wr_f h, gi_wr_f h, gi_wr_f h, gi_wr_f h, gi_wr_f h, gi_wr_f h]
theorem lt12 {i : Nat} (h : i < 12) : i = 0 ∨ i = 1 ∨ i = 2 ∨ i = 3 ∨ i = 4 ∨ i = 5 ∨ i = 6 ∨ i = 7 ∨ i = 8 ∨ i = 9 ∨ i = 10 ∨ i = 11 := by omega
theorem putC_F {μ : xm} {F : Nat → Int} (h : ∀ i, i < 12 → -2147483648 ≤ F i ∧ F i < 2147483648) : HFc (putC μ F) F := by
  have h0 := h 0 (by omega)
  have h1 := h 1 (by omega)
  have h2 := h 2 (by omega)
  have h3 := h 3 (by omega)
  have h4 := h 4 (by omega)
  have h5 := h 5 (by omega)
  have h6 := h 6 (by omega)
  have h7 := h 7 (by omega)
  have h8 := h 8 (by omega)
  have h9 := h 9 (by omega)
  have h10 := h 10 (by omega)
  have h11 := h 11 (by omega)
  intro i hi
  unfold putC
  rcases lt12 hi with rfl | rfl | rfl | rfl | rfl | rfl | rfl | rfl | rfl | rfl | rfl | rfl
  all_goals simp only [fl12]
  all_goals simp (disch := omega) only [gi_wr, gi_wr_z]
theorem putR_F {μ : xm} {F : Nat → Int} (h : ∀ i, i < 12 → -2147483648 ≤ F i ∧ F i < 2147483648) : HFr (putR μ F) F := by
  have h0 := h 0 (by omega)
  have h1 := h 1 (by omega)
  have h2 := h 2 (by omega)
  have h3 := h 3 (by omega)
  have h4 := h 4 (by omega)
  have h5 := h 5 (by omega)
  have h6 := h 6 (by omega)
  have h7 := h 7 (by omega)
  have h8 := h 8 (by omega)
  have h9 := h 9 (by omega)
  have h10 := h 10 (by omega)
  have h11 := h 11 (by omega)
  intro i hi
  unfold putR
  rcases lt12 hi with rfl | rfl | rfl | rfl | rfl | rfl | rfl | rfl | rfl | rfl | rfl | rfl
  all_goals simp only [Int.cast_ofNat_Int, show ((0 : Nat) : Int) = 0 from rfl, show ((1 : Nat) : Int) = 1 from rfl]
  all_goals simp (disch := omega) only [gi_wr, gi_wr_z]
abbrev isCase (A : xAs) (m x y : Int) : Prop := (0 ≤ m ∧ m < A iM 1) ∧ inc (A iM_peopleOf m) x ∧ inc (A iM_peopleOf m) y ∧ x ≠ y ∧ sAll (A iM_peopleOf m) (cA A m) 8 = true
theorem sLate_b {A : xAs} (hI : Inv A) {m x : Int} (hm : 0 ≤ m ∧ m < A iM 1) (hx : 0 ≤ x ∧ x < 8) : 0 ≤ sLate (cA A m) (A iM_minuteOf m) x ∧ sLate (cA A m) (A iM_minuteOf m) x ≤ 1439 := by
  have h1 := hI.minuteOf m hm.1 hm.2
  have h2 := cA_b hI hm x hx.1 hx.2
  unfold sLate; split <;> omega
theorem sWait_b {A : xAs} (hI : Inv A) {m x y : Int} (hm : 0 ≤ m ∧ m < A iM 1) (hx : 0 ≤ x ∧ x < 8) (hy : 0 ≤ y ∧ y < 8) : 0 ≤ sWait (cA A m) (A iM_minuteOf m) x y ∧ sWait (cA A m) (A iM_minuteOf m) x y ≤ 1439 := by
  have h1 := hI.minuteOf m hm.1 hm.2
  have h2 := cA_b hI hm x hx.1 hx.2
  have h3 := cA_b hI hm y hy.1 hy.2
  unfold sWait; repeat' split
  all_goals omega
theorem fF_b {A : xAs} (hI : Inv A) {m x y : Int} (h : isCase A m x y) : ∀ i, i < 12 → -2147483648 ≤ fF A m x y i ∧ fF A m x y i < 2147483648 := by
  have hm := h.1
  have hx : 0 ≤ x ∧ x < 8 := ⟨h.2.1.1, h.2.1.2.1⟩
  have hy : 0 ≤ y ∧ y < 8 := ⟨h.2.2.1.1, h.2.2.1.2.1⟩
  have h1 := hI.minuteOf m hm.1 hm.2
  have h2 := hI.dayOf m hm.1 hm.2
  have h3 := sBeg_b (P := A iM_peopleOf m) (M := A iM_minuteOf m) h1 (cA_b hI hm) 8 (by omega)
  have h4 := sWait_b hI hm hx hy
  have h5 := sLate_b hI hm hx
  have h6 := sLate_b hI hm hy
  have h7 := pc_b (A iM_peopleOf m)
  have h8 := sLater_b (A := A) (m := m) (x := x) (k := 8)
  have h9 := hI.worthOf (24 * y + A iM_minuteOf m / 60) (by omega) (by omega)
  intro i hi
  rcases lt12 hi with rfl | rfl | rfl | rfl | rfl | rfl | rfl | rfl | rfl | rfl | rfl | rfl
  all_goals simp only [fF]
  all_goals first | omega | (split <;> omega)
theorem eX11_isCase {A : xAs} {μ : xm} {R : xr} {n : Nat} (hC : CH A μ R n) (hI : Inv A) {m x y : Int} (hm : -2147483648 ≤ m ∧ m < 2147483648) (hx : -2147483648 ≤ x ∧ x < 2147483648) (hy : -2147483648 ≤ y ∧ y < 2147483648) : fX11_isCase (j32 m) (j32 x) (j32 y) μ R = some (j32 (bi (isCase A m x y))) := by
  unfold fX11_isCase
  rw [eX3_find hC hI hm]
  by_cases c1 : 0 ≤ m ∧ m < A iM 1
  · have e1 := eC_includes hC hI c1 hx
    have e2 := eC_includes hC hI c1 hy
    have e3 := eC_start hC hI c1
    have h1 := hI.minuteOf m c1.1 c1.2
    have h3 := sBeg_b (P := A iM_peopleOf m) (M := A iM_minuteOf m) h1 (cA_b hI c1) 8 (by omega)
    by_cases c2 : x = y
    · simp (disch := omega) only [Bool.false_eq_true, lits, jj, jc, jm, Int.cast_ofNat_Int, j_bi0, j_bi1, not_true, not_false_eq_true, if_true, if_false, xe, xok_some, Sum.elim_inl, Sum.elim_inr, Int.reduceEq, Int.reduceLT, Int.reduceLE, Int.reduceAdd, Int.reduceSub, Int.reduceMul, eq_true c1, eq_true c2]
      rw [show bi (isCase A m x y) = 0 from if_neg (fun h => h.2.2.2.1 c2)]
    · by_cases c3 : inc (A iM_peopleOf m) x
      · by_cases c4 : inc (A iM_peopleOf m) y
        · by_cases c5 : sAll (A iM_peopleOf m) (cA A m) 8 = true
          · rw [if_pos c5] at e3
            simp (disch := omega) only [Bool.false_eq_true, lits, jj, jc, jm, Int.cast_ofNat_Int, j_bi0, j_bi1, not_true, not_false_eq_true, if_true, if_false, xe, xok_some, Sum.elim_inl, Sum.elim_inr, Int.reduceEq, Int.reduceLT, Int.reduceLE, Int.reduceAdd, Int.reduceSub, Int.reduceMul, eq_true c1, c2, e1, eq_true c3, e2, eq_true c4, e3, show ¬ sBeg (A iM_peopleOf m) (cA A m) (A iM_minuteOf m) 8 = -1 by omega]
            rw [show bi (isCase A m x y) = 1 from if_pos ⟨c1, c3, c4, c2, c5⟩]
          · rw [if_neg c5] at e3
            simp (disch := omega) only [Bool.false_eq_true, lits, jj, jc, jm, Int.cast_ofNat_Int, j_bi0, j_bi1, not_true, not_false_eq_true, if_true, if_false, xe, xok_some, Sum.elim_inl, Sum.elim_inr, Int.reduceEq, Int.reduceLT, Int.reduceLE, Int.reduceAdd, Int.reduceSub, Int.reduceMul, eq_true c1, c2, e1, eq_true c3, e2, eq_true c4, e3]
            rw [show bi (isCase A m x y) = 0 from if_neg (fun h => c5 h.2.2.2.2)]
        · simp (disch := omega) only [Bool.false_eq_true, lits, jj, jc, jm, Int.cast_ofNat_Int, j_bi0, j_bi1, not_true, not_false_eq_true, if_true, if_false, xe, xok_some, Sum.elim_inl, Sum.elim_inr, Int.reduceEq, Int.reduceLT, Int.reduceLE, Int.reduceAdd, Int.reduceSub, Int.reduceMul, eq_true c1, c2, e1, eq_true c3, e2, eq_false c4]
          rw [show bi (isCase A m x y) = 0 from if_neg (fun h => c4 h.2.2.1)]
      · simp (disch := omega) only [Bool.false_eq_true, lits, jj, jc, jm, Int.cast_ofNat_Int, j_bi0, j_bi1, not_true, not_false_eq_true, if_true, if_false, xe, xok_some, Sum.elim_inl, Sum.elim_inr, Int.reduceEq, Int.reduceLT, Int.reduceLE, Int.reduceAdd, Int.reduceSub, Int.reduceMul, eq_true c1, c2, e1, eq_false c3]
        rw [show bi (isCase A m x y) = 0 from if_neg (fun h => c3 h.2.1)]
  · simp (disch := omega) only [Bool.false_eq_true, lits, jj, jc, jm, Int.cast_ofNat_Int, j_bi0, j_bi1, not_true, not_false_eq_true, if_true, if_false, xe, xok_some, Sum.elim_inl, Sum.elim_inr, Int.reduceEq, Int.reduceLT, Int.reduceLE, Int.reduceAdd, Int.reduceSub, Int.reduceMul, eq_false c1]
    rw [show bi (isCase A m x y) = 0 from if_neg (fun h => c1 h.1)]
theorem eX12_areTwo {A : xAs} {μ : xm} (hA : RH A μ) (hI : Inv A) {m x y : Int} (hm : -2147483648 ≤ m ∧ m < 2147483648) (hx : -2147483648 ≤ x ∧ x < 2147483648) (hy : -2147483648 ≤ y ∧ y < 2147483648) : fX12_areTwo (j32 m) (j32 x) (j32 y) μ = some (j32 (bi (isCase A m x y))) := by
  unfold fX12_areTwo
  rw [eX12_isOf hA hI hm hx, eX12_isOf hA hI hm hy]
  by_cases c1 : isOf A m x
  · by_cases c2 : isOf A m y
    · have e3 := eX12_allCame hA hI c1.1
      by_cases c3 : x = y
      · simp (disch := omega) only [Bool.false_eq_true, lits, jj, jc, jm, Int.cast_ofNat_Int, j_bi0, j_bi1, not_true, not_false_eq_true, if_true, if_false, xe, xok_some, Sum.elim_inl, Sum.elim_inr, Int.reduceEq, Int.reduceLT, Int.reduceLE, Int.reduceAdd, Int.reduceSub, Int.reduceMul, eq_true c1, eq_true c2, eq_true c3]
        rw [show bi (isCase A m x y) = 0 from if_neg (fun h => h.2.2.2.1 c3)]
      · by_cases c5 : sAll (A iM_peopleOf m) (cA A m) 8 = true
        · simp (disch := omega) only [Bool.false_eq_true, lits, jj, jc, jm, Int.cast_ofNat_Int, j_bi0, j_bi1, not_true, not_false_eq_true, if_true, if_false, xe, xok_some, Sum.elim_inl, Sum.elim_inr, Int.reduceEq, Int.reduceLT, Int.reduceLE, Int.reduceAdd, Int.reduceSub, Int.reduceMul, eq_true c1, eq_true c2, c3, e3, eq_true c5]
          rw [show bi (isCase A m x y) = 1 from if_pos ⟨c1.1, c1.2, c2.2, c3, c5⟩]
        · simp (disch := omega) only [Bool.false_eq_true, lits, jj, jc, jm, Int.cast_ofNat_Int, j_bi0, j_bi1, not_true, not_false_eq_true, if_true, if_false, xe, xok_some, Sum.elim_inl, Sum.elim_inr, Int.reduceEq, Int.reduceLT, Int.reduceLE, Int.reduceAdd, Int.reduceSub, Int.reduceMul, eq_true c1, eq_true c2, c3, e3, eq_false c5]
          rw [show bi (isCase A m x y) = 0 from if_neg (fun h => c5 h.2.2.2.2)]
    · simp (disch := omega) only [Bool.false_eq_true, lits, jj, jc, jm, Int.cast_ofNat_Int, j_bi0, j_bi1, not_true, not_false_eq_true, if_true, if_false, xe, xok_some, Sum.elim_inl, Sum.elim_inr, Int.reduceEq, Int.reduceLT, Int.reduceLE, Int.reduceAdd, Int.reduceSub, Int.reduceMul, eq_true c1, eq_false c2]
      rw [show bi (isCase A m x y) = 0 from if_neg (fun h => c2 ⟨h.1, h.2.2.1⟩)]
  · simp (disch := omega) only [Bool.false_eq_true, lits, jj, jc, jm, Int.cast_ofNat_Int, j_bi0, j_bi1, not_true, not_false_eq_true, if_true, if_false, xe, xok_some, Sum.elim_inl, Sum.elim_inr, Int.reduceEq, Int.reduceLT, Int.reduceLE, Int.reduceAdd, Int.reduceSub, Int.reduceMul, eq_false c1]
    rw [show bi (isCase A m x y) = 0 from if_neg (fun h => c1 ⟨h.1, h.2.1⟩)]
