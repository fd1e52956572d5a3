/-! Notes: a note more, cut, take, owed -/
def addC (μ : xm) (k a b c d e : Int) : xm := wr (wr (wr (wr (wr (wr μ iC_notes_owers k a) iC_notes_holders k b) iC_notes_minutes k c) iC_notes_made k d) iC_notes_lapses k e) iC_notes 6 (k + 1)
def addM (μ : xm) (k a b c d e : Int) : xm := wr (wr (wr (wr (wr (wr μ iM_owesIt k a) iM_hasIt k b) iM_leftOf k c) iM_madeOn k d) iM_lapseOf k e) iM 37 (k + 1)
def addA (A : xAs) (k a b c d e : Int) : xAs := up (up (up (up (up (up A iM_owesIt k a) iM_hasIt k b) iM_leftOf k c) iM_madeOn k d) iM_lapseOf k e) iM 37 (k + 1)
/-- numbers that a note may hold -/
abbrev okN (a b c d e : Int) : Prop := (0 ≤ a ∧ a < 8) ∧ (0 ≤ b ∧ b < 8) ∧ (0 ≤ c ∧ c ≤ 1440) ∧ (0 ≤ d ∧ d ≤ 99) ∧ (-1 ≤ e ∧ e ≤ 199) ∧ (a = b → c = 0)
theorem eX4_add {A : xAs} {μ : xm} {R : xr} {n : Nat} (hC : CH A μ R n) (hI : Inv A) {a b c d e : Int} (h : A iM 37 < 60) : fX4_add (j32 a) (j32 b) (j32 c) (j32 d) (j32 e) μ = some (j32 (A iM 37), addC μ (A iM 37) a b c d e) := by
  have h1 := hI.notes
  have e1 := hC.notes
  unfold fX4_add addC
  simp (disch := omega) only [Bool.false_eq_true, lits, jj, jc, jm, Int.cast_ofNat_Int, j_bi0, j_bi1, not_true, not_false_eq_true, if_true, if_false, xe, xok_some, Sum.elim_inl, Sum.elim_inr, Int.reduceEq, Int.reduceLT, Int.reduceLE, Int.reduceAdd, Int.reduceSub, Int.reduceMul, e1, show ¬ A iM 37 < 0 by omega, h]
  simp (disch := first | omega | decide) only [Bool.false_eq_true, lits, jj, jc, jm, Int.cast_ofNat_Int, j_bi0, j_bi1, not_true, not_false_eq_true, if_true, if_false, xe, xok_some, Sum.elim_inl, Sum.elim_inr, Int.reduceEq, Int.reduceLT, Int.reduceLE, Int.reduceAdd, Int.reduceSub, Int.reduceMul, gi_wr_o, e1]
  simp (disch := first | omega | decide) only [Bool.false_eq_true, lits, jj, jc, jm, Int.cast_ofNat_Int, j_bi0, j_bi1, not_true, not_false_eq_true, if_true, if_false, xe, xok_some, Sum.elim_inl, Sum.elim_inr, Int.reduceEq, Int.reduceLT, Int.reduceLE, Int.reduceAdd, Int.reduceSub, Int.reduceMul, gi_wr]
  rw [show A iM 37 + 1 - 1 = A iM 37 by omega]
theorem eX4_addFull {A : xAs} {μ : xm} {R : xr} {n : Nat} (hC : CH A μ R n) {a b c d e : Int} (h : A iM 37 = 60) : fX4_add (j32 a) (j32 b) (j32 c) (j32 d) (j32 e) μ = some (j32 (-1), μ) := by
  have e1 := hC.notes
  unfold fX4_add
  simp (disch := omega) only [Bool.false_eq_true, lits, jj, jc, jm, Int.cast_ofNat_Int, j_bi0, j_bi1, not_true, not_false_eq_true, if_true, if_false, xe, xok_some, Sum.elim_inl, Sum.elim_inr, Int.reduceEq, Int.reduceLT, Int.reduceLE, Int.reduceAdd, Int.reduceSub, Int.reduceMul, e1, h]
theorem eX12_makes {A : xAs} {μ : xm} (hA : RH A μ) (hI : Inv A) {a b c d e : Int} (h : A iM 37 < 60) : fX12_makes (j32 a) (j32 b) (j32 c) (j32 d) (j32 e) μ = some (addM μ (A iM 37) a b c d e) := by
  have h1 := hI.notes
  have e1 : gi μ iM 37 = A iM 37 := (RH.sc hA).2.2.2.2.2.2.1
  unfold fX12_makes addM
  simp (disch := omega) only [Bool.false_eq_true, lits, jj, jc, jm, Int.cast_ofNat_Int, j_bi0, j_bi1, not_true, not_false_eq_true, if_true, if_false, xe, xok_some, Sum.elim_inl, Sum.elim_inr, Int.reduceEq, Int.reduceLT, Int.reduceLE, Int.reduceAdd, Int.reduceSub, Int.reduceMul, e1]
  simp (disch := first | omega | decide) only [Bool.false_eq_true, lits, jj, jc, jm, Int.cast_ofNat_Int, j_bi0, j_bi1, not_true, not_false_eq_true, if_true, if_false, xe, xok_some, Sum.elim_inl, Sum.elim_inr, Int.reduceEq, Int.reduceLT, Int.reduceLE, Int.reduceAdd, Int.reduceSub, Int.reduceMul, gi_wr_o, e1]
theorem addM_RH {A : xAs} {μ : xm} (hA : RH A μ) (h : 0 ≤ A iM 37 ∧ A iM 37 < 60) {a b c d e : Int} (ho : okN a b c d e) : RH (addA A (A iM 37) a b c d e) (addM μ (A iM 37) a b c d e) := by
  obtain ⟨h1, h2, h3, h4, h5, h6⟩ := ho
  exact RH.f_37 (RH.w_lapseOf (RH.w_madeOn (RH.w_leftOf (RH.w_hasIt (RH.w_owesIt hA (by omega)) (by omega)) (by omega)) (by omega)) (by omega)) (by omega)
theorem addM_o {μ : xm} {k a b c d e : Int} {o : Nat} (h : o < 61 ∨ 107 ≤ o) : gi (addM μ k a b c d e) o = gi μ o := by
  unfold addM
  rw [gi_wr_f (by show o ≠ 61; omega), gi_wr_f (by show o ≠ 88; omega), gi_wr_f (by show o ≠ 87; omega), gi_wr_f (by show o ≠ 86; omega), gi_wr_f (by show o ≠ 85; omega), gi_wr_f (by show o ≠ 84; omega)]
theorem addM_LK {μ : xm} {k a b c d e : Int} : LK μ (addM μ k a b c d e) := by
  unfold addM
  exact (((((LK.w_ (by decide)).tr (LK.w_ (by decide))).tr (LK.w_ (by decide))).tr (LK.w_ (by decide))).tr (LK.w_ (by decide))).tr (LK.w_f (by omega))
theorem addC_LK {μ : xm} {k a b c d e : Int} : LK μ (addC μ k a b c d e) := by
  unfold addC
  exact (((((LK.w_ (by decide)).tr (LK.w_ (by decide))).tr (LK.w_ (by decide))).tr (LK.w_ (by decide))).tr (LK.w_ (by decide))).tr (LK.w_ (by decide))
theorem addC_f {μ : xm} {k a b c d e : Int} {o : Nat} (h : o < 28 ∨ 33 < o) : gi (addC μ k a b c d e) o = gi μ o := by
  unfold addC
  rw [gi_wr_f (by show o ≠ 28; omega), gi_wr_f (by show o ≠ 33; omega), gi_wr_f (by show o ≠ 32; omega), gi_wr_f (by show o ≠ 31; omega), gi_wr_f (by show o ≠ 30; omega), gi_wr_f (by show o ≠ 29; omega)]
theorem gi_wr_if {μ : xm} {o : Nat} {z v y : Int} (h : 0 ≤ z ∧ 0 ≤ y) (hv : -2147483648 ≤ v ∧ v < 2147483648) : gi (wr μ o z v) o y = if y = z then v else gi μ o y := by
  by_cases e : y = z
  · rw [if_pos e, e, gi_wr hv]
  · rw [if_neg e, gi_wr_z (by omega)]
theorem up_if {A : xAs} {o : Nat} {z v y : Int} (h : 0 ≤ z ∧ 0 ≤ y) : up A o z v o y = if y = z then v else A o y := by
  by_cases e : y = z
  · rw [if_pos e, e, up_z]
  · rw [if_neg e, up_n (by omega)]
theorem addC_g {μ : xm} {k a b c d e : Int} (hk : 0 ≤ k ∧ k < 60) (ho : okN a b c d e) {z : Int} (hz : 0 ≤ z) : gi (addC μ k a b c d e) iC_notes_owers z = (if z = k then a else gi μ iC_notes_owers z) ∧ gi (addC μ k a b c d e) iC_notes_holders z = (if z = k then b else gi μ iC_notes_holders z) ∧ gi (addC μ k a b c d e) iC_notes_minutes z = (if z = k then c else gi μ iC_notes_minutes z) ∧ gi (addC μ k a b c d e) iC_notes_made z = (if z = k then d else gi μ iC_notes_made z) ∧ gi (addC μ k a b c d e) iC_notes_lapses z = (if z = k then e else gi μ iC_notes_lapses z) ∧ gi (addC μ k a b c d e) iC_notes 6 = k + 1 := by
  obtain ⟨h1, h2, h3, h4, h5, h6⟩ := ho
  unfold addC
  refine ⟨?_, ?_, ?_, ?_, ?_, ?_⟩ <;> simp (disch := first | omega | decide) only [gi_wr_o, gi_wr_if, gi_wr, if_true]
theorem addA_g {A : xAs} {k a b c d e : Int} (hk : 0 ≤ k ∧ k < 60) {z : Int} (hz : 0 ≤ z) : addA A k a b c d e iM_owesIt z = (if z = k then a else A iM_owesIt z) ∧ addA A k a b c d e iM_hasIt z = (if z = k then b else A iM_hasIt z) ∧ addA A k a b c d e iM_leftOf z = (if z = k then c else A iM_leftOf z) ∧ addA A k a b c d e iM_madeOn z = (if z = k then d else A iM_madeOn z) ∧ addA A k a b c d e iM_lapseOf z = (if z = k then e else A iM_lapseOf z) ∧ addA A k a b c d e iM 37 = k + 1 := by
  unfold addA
  refine ⟨?_, ?_, ?_, ?_, ?_, ?_⟩ <;> simp (disch := first | omega | decide) only [up_o, up_if, if_true]
theorem addA_o {A : xAs} {k a b c d e : Int} {o : Nat} (h2 : o ≠ iM_owesIt) (h3 : o ≠ iM_hasIt) (h4 : o ≠ iM_leftOf) (h5 : o ≠ iM_madeOn) (h6 : o ≠ iM_lapseOf) (h1 : o ≠ iM) : addA A k a b c d e o = A o := by
  unfold addA
  rw [up_o h1, up_o h6, up_o h5, up_o h4, up_o h3, up_o h2]
theorem addA_s {A : xAs} {k a b c d e j : Int} (h : 0 ≤ j ∧ j ≠ 37) : addA A k a b c d e iM j = A iM j := by
  unfold addA
  simp (disch := first | omega | decide) only [up_z, up_n, up_o]
theorem addA_Inv {A : xAs} (hI : Inv A) (h : A iM 37 < 60) {a b c d e : Int} (ho : okN a b c d e) : Inv (addA A (A iM 37) a b c d e) := by
  have h1 := hI.notes
  have g := fun z hz => addA_g (A := A) (a := a) (b := b) (c := c) (d := d) (e := e) ⟨h1.1, h⟩ (z := z) hz
  have g37 := (g 0 (by omega)).2.2.2.2.2
  obtain ⟨o1, o2, o3, o4, o5, o6⟩ := ho
  refine hI.u_notes (fun o h1 h2 h3 h4 h5 h6 => addA_o h1 h2 h3 h4 h5 h6) (fun k hk e => addA_s ⟨hk, e⟩) ?_ ?_ ?_ ?_ ?_ ?_ ?_
  · rw [g37]; omega
  · intro z hz hz2; rw [g37] at hz2; rw [(g z hz).1]; split
    · exact o1
    · exact hI.owesIt z hz (by omega)
  · intro z hz hz2; rw [g37] at hz2; rw [(g z hz).2.1]; split
    · exact o2
    · exact hI.hasIt z hz (by omega)
  · intro z hz hz2; rw [g37] at hz2; rw [(g z hz).2.2.1]; split
    · exact o3
    · exact hI.leftOf z hz (by omega)
  · intro z hz hz2; rw [g37] at hz2; rw [(g z hz).2.2.2.1]; split
    · exact o4
    · exact hI.madeOn z hz (by omega)
  · intro z hz hz2; rw [g37] at hz2; rw [(g z hz).2.2.2.2.1]; split
    · exact o5
    · exact hI.lapseOf z hz (by omega)
  · intro z hz hz2; rw [g37] at hz2; rw [(g z hz).1, (g z hz).2.1, (g z hz).2.2.1]; split
    · exact o6
    · exact hI.own z hz (by omega)
theorem addC_CH {A : xAs} {μ : xm} {R : xr} {n : Nat} (hC : CH A μ R n) (hI : Inv A) (h : A iM 37 < 60) {a b c d e : Int} (ho : okN a b c d e) : CH (addA A (A iM 37) a b c d e) (addC μ (A iM 37) a b c d e) R n := by
  have h1 := hI.notes
  have g := fun z hz => addA_g (A := A) (a := a) (b := b) (c := c) (d := d) (e := e) ⟨h1.1, h⟩ (z := z) hz
  have f := fun z hz => addC_g (μ := μ) ⟨h1.1, h⟩ ho (z := z) hz
  have g37 := (g 0 (by omega)).2.2.2.2.2
  refine hC.u_notes (fun o h1 h2 h3 h4 h5 h6 h7 => ?_) (fun z hz e => ?_) (fun o h1 h2 h3 h4 h5 h6 => addA_o h1 h2 h3 h4 h5 h6) (fun k hk e => addA_s ⟨hk, e⟩) ?_ ?_ ?_ ?_ ?_ ?_
  · unfold addC; rw [gi_wr_f (by assumption), gi_wr_f (by assumption), gi_wr_f (by assumption), gi_wr_f (by assumption), gi_wr_f (by assumption), gi_wr_f (by assumption)]
  · unfold addC; rw [gi_wr_z (by omega), gi_wr_o (by decide), gi_wr_o (by decide), gi_wr_o (by decide), gi_wr_o (by decide), gi_wr_o (by decide)]
  · rw [(f 0 (by omega)).2.2.2.2.2, g37]
  · intro z hz hz2; rw [g37] at hz2; rw [(g z hz).1, (f z hz).1]; split
    · rfl
    · exact hC.owers z hz (by omega)
  · intro z hz hz2; rw [g37] at hz2; rw [(g z hz).2.1, (f z hz).2.1]; split
    · rfl
    · exact hC.holders z hz (by omega)
  · intro z hz hz2; rw [g37] at hz2; rw [(g z hz).2.2.1, (f z hz).2.2.1]; split
    · rfl
    · exact hC.minutes z hz (by omega)
  · intro z hz hz2; rw [g37] at hz2; rw [(g z hz).2.2.2.1, (f z hz).2.2.2.1]; split
    · rfl
    · exact hC.made z hz (by omega)
  · intro z hz hz2; rw [g37] at hz2; rw [(g z hz).2.2.2.2.1, (f z hz).2.2.2.2.1]; split
    · rfl
    · exact hC.lapses z hz (by omega)
theorem CH.ref {A : xAs} {μ μ' : xm} {R : xr} {n : Nat} (hC : CH A μ R n) (h : ∀ o, (o < 61 ∨ 107 ≤ o) → gi μ' o = gi μ o) : CH A μ' R n := hC.u_none h (fun _ => rfl)
/-- minutes of a note changed -/
theorem left_CH {A : xAs} {μ : xm} {R : xr} {n : Nat} (hC : CH A μ R n) {i v : Int} (hi : 0 ≤ i) (hv : 0 ≤ v ∧ v ≤ 1440) : CH (up A iM_leftOf i v) (wr μ iC_notes_minutes i v) R n := by
  have u37 : up A iM_leftOf i v iM 37 = A iM 37 := by simp (disch := first | omega | decide) only [up_z, up_n, up_o]
  refine hC.u_notes (fun o h1 h2 h3 h4 h5 h6 h7 => gi_wr_f (by assumption)) (fun z hz e => gi_wr_o (by decide)) (fun o h1 h2 h3 h4 h5 h6 => up_o h3) (fun k hk e => by simp (disch := first | omega | decide) only [up_z, up_n, up_o]) ?_ ?_ ?_ ?_ ?_ ?_
  · rw [gi_wr_o (by decide), u37]; exact hC.notes
  · intro z hz hz2; rw [u37] at hz2; rw [gi_wr_o (by decide), up_o (by decide)]; exact hC.owers z hz hz2
  · intro z hz hz2; rw [u37] at hz2; rw [gi_wr_o (by decide), up_o (by decide)]; exact hC.holders z hz hz2
  · intro z hz hz2; rw [u37] at hz2; rw [gi_wr_if ⟨hi, hz⟩ (by omega), up_if ⟨hi, hz⟩]; split
    · rfl
    · exact hC.minutes z hz hz2
  · intro z hz hz2; rw [u37] at hz2; rw [gi_wr_o (by decide), up_o (by decide)]; exact hC.made z hz hz2
  · intro z hz hz2; rw [u37] at hz2; rw [gi_wr_o (by decide), up_o (by decide)]; exact hC.lapses z hz hz2
theorem left_Inv {A : xAs} (hI : Inv A) {i v : Int} (hi : isN A i) (hv : 0 ≤ v ∧ v ≤ A iM_leftOf i) : Inv (up A iM_leftOf i v) := by
  have u37 : up A iM_leftOf i v iM 37 = A iM 37 := by simp (disch := first | omega | decide) only [up_z, up_n, up_o]
  have b := hI.leftOf i hi.1 hi.2
  have hi1 := hi.1
  refine hI.u_notes (fun o h1 h2 h3 h4 h5 h6 => up_o h3) (fun k hk e => by simp (disch := first | omega | decide) only [up_z, up_n, up_o]) ?_ ?_ ?_ ?_ ?_ ?_ ?_
  · rw [u37]; exact hI.notes
  · intro z hz hz2; rw [u37] at hz2; rw [up_o (by decide)]; exact hI.owesIt z hz hz2
  · intro z hz hz2; rw [u37] at hz2; rw [up_o (by decide)]; exact hI.hasIt z hz hz2
  · intro z hz hz2; rw [u37] at hz2; rw [up_if ⟨hi1, hz⟩]; split
    · omega
    · exact hI.leftOf z hz hz2
  · intro z hz hz2; rw [u37] at hz2; rw [up_o (by decide)]; exact hI.madeOn z hz hz2
  · intro z hz hz2; rw [u37] at hz2; rw [up_o (by decide)]; exact hI.lapseOf z hz hz2
  · intro z hz hz2; rw [u37] at hz2
    rw [up_o (o := iM_leftOf) (a := iM_owesIt) (by decide), up_o (o := iM_leftOf) (a := iM_hasIt) (by decide), up_if ⟨hi1, hz⟩]
    intro h
    have := hI.own z hz hz2 h
    split
    · rename_i e; subst e; omega
    · exact this
