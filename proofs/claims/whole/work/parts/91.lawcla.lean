/-! how the program reads a clause -/
def CL (B : xm) (o : Nat) (μ : xm) : Prop := μ.2 = B.2 ∧ ∀ (a : Nat) (z : Int), 0 ≤ z → ¬(a = iC_reader ∧ (z = 4 ∨ z = 5)) → ¬(o ≤ a ∧ a ≤ o + 5) → gi μ a z = gi B a z
def CLD (B : xm) (R : xr) (o : Nat) (T : Int → Int) (N f q : Int) (μ : xm) : Prop := BOK μ R o T N ∧ CL B o μ ∧ gi μ iC_reader 4 = q ∧ gi μ iC_reader 5 = f ∧ f ≠ 0
theorem CL.cb {B μ ν : xm} {o : Nat} (h : CL B o μ) (g : CB μ o ν) : CL B o ν :=
  ⟨g.1.trans h.1, fun a z h0 h1 h2 => (g.2 a z h0 h1 (by omega) (by omega)).trans (h.2 a z h0 h1 h2)⟩
theorem CB.rf {μ : xm} {o : Nat} : CB μ o μ := ⟨rfl, fun _ _ _ _ _ _ => rfl⟩
theorem CL.rf {μ : xm} {o : Nat} : CL μ o μ := ⟨rfl, fun _ _ _ _ _ => rfl⟩
theorem BOK.cb {B μ : xm} {R : xr} {o : Nat} {T : Int → Int} {N : Int} (h : BOK B R o T N) (g : CB B o μ) : BOK μ R o T N := by
  have ho := h.2.1
  have n1 : iC_reader = 3 := rfl
  have n2 : iC_reader_text = 4 := rfl
  refine ⟨h.1, h.2.1, (g.2 _ 3 (by omega) (by omega) (by omega) (by omega)).trans h.2.2.1, h.2.2.2.1, fun z a b => ?_⟩
  rw [g.2 _ z a (by omega) (by omega) (by omega)]
  exact h.2.2.2.2 z a b
theorem BOK.cl {B μ : xm} {R : xr} {o : Nat} {T : Int → Int} {N : Int} (h : BOK B R o T N) (g : CL B o μ) : BOK μ R o T N := by
  have ho := h.2.1
  have n1 : iC_reader = 3 := rfl
  have n2 : iC_reader_text = 4 := rfl
  refine ⟨h.1, h.2.1, (g.2 _ 3 (by omega) (by omega) (by omega)).trans h.2.2.1, h.2.2.2.1, fun z a b => ?_⟩
  rw [g.2 _ z a (by omega) (by omega)]
  exact h.2.2.2.2 z a b
theorem CLD.cd {B μ : xm} {R : xr} {o : Nat} {T : Int → Int} {N f q : Int} (h : CLD B R o T N f q μ) : CD μ o f q μ := ⟨CB.rf, h.2.2.1, h.2.2.2.1, h.2.2.2.2⟩
theorem CLD.to {B μ ν : xm} {R : xr} {o : Nat} {T : Int → Int} {N f q f' q' : Int} (hB : BOK μ R o T N) (h : CL B o μ) (g : CD μ o f' q' ν) : CLD B R o T N f' q' ν :=
  ⟨hB.cb g.1, h.cb g.1, g.2.1, g.2.2.1, g.2.2.2⟩
theorem CL.wr {B : xm} {o : Nat} {μ : xm} (h : CL B o μ) {a : Nat} (ha : o ≤ a ∧ a ≤ o + 5) (z v : Int) : CL B o (wr μ a z v) :=
  ⟨h.1, fun b y h0 h1 h2 => by rw [gi_wr_o (by omega)]; exact h.2 b y h0 h1 h2⟩
theorem CLD.wr {B μ : xm} {R : xr} {o : Nat} {T : Int → Int} {N f q : Int} (h : CLD B R o T N f q μ) {a : Nat} (ha : o ≤ a ∧ a ≤ o + 5) (z v : Int) : CLD B R o T N f q (wr μ a z v) := by
  have ho := h.1.2.1
  have n1 : iC_reader = 3 := rfl
  refine ⟨h.1.cl (CL.rf.wr ha z v), h.2.1.wr ha z v, ?_, ?_, h.2.2.2.2⟩
  · rw [gi_wr_o (by omega)]; exact h.2.2.1
  · rw [gi_wr_o (by omega)]; exact h.2.2.2.1
abbrev tail3 (R : xr) (q : xm) : Option xm := xbd (fX1_pass 41 q) fun q12 => xbd (R iC_reader 2) fun a13 => xbd (fX0_closeClause a13 q12) fun q14 => some q14
abbrev tail2 (R : xr) (q : xm) : Option xm := xbd (fX1_pass 40 q) fun q10 => xbd (rX1_readChoice 8 1 q10 R) fun q11 => tail3 R q11
abbrev tail1 (R : xr) (q : xm) : Option xm := xbd (R iC_reader 2) fun a8 => xbd (fX0_openCondition a8 q) fun q9 => tail2 R q9
theorem d_closeC {B μ : xm} {R : xr} {o : Nat} {T : Int → Int} {N f q : Int} (h : CLD B R o T N f q μ) : ∃ ν, fX0_closeClause o μ = some ν ∧ CLD B R o T N f q ν := by
  have lo := gi_lo μ o 6
  have hi := gi_hi μ o 6
  unfold fX0_closeClause
  by_cases c : gi μ o 6 < 0
  · refine ⟨μ, ?_, h⟩
    simp (disch := omega) only [Bool.false_eq_true, lits, jj, jc, jm, Int.cast_ofNat_Int, j_bi0, j_bi1, not_true, not_false_eq_true, if_true, if_false, xe, xok_some, Sum.elim_inl, Sum.elim_inr, Int.reduceEq, Int.reduceLT, Int.reduceLE, Int.reduceAdd, Int.reduceSub, Int.reduceMul]
    rw [if_pos c]
  · by_cases d : gi μ o 6 < 14
    · refine ⟨wr (wr μ (o + 4) (gi μ o 6) (gi μ o 7)) o 6 (gi μ o 6 + 1), ?_, (h.wr (by omega) _ _).wr (by omega) _ _⟩
      simp (disch := omega) only [Bool.false_eq_true, lits, jj, jc, jm, Int.cast_ofNat_Int, j_bi0, j_bi1, not_true, not_false_eq_true, if_true, if_false, xe, xok_some, Sum.elim_inl, Sum.elim_inr, Int.reduceEq, Int.reduceLT, Int.reduceLE, Int.reduceAdd, Int.reduceSub, Int.reduceMul]
      rw [if_neg c, if_pos d, gi_wr_o (by omega)]
    · refine ⟨μ, ?_, h⟩
      simp (disch := omega) only [Bool.false_eq_true, lits, jj, jc, jm, Int.cast_ofNat_Int, j_bi0, j_bi1, not_true, not_false_eq_true, if_true, if_false, xe, xok_some, Sum.elim_inl, Sum.elim_inr, Int.reduceEq, Int.reduceLT, Int.reduceLE, Int.reduceAdd, Int.reduceSub, Int.reduceMul]
      rw [if_neg c, if_neg d]
theorem d_openH {B μ : xm} {R : xr} {o : Nat} {T : Int → Int} {N f q : Int} (h : CLD B R o T N f q μ) : ∃ ν, fX0_openCondition o μ = some ν ∧ CLD B R o T N f q ν := by
  have lo := gi_lo μ o 6
  have hi := gi_hi μ o 6
  unfold fX0_openCondition
  by_cases c : gi μ o 6 < 0
  · refine ⟨μ, ?_, h⟩
    simp (disch := omega) only [Bool.false_eq_true, lits, jj, jc, jm, Int.cast_ofNat_Int, j_bi0, j_bi1, not_true, not_false_eq_true, if_true, if_false, xe, xok_some, Sum.elim_inl, Sum.elim_inr, Int.reduceEq, Int.reduceLT, Int.reduceLE, Int.reduceAdd, Int.reduceSub, Int.reduceMul]
    rw [if_pos c]
  · by_cases d : 14 ≤ gi μ o 6
    · refine ⟨μ, ?_, h⟩
      simp (disch := omega) only [Bool.false_eq_true, lits, jj, jc, jm, Int.cast_ofNat_Int, j_bi0, j_bi1, not_true, not_false_eq_true, if_true, if_false, xe, xok_some, Sum.elim_inl, Sum.elim_inr, Int.reduceEq, Int.reduceLT, Int.reduceLE, Int.reduceAdd, Int.reduceSub, Int.reduceMul]
      rw [if_neg c, if_pos d]
    · refine ⟨wr μ (o + 3) (gi μ o 6) (gi μ o 7), ?_, h.wr (by omega) _ _⟩
      simp (disch := omega) only [Bool.false_eq_true, lits, jj, jc, jm, Int.cast_ofNat_Int, j_bi0, j_bi1, not_true, not_false_eq_true, if_true, if_false, xe, xok_some, Sum.elim_inl, Sum.elim_inr, Int.reduceEq, Int.reduceLT, Int.reduceLE, Int.reduceAdd, Int.reduceSub, Int.reduceMul]
      rw [if_neg c, if_neg d]
theorem d_tail3 {B μ : xm} {R : xr} {o : Nat} {T : Int → Int} {N f q : Int} (h : CLD B R o T N f q μ) : xok (tail3 R μ) (CLD B R o T N f q) := by
  unfold tail3
  obtain ⟨ν, e, hd⟩ := d_closeC h
  rw [show (41 : Int32) = j32 41 from rfl, d_pass h.cd (by omega), xbd_e, h.1.1, xbd_e, e, xbd_e]
  exact xok_some.mpr hd
theorem d_tail2 {B μ : xm} {R : xr} {o : Nat} {T : Int → Int} {N f q : Int} (h : CLD B R o T N f q μ) : xok (tail2 R μ) (CLD B R o T N f q) := by
  unfold tail2
  obtain ⟨ν, e, hd⟩ := dchos h.1 1 f q μ h.cd
  rw [show (40 : Int32) = j32 40 from rfl, d_pass h.cd (by omega), xbd_e, show (1 : Int32) = j32 1 from rfl, e, xbd_e]
  exact d_tail3 (CLD.to h.1 h.2.1 hd)
theorem d_tail1 {B μ : xm} {R : xr} {o : Nat} {T : Int → Int} {N f q : Int} (h : CLD B R o T N f q μ) : xok (tail1 R μ) (CLD B R o T N f q) := by
  unfold tail1
  obtain ⟨ν, e, hd⟩ := d_openH h
  rw [h.1.1, xbd_e, e, xbd_e]
  exact d_tail2 hd
def KS (B : xm) (R : xr) (o : Nat) (T : Int → Int) (N p : Int) (ls : List Cl) (μ : xm) : Prop := BOK μ R o T N ∧ CL B o μ ∧ gi μ iC_reader 4 = p ∧ gi μ iC_reader 5 = 0 ∧ (0 ≤ p ∧ p ≤ N) ∧ ∃ s, gi μ o 7 = s ∧ (0 ≤ s ∧ s ≤ p) ∧ gi μ o 6 = ls.length ∧ ls.length ≤ 14 ∧ ∀ (i : Nat) (h : i < ls.length), gi μ (o + 1) i = ls[i].1 ∧ SegC (gi μ (o + 5)) (gi μ (o + 2) i) (gi μ (o + 3) i) 32 ls[i].2.1 ∧ SegC (gi μ (o + 5)) (gi μ (o + 3) i) (gi μ (o + 4) i) 32 (bo ls[i].2.2) ∧ gi μ (o + 4) i ≤ s
