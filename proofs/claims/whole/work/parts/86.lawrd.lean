/-! how the program reads: the state of its reader -/
def CB (B : xm) (o : Nat) (μ : xm) : Prop := μ.2 = B.2 ∧ ∀ (a : Nat) (z : Int), 0 ≤ z → ¬(a = iC_reader ∧ (z = 4 ∨ z = 5)) → ¬(a = o ∧ z = 7) → a ≠ o + 5 → gi μ a z = gi B a z
def BOK (B : xm) (R : xr) (o : Nat) (T : Int → Int) (N : Int) : Prop := R iC_reader 2 = some o ∧ (o = 5 ∨ o = 12) ∧ gi B iC_reader 3 = N ∧ (0 ≤ N ∧ N ≤ 200) ∧ ∀ z, 0 ≤ z → z < N → (j32 (gi B iC_reader_text z) &&& j32 255) = j32 (T z) ∧ 0 ≤ T z ∧ T z ≤ 255
def CS (B : xm) (o : Nat) (p s : Int) (μ : xm) : Prop := CB B o μ ∧ gi μ iC_reader 4 = p ∧ gi μ iC_reader 5 = 0 ∧ gi μ o 7 = s
def CD (B : xm) (o : Nat) (f q : Int) (μ : xm) : Prop := CB B o μ ∧ gi μ iC_reader 4 = q ∧ gi μ iC_reader 5 = f ∧ f ≠ 0
theorem sgT_b {B : xm} {R : xr} {o : Nat} {T : Int → Int} {N : Int} (hB : BOK B R o T N) (p : Int) : -1 ≤ sgT T N p ∧ sgT T N p ≤ 255 ∧ (sgT T N p ≠ -1 → 0 ≤ p ∧ p < N) := by
  unfold sgT
  by_cases h : 0 ≤ p ∧ p < N
  · rw [if_pos h]
    obtain ⟨a, b, c⟩ := hB.2.2.2.2 p h.1 h.2
    exact ⟨by omega, c, fun _ => h⟩
  · rw [if_neg h]; exact ⟨by omega, by omega, fun c => absurd rfl c⟩
theorem CB.wr3 {B : xm} {o : Nat} {μ : xm} (h : CB B o μ) {z v : Int} (hz : z = 4 ∨ z = 5) : CB B o (wr μ iC_reader z v) := by
  refine ⟨h.1, fun a y h0 h1 h2 h3 => ?_⟩
  by_cases c : a = iC_reader
  · subst c
    rw [gi_wr_z ⟨by omega, h0, fun e => h1 ⟨rfl, by omega⟩⟩]; exact h.2 _ y h0 h1 h2 h3
  · rw [gi_wr_o c]; exact h.2 _ y h0 h1 h2 h3
theorem CB.wr7 {B : xm} {o : Nat} {μ : xm} (h : CB B o μ) {v : Int} : CB B o (wr μ o 7 v) := by
  refine ⟨h.1, fun a y h0 h1 h2 h3 => ?_⟩
  by_cases c : a = o
  · subst c
    rw [gi_wr_z ⟨by omega, h0, fun e => h2 ⟨rfl, e⟩⟩]; exact h.2 _ y h0 h1 h2 h3
  · rw [gi_wr_o c]; exact h.2 _ y h0 h1 h2 h3
theorem CB.wrc {B : xm} {o : Nat} {μ : xm} (h : CB B o μ) {z v : Int} : CB B o (wr μ (o + 5) z v) :=
  ⟨h.1, fun a y h0 h1 h2 h3 => by rw [gi_wr_o h3]; exact h.2 _ y h0 h1 h2 h3⟩
theorem CS.go {B : xm} {R : xr} {o : Nat} {T : Int → Int} {N p s : Int} {μ : xm} (hB : BOK B R o T N) (h : CS B o p s μ) (hp : 0 ≤ p ∧ p < N) : CS B o (p + 1) s (wr μ iC_reader 4 (p + 1)) ∧ gi (wr μ iC_reader 4 (p + 1)) (o + 5) = gi μ (o + 5) := by
  have ho := hB.2.1
  have hN := hB.2.2.2.1
  have n1 : iC_reader = 3 := rfl
  refine ⟨⟨h.1.wr3 (Or.inl rfl), gi_wr (by omega), ?_, ?_⟩, gi_wr_f (by omega)⟩
  · rw [gi_wr_z (by omega)]; exact h.2.2.1
  · rw [gi_wr_o (by omega)]; exact h.2.2.2
theorem e_sign {B : xm} {R : xr} {o : Nat} {T : Int → Int} {N p s : Int} {μ : xm} (hB : BOK B R o T N) (h : CS B o p s μ) (hp : 0 ≤ p ∧ p ≤ N) : fX1_sign μ = some (j32 (sgT T N p)) := by
  have hN := hB.2.2.2.1
  have ho := hB.2.1
  have n1 : iC_reader = 3 := rfl
  have n2 : iC_reader_text = 4 := rfl
  have e3 : gi μ iC_reader 3 = N := (h.1.2 _ 3 (by omega) (by omega) (by omega) (by omega)).trans hB.2.2.1
  have a1 : ¬ p < 0 := by omega
  unfold fX1_sign sgT
  by_cases c : p < N
  · have a2 : ¬ N ≤ p := by omega
    have a3 : p < 200 := by omega
    rw [if_pos (show 0 ≤ p ∧ p < N from ⟨hp.1, c⟩)]
    have e4 : gi μ iC_reader_text p = gi B iC_reader_text p := h.1.2 _ p hp.1 (by omega) (by omega) (by omega)
    simp (disch := omega) only [Bool.false_eq_true, lits, jj, jc, jm, Int.cast_ofNat_Int, j_bi0, j_bi1, not_true, not_false_eq_true, if_true, if_false, xe, xok_some, Sum.elim_inl, Sum.elim_inr, Int.reduceEq, Int.reduceLT, Int.reduceLE, Int.reduceAdd, Int.reduceSub, Int.reduceMul, h.2.1, h.2.2.1, e3, a1, a2, a3, e4, (hB.2.2.2.2 p hp.1 c).1]
  · have a2 : N ≤ p := by omega
    rw [if_neg (show ¬ (0 ≤ p ∧ p < N) from fun e => c e.2)]
    simp (disch := omega) only [Bool.false_eq_true, lits, jj, jc, jm, Int.cast_ofNat_Int, j_bi0, j_bi1, not_true, not_false_eq_true, if_true, if_false, xe, xok_some, Sum.elim_inl, Sum.elim_inr, Int.reduceEq, Int.reduceLT, Int.reduceLE, Int.reduceAdd, Int.reduceSub, Int.reduceMul, h.2.1, h.2.2.1, e3, a1, a2]
    try rfl
theorem d_sign {B : xm} {o : Nat} {f q : Int} {μ : xm} (h : CD B o f q μ) : fX1_sign μ = some (j32 (-1)) := by
  have lo := gi_lo μ iC_reader 5
  have hi := gi_hi μ iC_reader 5
  have := h.2.2.1
  have := h.2.2.2
  unfold fX1_sign
  simp (disch := omega) only [Bool.false_eq_true, lits, jj, jc, jm, Int.cast_ofNat_Int, j_bi0, j_bi1, not_true, not_false_eq_true, if_true, if_false, xe, xok_some, Sum.elim_inl, Sum.elim_inr, Int.reduceEq, Int.reduceLT, Int.reduceLE, Int.reduceAdd, Int.reduceSub, Int.reduceMul, h.2.2.1, h.2.2.2]
theorem e_stop {B : xm} {o : Nat} {p s k : Int} {μ : xm} (hk : 0 < k ∧ k < 10) (h : CS B o p s μ) : ∃ ν, fX1_stop (j32 k) μ = some ν ∧ CD B o k p ν := by
  refine ⟨wr μ iC_reader 5 k, ?_, h.1.wr3 (Or.inr rfl), ?_, gi_wr (by omega), by omega⟩
  · unfold fX1_stop
    simp (disch := omega) only [Bool.false_eq_true, lits, jj, jc, jm, Int.cast_ofNat_Int, j_bi0, j_bi1, not_true, not_false_eq_true, if_true, if_false, xe, xok_some, Sum.elim_inl, Sum.elim_inr, Int.reduceEq, Int.reduceLT, Int.reduceLE, Int.reduceAdd, Int.reduceSub, Int.reduceMul, h.2.2.1]
  · rw [gi_wr_z (by omega)]; exact h.2.1
theorem d_stop {B : xm} {o : Nat} {f q : Int} {μ : xm} (h : CD B o f q μ) (k : Int32) : fX1_stop k μ = some μ := by
  have lo := gi_lo μ iC_reader 5
  have hi := gi_hi μ iC_reader 5
  have := h.2.2.1
  have := h.2.2.2
  unfold fX1_stop
  simp (disch := omega) only [Bool.false_eq_true, lits, jj, jc, jm, Int.cast_ofNat_Int, j_bi0, j_bi1, not_true, not_false_eq_true, if_true, if_false, xe, xok_some, Sum.elim_inl, Sum.elim_inr, Int.reduceEq, Int.reduceLT, Int.reduceLE, Int.reduceAdd, Int.reduceSub, Int.reduceMul, h.2.2.1, h.2.2.2]
theorem e_opens {B : xm} {R : xr} {o : Nat} {T : Int → Int} {N p s op : Int} {μ : xm} (hB : BOK B R o T N) (h : CS B o p s μ) (hp : 0 ≤ p ∧ p < N) (hop : 0 ≤ op ∧ op < 6) : fX1_opens (j32 op) μ = some (j32 1, wr μ iC_reader 4 (p + 1)) := by
  unfold fX1_opens
  simp (disch := omega) only [Bool.false_eq_true, lits, jj, jc, jm, Int.cast_ofNat_Int, j_bi0, j_bi1, not_true, not_false_eq_true, if_true, if_false, xe, xok_some, Sum.elim_inl, Sum.elim_inr, Int.reduceEq, Int.reduceLT, Int.reduceLE, Int.reduceAdd, Int.reduceSub, Int.reduceMul, h.2.1]
  rw [if_pos (by omega)]
theorem e_opens5 {B : xm} {o : Nat} {p s op : Int} {μ : xm} (h : CS B o p s μ) (hop : 6 ≤ op ∧ op < 10) : ∃ ν, fX1_opens (j32 op) μ = some (j32 0, ν) ∧ CD B o 5 p ν := by
  obtain ⟨ν, e, hd⟩ := e_stop (k := 5) (by omega) h
  refine ⟨ν, ?_, hd⟩
  unfold fX1_opens
  simp (disch := omega) only [Bool.false_eq_true, lits, jj, jc, jm, Int.cast_ofNat_Int, j_bi0, j_bi1, not_true, not_false_eq_true, if_true, if_false, xe, xok_some, Sum.elim_inl, Sum.elim_inr, Int.reduceEq, Int.reduceLT, Int.reduceLE, Int.reduceAdd, Int.reduceSub, Int.reduceMul, e]
  rw [if_neg (by omega)]
theorem e_pass {B : xm} {R : xr} {o : Nat} {T : Int → Int} {N p s k : Int} {μ : xm} (hB : BOK B R o T N) (h : CS B o p s μ) (hp : 0 ≤ p ∧ p ≤ N) (hk : 0 ≤ k ∧ k ≤ 255) : ∃ ν, fX1_pass (j32 k) μ = some ν ∧ if sgT T N p = k then ν = wr μ iC_reader 4 (p + 1) else CD B o 1 p ν := by
  have hs := sgT_b hB p
  unfold fX1_pass
  rw [e_sign hB h hp, xbd_e]
  by_cases c : sgT T N p = k
  · rw [if_pos (by rw [c])]
    refine ⟨wr μ iC_reader 4 (p + 1), ?_, ?_⟩
    · simp (disch := omega) only [Bool.false_eq_true, lits, jj, jc, jm, Int.cast_ofNat_Int, j_bi0, j_bi1, not_true, not_false_eq_true, if_true, if_false, xe, xok_some, Sum.elim_inl, Sum.elim_inr, Int.reduceEq, Int.reduceLT, Int.reduceLE, Int.reduceAdd, Int.reduceSub, Int.reduceMul, h.2.1]
    · rw [if_pos c]
  · rw [if_neg (fun e => c ((j_eq (by omega) (by omega)).mp e))]
    obtain ⟨ν, e, hd⟩ := e_stop (k := 1) (by omega) h
    refine ⟨ν, ?_, ?_⟩
    · simp (disch := omega) only [Bool.false_eq_true, lits, jj, jc, jm, Int.cast_ofNat_Int, j_bi0, j_bi1, not_true, not_false_eq_true, if_true, if_false, xe, xok_some, Sum.elim_inl, Sum.elim_inr, Int.reduceEq, Int.reduceLT, Int.reduceLE, Int.reduceAdd, Int.reduceSub, Int.reduceMul, e]
    · rw [if_neg c]; exact hd
theorem d_pass {B : xm} {o : Nat} {f q k : Int} {μ : xm} (h : CD B o f q μ) (hk : 0 ≤ k ∧ k ≤ 255) : fX1_pass (j32 k) μ = some μ := by
  unfold fX1_pass
  rw [d_sign h, xbd_e, if_neg (fun e => by have := (j_eq (by omega) (by omega)).mp e; omega), d_stop h]
  rfl
def em (μ : xm) (o : Nat) (s w : Int) : xm := wr (wr μ (o + 5) s w) o 7 (s + 1)
theorem e_emit {B : xm} {o : Nat} {p s : Int} {μ : xm} (h : CS B o p s μ) (hs : 0 ≤ s ∧ s < 200) (w : Int) : fX0_emit o (j32 w) μ = some (em μ o s w) := by
  unfold fX0_emit em
  simp (disch := omega) only [Bool.false_eq_true, lits, jj, jc, jm, Int.cast_ofNat_Int, j_bi0, j_bi1, not_true, not_false_eq_true, if_true, if_false, xe, xok_some, Sum.elim_inl, Sum.elim_inr, Int.reduceEq, Int.reduceLT, Int.reduceLE, Int.reduceAdd, Int.reduceSub, Int.reduceMul, h.2.2.2]
  rw [if_neg (by omega), if_pos (by omega)]
  rw [gi_wr_o (by omega), h.2.2.2]
theorem CS.emits {B : xm} {R : xr} {o : Nat} {T : Int → Int} {N p s w : Int} {μ : xm} (hB : BOK B R o T N) (h : CS B o p s μ) (hs : 0 ≤ s ∧ s < 200) (hw : -2147483648 ≤ w ∧ w < 2147483648) : CS B o p (s + 1) (em μ o s w) ∧ (∀ z, 0 ≤ z → z < s → gi (em μ o s w) (o + 5) z = gi μ (o + 5) z) ∧ gi (em μ o s w) (o + 5) s = w := by
  have ho := hB.2.1
  have n1 : iC_reader = 3 := rfl
  unfold em
  refine ⟨⟨(h.1.wrc).wr7, ?_, ?_, gi_wr (by omega)⟩, fun z h0 h1 => ?_, ?_⟩
  · rw [gi_wr_o (by omega), gi_wr_o (by omega)]; exact h.2.1
  · rw [gi_wr_o (by omega), gi_wr_o (by omega)]; exact h.2.2.1
  · rw [gi_wr_o (by omega), gi_wr_z ⟨hs.1, h0, by omega⟩]
  · rw [gi_wr_o (by omega), gi_wr hw]
theorem d_emit {B : xm} {R : xr} {o : Nat} {T : Int → Int} {N f q : Int} {μ : xm} (hB : BOK B R o T N) (h : CD B o f q μ) (w : Int32) : ∃ ν, fX0_emit o w μ = some ν ∧ CD B o f q ν := by
  have ho := hB.2.1
  have n1 : iC_reader = 3 := rfl
  obtain ⟨y, rfl, y1, y2⟩ := j32_ex w
  have lo := gi_lo μ o 7
  have hi := gi_hi μ o 7
  unfold fX0_emit
  by_cases c : gi μ o 7 < 0
  · refine ⟨μ, ?_, h⟩
    simp (disch := omega) only [Bool.false_eq_true, lits, jj, jc, jm, Int.cast_ofNat_Int, j_bi0, j_bi1, not_true, not_false_eq_true, if_true, if_false, xe, xok_some, Sum.elim_inl, Sum.elim_inr, Int.reduceEq, Int.reduceLT, Int.reduceLE, Int.reduceAdd, Int.reduceSub, Int.reduceMul]
    rw [if_pos c]
  · by_cases d : gi μ o 7 < 200
    · refine ⟨em μ o (gi μ o 7) y, ?_, (h.1.wrc).wr7, ?_, ?_, h.2.2.2⟩
      · unfold em
        simp (disch := omega) only [Bool.false_eq_true, lits, jj, jc, jm, Int.cast_ofNat_Int, j_bi0, j_bi1, not_true, not_false_eq_true, if_true, if_false, xe, xok_some, Sum.elim_inl, Sum.elim_inr, Int.reduceEq, Int.reduceLT, Int.reduceLE, Int.reduceAdd, Int.reduceSub, Int.reduceMul]
        rw [if_neg c, if_pos d]
        rw [gi_wr_o (by omega)]
      · unfold em
        rw [gi_wr_o (by omega), gi_wr_o (by omega)]; exact h.2.1
      · unfold em
        rw [gi_wr_o (by omega), gi_wr_o (by omega)]; exact h.2.2.1
    · refine ⟨μ, ?_, h⟩
      simp (disch := omega) only [Bool.false_eq_true, lits, jj, jc, jm, Int.cast_ofNat_Int, j_bi0, j_bi1, not_true, not_false_eq_true, if_true, if_false, xe, xok_some, Sum.elim_inl, Sum.elim_inr, Int.reduceEq, Int.reduceLT, Int.reduceLE, Int.reduceAdd, Int.reduceSub, Int.reduceMul]
      rw [if_neg c, if_neg d]
