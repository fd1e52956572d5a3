/-! settle: the class's notes of a chain -/
theorem ncS {B : xAs} {ν : xm} {R : xr} {n : Nat} (hC : CH B ν R n) (hI : Inv B) {N k : Nat} (hN : N ≤ 24) (hk : k < N) (h6 : gi ν iC_meetings 6 = N) {a c y l : Int} (hr : gi ν iC_meetings_payers k = a ∧ gi ν iC_meetings_paid k = c) (ha : 0 ≤ a ∧ a < 8) (hc : 0 ≤ c ∧ c ≤ 1440) (hy : 0 ≤ y ∧ y < 8) (hl : -1 ≤ l ∧ l ≤ 199) : fX11_noteChain_b25 (j32 k) ν (j32 y) (j32 l) = some (if c = 0 ∨ a = y then .inl (j32 ((k : Int) + 1), ν) else if B iM 37 < 60 then .inl (j32 ((k : Int) + 1), addC ν (B iM 37) a y c (B iM 0) l) else .inr (.inr (j32 0, ν))) := by
  have h0 := hI.now
  have h1 := hI.notes
  have e1 : fX3_payerAt (j32 k) ν = some (j32 a) := by
    unfold fX3_payerAt
    simp (disch := omega) only [Bool.false_eq_true, lits, jj, jc, jm, Int.cast_ofNat_Int, j_bi0, j_bi1, not_true, not_false_eq_true, if_true, if_false, xe, xok_some, Sum.elim_inl, Sum.elim_inr, Int.reduceEq, Int.reduceLT, Int.reduceLE, Int.reduceAdd, Int.reduceSub, Int.reduceMul, h6, show ¬ (k : Int) < 0 by omega, show ¬ (N : Int) ≤ k by omega, show ¬ 24 ≤ (k : Int) by omega, hr.1]
  have e2 : fX3_paidAt (j32 k) ν = some (j32 c) := by
    unfold fX3_paidAt
    simp (disch := omega) only [Bool.false_eq_true, lits, jj, jc, jm, Int.cast_ofNat_Int, j_bi0, j_bi1, not_true, not_false_eq_true, if_true, if_false, xe, xok_some, Sum.elim_inl, Sum.elim_inr, Int.reduceEq, Int.reduceLT, Int.reduceLE, Int.reduceAdd, Int.reduceSub, Int.reduceMul, h6, show ¬ (k : Int) < 0 by omega, show ¬ (N : Int) ≤ k by omega, show ¬ 24 ≤ (k : Int) by omega, hr.2]
  have e3 := hC.now
  unfold fX11_noteChain_b25 fX3_payers
  by_cases d1 : c = 0
  · simp (disch := omega) only [Bool.false_eq_true, lits, jj, jc, jm, Int.cast_ofNat_Int, j_bi0, j_bi1, not_true, not_false_eq_true, if_true, if_false, xe, xok_some, Sum.elim_inl, Sum.elim_inr, Int.reduceEq, Int.reduceLT, Int.reduceLE, Int.reduceAdd, Int.reduceSub, Int.reduceMul, h6, show ¬ (N : Int) ≤ k by omega, e1, e2, show c ≤ 0 by omega, d1, true_or]
  · by_cases d2 : a = y
    · simp (disch := omega) only [Bool.false_eq_true, lits, jj, jc, jm, Int.cast_ofNat_Int, j_bi0, j_bi1, not_true, not_false_eq_true, if_true, if_false, xe, xok_some, Sum.elim_inl, Sum.elim_inr, Int.reduceEq, Int.reduceLT, Int.reduceLE, Int.reduceAdd, Int.reduceSub, Int.reduceMul, h6, show ¬ (N : Int) ≤ k by omega, e1, e2, show ¬ c ≤ 0 by omega, d1, d2, or_true]
    · by_cases d3 : B iM 37 < 60
      · have e4 := eX4_add hC hI (a := a) (b := y) (c := c) (d := B iM 0) (e := l) d3
        simp (disch := omega) only [Bool.false_eq_true, lits, jj, jc, jm, Int.cast_ofNat_Int, j_bi0, j_bi1, not_true, not_false_eq_true, if_true, if_false, xe, xok_some, Sum.elim_inl, Sum.elim_inr, Int.reduceEq, Int.reduceLT, Int.reduceLE, Int.reduceAdd, Int.reduceSub, Int.reduceMul, h6, show ¬ (N : Int) ≤ k by omega, e1, e2, show ¬ c ≤ 0 by omega, d1, d2, or_self, e3, e4, d3, show B iM 37 ≠ -1 by omega]
      · have e4 := eX4_addFull hC (a := a) (b := y) (c := c) (d := B iM 0) (e := l) (by omega)
        simp (disch := omega) only [Bool.false_eq_true, lits, jj, jc, jm, Int.cast_ofNat_Int, j_bi0, j_bi1, not_true, not_false_eq_true, if_true, if_false, xe, xok_some, Sum.elim_inl, Sum.elim_inr, Int.reduceEq, Int.reduceLT, Int.reduceLE, Int.reduceAdd, Int.reduceSub, Int.reduceMul, h6, show ¬ (N : Int) ≤ k by omega, e1, e2, show ¬ c ≤ 0 by omega, d1, d2, or_self, e3, e4, d3]
/-- the notes of one chain -/
theorem ncL {B : xAs} {ν : xm} {R : xr} {n : Nat} (hC : CH B ν R n) (hI : Inv B) {w c : Nat → Int} {N : Nat} (hN : N ≤ 24) (h6 : gi ν iC_meetings 6 = N) (hr : ∀ i : Nat, i < N → gi ν iC_meetings_payers i = w i ∧ gi ν iC_meetings_paid i = c i) (hw : wOk w c N) {y l : Int} (hy : 0 ≤ y ∧ y < 8) (hl : -1 ≤ l ∧ l ≤ 199) : xok (xloop xfu (fun v => fX11_noteChain_b25 v.1 v.2 (j32 y) (j32 l)) (j32 0, ν)) (fun r => ∃ ν', (∀ o, (o < 28 ∨ 33 < o) → gi ν' o = gi ν o) ∧ ((r = .inl ν' ∧ B iM 37 + ctk w c y N ≤ 60 ∧ CH (stk 1 w c y l B N) ν' R n) ∨ (r = .inr (j32 0, ν') ∧ 60 < B iM 37 + ctk w c y N ∧ ∃ k, k ≤ N ∧ B iM 37 + ctk w c y k ≤ 60 ∧ CH (stk 1 w c y l B k) ν' R n))) := by
  have h37 := hI.notes
  refine xok_for (fun k s => s.1 = j32 k ∧ B iM 37 + ctk w c y k ≤ 60 ∧ CH (stk 1 w c y l B k) s.2 R n ∧ ∀ o, (o < 28 ∨ 33 < o) → gi s.2 o = gi ν o) N (by omega) ⟨rfl, by show B iM 37 + 0 ≤ 60; omega, hC, fun _ _ => rfl⟩ ?_ ?_
  · intro k s hk hs
    obtain ⟨s1, ρ⟩ := s
    obtain ⟨g1, g2, g3, g4⟩ := hs
    simp only at g1 g2 g3 g4
    subst g1
    have ho := stk_ok hI hw hy hl (p := 1) k (by omega) (Or.inr g2)
    rw [if_neg (by decide)] at ho
    have hrk := hr k hk
    have hwk := hw k hk
    have st := ncS g3 ho.2.1 hN hk (by rw [g4 _ (Or.inl (by decide))]; exact h6) (a := w k) (c := c k) (y := y) (l := l) ⟨by rw [g4 _ (Or.inl (by decide))]; exact hrk.1, by rw [g4 _ (Or.inl (by decide))]; exact hrk.2⟩ hwk.1 hwk.2 hy hl
    have e : stk 1 w c y l B (k + 1) = if (c k = 0 ∨ w k = y) ∨ (1 : Int) = 0 then stk 1 w c y l B k else addA (stk 1 w c y l B k) (stk 1 w c y l B k iM 37) (w k) y (c k) (stk 1 w c y l B k iM 0) l := rfl
    have ec : ctk w c y (k + 1) = if c k = 0 ∨ w k = y then ctk w c y k else ctk w c y k + 1 := rfl
    show xok (fX11_noteChain_b25 (j32 k) ρ (j32 y) (j32 l)) _
    rw [st]
    by_cases d : c k = 0 ∨ w k = y
    · rw [if_pos d] at ec
      rw [if_pos (Or.inl d)] at e
      rw [if_pos d, xok_some]
      exact ⟨rfl, by rw [ec]; exact g2, by rw [e]; exact g3, g4⟩
    · rw [if_neg d] at ec
      rw [if_neg (by omega)] at e
      rw [if_neg d]
      by_cases d3 : stk 1 w c y l B k iM 37 < 60
      · rw [if_pos d3, xok_some]
        have hn := ho.2.1.now
        refine ⟨rfl, by rw [ec]; omega, ?_, fun o h => ?_⟩
        · rw [e]
          exact addC_CH g3 ho.2.1 d3 ⟨hwk.1, hy, hwk.2, by omega, hl, fun e => absurd (Or.inr e) d⟩
        · exact (addC_f h).trans (g4 o h)
      · rw [if_neg d3, xok_some]
        have hm : ctk w c y (k + 1) ≤ ctk w c y N := ctk_m (by omega)
        have hb := ho.2.1.notes
        exact ⟨ρ, g4, Or.inr ⟨rfl, by omega, k, by omega, g2, g3⟩⟩
  · intro s hs
    obtain ⟨s1, ρ⟩ := s
    obtain ⟨g1, g2, g3, g4⟩ := hs
    simp only at g1 g2 g3 g4
    subst g1
    have g6 : gi ρ iC_meetings 6 = N := by rw [g4 _ (Or.inl (by decide))]; exact h6
    show xok (fX11_noteChain_b25 (j32 N) ρ (j32 y) (j32 l)) _
    unfold fX11_noteChain_b25 fX3_payers
    simp (disch := omega) only [Bool.false_eq_true, lits, jj, jc, jm, Int.cast_ofNat_Int, j_bi0, j_bi1, not_true, not_false_eq_true, if_true, if_false, xe, xok_some, Sum.elim_inl, Sum.elim_inr, Int.reduceEq, Int.reduceLT, Int.reduceLE, Int.reduceAdd, Int.reduceSub, Int.reduceMul, g6, Int.le_refl]
    exact ⟨ρ, g4, Or.inl ⟨rfl, g2, g3⟩⟩
/-- after how many days they lapse -/
def lapF (V : Int → (Nat → Int) → Int) (F : Nat → Int) (now : Int) : Int := if V 108 F = 0 then -1 else now + V 108 F
theorem nc_ok {V : Int → (Nat → Int) → Int} {B : xAs} {ν : xm} {R : xr} {n : Nat} (hL : Law V ν R) (hC : CH B ν R n) (hI : Inv B) {F : Nat → Int} (hF : HFc ν F) {w c : Nat → Int} {N : Nat} (hN : N ≤ 24) (h6 : gi ν iC_meetings 6 = N) (hr : ∀ i : Nat, i < N → gi ν iC_meetings_payers i = w i ∧ gi ν iC_meetings_paid i = c i) (hw : wOk w c N) {y : Int} (hy : 0 ≤ y ∧ y < 8) : ∃ b ν', fX11_noteChain (j32 y) iC_meetings_facts ν R = some (j32 b, ν') ∧ (∀ o, (o < 28 ∨ 33 < o) → gi ν' o = gi ν o) ∧ ((b = 1 ∧ B iM 37 + ctk w c y N ≤ 60 ∧ CH (stk 1 w c y (lapF V F (B iM 0)) B N) ν' R n) ∨ (b = 0 ∧ 60 < B iM 37 + ctk w c y N ∧ ∃ k, k ≤ N ∧ B iM 37 + ctk w c y k ≤ 60 ∧ CH (stk 1 w c y (lapF V F (B iM 0)) B k) ν' R n)) := by
  have h0 := hI.now
  have hv := hL.2.2 108 100 F (Or.inr (Or.inr ⟨rfl, rfl⟩))
  obtain ⟨ρ, e1, e2⟩ := eC_lapse hL hC hF
  have hC1 := hC.gi0 e2
  have hl : -1 ≤ lapF V F (B iM 0) ∧ lapF V F (B iM 0) ≤ 199 := by unfold lapF; split <;> omega
  obtain ⟨r, f1, ν', f2, f3⟩ := ncL hC1 hI hN (by rw [e2]; exact h6) (fun i hi => by rw [e2]; exact hr i hi) hw hy hl
  have key : fX11_noteChain (j32 y) iC_meetings_facts ν R = xsm r (fun q14 => some (j32 1, q14)) (fun q15 => some q15) := by
    have g : fX11_noteChain_j20 (j32 (lapF V F (B iM 0))) (j32 y) (j32 (V 108 F), ρ) = xsm r (fun q14 => some (j32 1, q14)) (fun q15 => some q15) := by
      unfold fX11_noteChain_j20
      simp only [lits]
      rw [f1]
      rfl
    have e3 := hC1.now
    unfold fX11_noteChain
    rw [e1, xbd_e]
    simp only [lits]
    by_cases d : V 108 F = 0
    · rw [if_pos (by rw [d]), ← g, show lapF V F (B iM 0) = -1 from if_pos d]; rfl
    · rw [if_neg (by rw [j_eq (by omega) (by omega)]; exact d), ← g, show lapF V F (B iM 0) = B iM 0 + V 108 F from if_neg d, j_rd, j_add]
      show fX11_noteChain_j20 (j32 (gi ρ iC 8 + _)) _ _ = _
      rw [e3]
  have f4 : ∀ o, (o < 28 ∨ 33 < o) → gi ν' o = gi ν o := fun o ho => (f2 o ho).trans (congrFun e2 o)
  rcases f3 with ⟨rfl, q1, q2⟩ | ⟨rfl, q1, q2⟩
  · exact ⟨1, ν', key, f4, Or.inl ⟨rfl, q1, q2⟩⟩
  · exact ⟨0, ν', key, f4, Or.inr ⟨rfl, q1, q2⟩⟩
/-- the notes that were made are dropped -/
theorem drop_ok {A B : xAs} {ν : xm} {R : xr} {n : Nat} (hI : Inv A) (hx : nExt A B) (hC : CH B ν R n) : fX4_dropFrom (j32 (A iM 37)) ν = some (wr ν iC_notes 6 (A iM 37)) ∧ CH A (wr ν iC_notes 6 (A iM 37)) R n := by
  have h1 := hI.notes
  constructor
  · unfold fX4_dropFrom fX11_held
    simp only [lits]
    rw [j_min (by omega) (by omega), j_max (by omega) (by omega), xbd_e, show max 0 (min 60 (A iM 37)) = A iM 37 by omega]
    rfl
  · obtain ⟨x1, x2, x3, x4⟩ := hx
    refine hC.u_notes (fun o h1 h2 h3 h4 h5 h6 h7 => gi_wr_f h6) (fun z hz e => gi_wr_z (by omega)) (fun o h1 h2 h3 h4 h5 h6 => (x1 o h1 h2 h3 h4 h5 h6).symm) (fun k hk e => (x2 k hk e).symm) (gi_wr (by omega)) ?_ ?_ ?_ ?_ ?_
    · intro i hi hi2; rw [gi_wr_o (by decide), hC.owers i hi (by omega)]; exact (x4 i hi hi2).1
    · intro i hi hi2; rw [gi_wr_o (by decide), hC.holders i hi (by omega)]; exact (x4 i hi hi2).2.1
    · intro i hi hi2; rw [gi_wr_o (by decide), hC.minutes i hi (by omega)]; exact (x4 i hi hi2).2.2.1
    · intro i hi hi2; rw [gi_wr_o (by decide), hC.made i hi (by omega)]; exact (x4 i hi hi2).2.2.2.1
    · intro i hi hi2; rw [gi_wr_o (by decide), hC.lapses i hi (by omega)]; exact (x4 i hi hi2).2.2.2.2
