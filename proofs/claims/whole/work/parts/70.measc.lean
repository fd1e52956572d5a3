/-! round: the class measures -/
def MS (oD oL ob od of : Nat) (D L b d f : Int → Int) (ν : xm) : Prop := (∀ z, 0 ≤ z → z < 64 → gi ν oD z = D z) ∧ (∀ z, 0 ≤ z → z < 64 → gi ν oL z = L z) ∧ (∀ x, P8 x → gi ν ob x = b x) ∧ (∀ x, P8 x → gi ν od x = d x) ∧ ∀ x, P8 x → gi ν of x = f x
abbrev MC (D L b d f : Int → Int) (ν : xm) : Prop := MS iC_striking_due iC_striking_left iC_striking_balance iC_striking_away iC_striking_from D L b d f ν
theorem MS_w {oD oL ob od of : Nat} {D L b d f : Int → Int} {ν : xm} (h : MS oD oL ob od of D L b d f ν) (h1 : oD ≠ od ∧ oD ≠ of ∧ oL ≠ od ∧ oL ≠ of ∧ ob ≠ od ∧ ob ≠ of ∧ od ≠ of) {y v w : Int} (hy : P8 y) (hv : -2147483648 ≤ v ∧ v < 2147483648) (hw : -2147483648 ≤ w ∧ w < 2147483648) : MS oD oL ob od of D L b (up1 d y v) (up1 f y w) (wr (wr ν od y v) of y w) := by
  obtain ⟨a1, a2, a3, a4, a5⟩ := h
  obtain ⟨n1, n2, n3, n4, n5, n6, n7⟩ := h1
  refine ⟨fun z p q => ?_, fun z p q => ?_, fun x hx => ?_, fun x hx => ?_, fun x hx => ?_⟩
  · rw [gi_wr_f n2, gi_wr_f n1]; exact a1 z p q
  · rw [gi_wr_f n4, gi_wr_f n3]; exact a2 z p q
  · rw [gi_wr_f n6, gi_wr_f n5]; exact a3 x hx
  · rw [gi_wr_f n7, gi_wr_if ⟨hy.1, hx.1⟩ hv, a4 x hx]; rfl
  · rw [gi_wr_if ⟨hy.1, hx.1⟩ hw, gi_wr_f (Ne.symm n7), a5 x hx]; rfl
abbrev idC : (iC_striking_due ≠ iC_striking_away ∧ iC_striking_due ≠ iC_striking_from ∧ iC_striking_left ≠ iC_striking_away ∧ iC_striking_left ≠ iC_striking_from ∧ iC_striking_balance ≠ iC_striking_away ∧ iC_striking_balance ≠ iC_striking_from ∧ iC_striking_away ≠ iC_striking_from) := by decide
def fR (μ ν : xm) : Prop := ∀ o, (o < 36 ∨ 40 < o) → gi ν o = gi μ o
theorem fR.rf {μ : xm} : fR μ μ := fun _ _ => rfl
theorem fR.tr {μ ν ρ : xm} (h1 : fR μ ν) (h2 : fR ν ρ) : fR μ ρ := fun o h => (h2 o h).trans (h1 o h)
theorem fR_w {ν : xm} {y v w : Int} : fR ν (wr (wr ν iC_striking_away y v) iC_striking_from y w) := fun o h => by
  rw [gi_wr_f (by show o ≠ 40; omega), gi_wr_f (by show o ≠ 39; omega)]
theorem eX7_leftFrom {D L b d f : Int → Int} {ν : xm} (h : MC D L b d f ν) {x y : Int} (hx : P8 x) (hy : P8 y) : fX7_leftFrom (j32 x) (j32 y) ν = some (j32 (L (8 * x + y))) := by
  have e1 := eX11_isPerson (p := x) (by omega)
  have e2 := eX11_isPerson (p := y) (by omega)
  have e3 := h.2.1 (8 * x + y) (by omega) (by omega)
  unfold fX7_leftFrom
  simp (disch := omega) only [Bool.false_eq_true, lits, jj, jc, jm, Int.cast_ofNat_Int, j_bi0, j_bi1, not_true, not_false_eq_true, if_true, if_false, xe, xok_some, Sum.elim_inl, Sum.elim_inr, Int.reduceEq, Int.reduceLT, Int.reduceLE, Int.reduceAdd, Int.reduceSub, Int.reduceMul, e1, eq_true hx, e2, eq_true hy, show x * 8 + y = 8 * x + y by omega, e3]
theorem eX7_dueFrom {D L b d f : Int → Int} {ν : xm} (h : MC D L b d f ν) {x y : Int} (hx : P8 x) (hy : P8 y) : fX7_dueFrom (j32 x) (j32 y) ν = some (j32 (D (8 * x + y))) := by
  have e1 := eX11_isPerson (p := x) (by omega)
  have e2 := eX11_isPerson (p := y) (by omega)
  have e3 := h.1 (8 * x + y) (by omega) (by omega)
  unfold fX7_dueFrom
  simp (disch := omega) only [Bool.false_eq_true, lits, jj, jc, jm, Int.cast_ofNat_Int, j_bi0, j_bi1, not_true, not_false_eq_true, if_true, if_false, xe, xok_some, Sum.elim_inl, Sum.elim_inr, Int.reduceEq, Int.reduceLT, Int.reduceLE, Int.reduceAdd, Int.reduceSub, Int.reduceMul, e1, eq_true hx, e2, eq_true hy, show x * 8 + y = 8 * x + y by omega, e3]
theorem eX7_length {D L b d f : Int → Int} {ν : xm} (h : MC D L b d f ν) (hL : okL D L) {x y : Int} (hx : P8 x) (hy : P8 y) : fX7_length (j32 x) (j32 y) ν = some (j32 (lnR L x y)) := by
  have e1 := eX7_leftFrom h hy hx
  have b1 := hL (8 * y + x) (by omega) (by omega)
  unfold fX7_length lnR
  by_cases c : 0 < L (8 * y + x)
  · simp (disch := omega) only [Bool.false_eq_true, lits, jj, jc, jm, Int.cast_ofNat_Int, j_bi0, j_bi1, not_true, not_false_eq_true, if_true, if_false, xe, xok_some, Sum.elim_inl, Sum.elim_inr, Int.reduceEq, Int.reduceLT, Int.reduceLE, Int.reduceAdd, Int.reduceSub, Int.reduceMul, e1, show ¬ L (8 * y + x) ≤ 0 by omega, c]
  · simp (disch := omega) only [Bool.false_eq_true, lits, jj, jc, jm, Int.cast_ofNat_Int, j_bi0, j_bi1, not_true, not_false_eq_true, if_true, if_false, xe, xok_some, Sum.elim_inl, Sum.elim_inr, Int.reduceEq, Int.reduceLT, Int.reduceLE, Int.reduceAdd, Int.reduceSub, Int.reduceMul, e1, show L (8 * y + x) ≤ 0 by omega, c]
theorem eX7_room {D L b d f : Int → Int} {ν : xm} (h : MC D L b d f ν) (hL : okL D L) {x y : Int} (hx : P8 x) (hy : P8 y) : fX7_room (j32 x) (j32 y) ν = some (j32 (rmR D L x y)) := by
  have e1 := eX7_leftFrom h hy hx
  have e2 := eX7_leftFrom h hx hy
  have e3 := eX7_dueFrom h hx hy
  have b1 := hL (8 * y + x) (by omega) (by omega)
  unfold fX7_room rmR
  by_cases c : 0 < L (8 * y + x)
  · simp (disch := omega) only [Bool.false_eq_true, lits, jj, jc, jm, Int.cast_ofNat_Int, j_bi0, j_bi1, not_true, not_false_eq_true, if_true, if_false, xe, xok_some, Sum.elim_inl, Sum.elim_inr, Int.reduceEq, Int.reduceLT, Int.reduceLE, Int.reduceAdd, Int.reduceSub, Int.reduceMul, e1, show ¬ L (8 * y + x) ≤ 0 by omega, c]
  · simp (disch := omega) only [Bool.false_eq_true, lits, jj, jc, jm, Int.cast_ofNat_Int, j_bi0, j_bi1, not_true, not_false_eq_true, if_true, if_false, xe, xok_some, Sum.elim_inl, Sum.elim_inr, Int.reduceEq, Int.reduceLT, Int.reduceLE, Int.reduceAdd, Int.reduceSub, Int.reduceMul, e1, show L (8 * y + x) ≤ 0 by omega, c, e2, e3]
theorem rmR_b {D L : Int → Int} (hL : okL D L) {x y : Int} (hx : P8 x) (hy : P8 y) : 0 ≤ rmR D L x y ∧ rmR D L x y ≤ 86400 := by
  have b1 := hL (8 * y + x) (by omega) (by omega)
  have b2 := hL (8 * x + y) (by omega) (by omega)
  unfold rmR; split <;> omega
theorem rXR_x {D L : Int → Int} (hd : dgR D L) {x : Int} (hx : P8 x) {s : SS} : ∀ k : Nat, (rXR D L x s k).1 x = s.1 x
  | 0 => rfl
  | k + 1 => by
    have ih := rXR_x (s := s) hd hx k
    show (rxR D L x k (rXR D L x s k)).1 x = _
    unfold rxR
    by_cases c : rxC D L x k (rXR D L x s k)
    · have hne : x ≠ k := fun e => by have := hd x hx; have c2 := c.2.1; rw [← e] at c2; omega
      rw [if_pos c]
      show up1 _ _ _ x = _
      rw [up1_n hne]; exact ih
    · rw [if_neg c]; exact ih
theorem rXR_no {D L : Int → Int} {x : Int} {s : SS} (h : ¬ s.1 x < 1000) : ∀ k : Nat, rXR D L x s k = s
  | 0 => rfl
  | k + 1 => by
    show rxR D L x k (rXR D L x s k) = _
    rw [rXR_no h k]
    unfold rxR
    rw [if_neg (fun c => h c.1)]
theorem wid_ok {D L b : Int → Int} (hL : okL D L) (hd : dgR D L) {x : Int} (hx : P8 x) {s : SS} {n : Int} (hB : BR n s) (hn : 0 ≤ n ∧ n + 8 < 900) (hx1 : s.1 x < 1000) {ν : xm} (h : MC D L b s.1 s.2 ν) : ∃ c ν', fX7_widen (j32 x) ν = some (j32 c, ν') ∧ (c = 0 ∨ c = 1) ∧ (c = 0 → rXR D L x s 8 = s) ∧ MC D L b (rXR D L x s 8).1 (rXR D L x s 8).2 ν' ∧ fR ν ν' := by
  have key : xok (xloop xfu (fun v => fX7_widen_b13 v.1 v.2.1 v.2.2 (j32 x)) (j32 0, j32 0, ν)) (fun q => ∃ c, q.1 = j32 c ∧ (c = 0 ∨ c = 1) ∧ (c = 0 → rXR D L x s 8 = s) ∧ MC D L b (rXR D L x s 8).1 (rXR D L x s 8).2 q.2 ∧ fR ν q.2) := by
    refine xok_for (fun k t => t.2.1 = j32 k ∧ ∃ c, t.1 = j32 c ∧ (c = 0 ∨ c = 1) ∧ (c = 0 → rXR D L x s k = s) ∧ MC D L b (rXR D L x s k).1 (rXR D L x s k).2 t.2.2 ∧ fR ν t.2.2) 8 (by omega) ⟨rfl, 0, rfl, Or.inl rfl, fun _ => rfl, h, fR.rf⟩ ?_ ?_
    · intro k t hk ht
      obtain ⟨t1, t2, σ⟩ := t
      obtain ⟨g1, c, g2, g3, g4, g5, g6⟩ := ht
      simp only at g1 g2 g3 g4 g5 g6
      subst g1; subst g2
      have hy : P8 (k : Int) := ⟨by omega, by omega⟩
      have hBk := BR_X (D := D) (L := L) hx hB hn k (by omega)
      have hxx := rXR_x (D := D) (L := L) (s := s) hd hx k
      have e : rXR D L x s (k + 1) = rxR D L x k (rXR D L x s k) := rfl
      rw [e]
      generalize rXR D L x s k = r at *
      have e1 := eX7_room g5 hL hx hy
      have e2 := eX7_length g5 hL hx hy
      have b1 := rmR_b hL hx hy
      have bl := lnR_b L x k
      have bx := hBk x hx
      have by' := hBk k hy
      have d1 := g5.2.2.2.1 x hx
      have d2 := g5.2.2.2.1 k hy
      show xok (fX7_widen_b13 (j32 c) (j32 k) σ (j32 x)) _
      by_cases cc : rxC D L x k r
      · have e3 : rxR D L x k r = (up1 r.1 k (r.1 x + lnR L x k), up1 r.2 k x) := if_pos cc
        obtain ⟨c1, c2, c3⟩ := cc
        have m := MS_w g5 idC hy (v := r.1 x + lnR L x k) (w := x) (by omega) (by omega)
        rw [e3]
        unfold fX7_widen_b13
        simp (disch := omega) only [Bool.false_eq_true, lits, jj, jc, jm, Int.cast_ofNat_Int, j_bi0, j_bi1, not_true, not_false_eq_true, if_true, if_false, xe, xok_some, Sum.elim_inl, Sum.elim_inr, Int.reduceEq, Int.reduceLT, Int.reduceLE, Int.reduceAdd, Int.reduceSub, Int.reduceMul, show ¬ (8 : Int) ≤ k by omega, e1, show ¬ rmR D L x k ≤ 0 by omega, d1, e2, d2, c3]
        exact ⟨rfl, 1, rfl, Or.inr rfl, fun h => by omega, m, g6.tr fR_w⟩
      · have e3 : rxR D L x k r = r := if_neg cc
        rw [e3]
        have st : fX7_widen_b13 (j32 c) (j32 k) σ (j32 x) = some (.inl (j32 c, j32 ((k : Int) + 1), σ)) := by
          unfold fX7_widen_b13
          by_cases c2 : rmR D L x k ≤ 0
          · simp (disch := omega) only [Bool.false_eq_true, lits, jj, jc, jm, Int.cast_ofNat_Int, j_bi0, j_bi1, not_true, not_false_eq_true, if_true, if_false, xe, xok_some, Sum.elim_inl, Sum.elim_inr, Int.reduceEq, Int.reduceLT, Int.reduceLE, Int.reduceAdd, Int.reduceSub, Int.reduceMul, show ¬ (8 : Int) ≤ k by omega, e1, c2]
          · have c3 : ¬ r.1 x + lnR L x k < r.1 k := fun h => cc ⟨by omega, by omega, h⟩
            simp (disch := omega) only [Bool.false_eq_true, lits, jj, jc, jm, Int.cast_ofNat_Int, j_bi0, j_bi1, not_true, not_false_eq_true, if_true, if_false, xe, xok_some, Sum.elim_inl, Sum.elim_inr, Int.reduceEq, Int.reduceLT, Int.reduceLE, Int.reduceAdd, Int.reduceSub, Int.reduceMul, show ¬ (8 : Int) ≤ k by omega, e1, c2, d1, e2, d2, c3]
        rw [st, xok_some]
        exact ⟨rfl, c, rfl, g3, g4, g5, g6⟩
    · intro t ht
      obtain ⟨t1, t2, σ⟩ := t
      obtain ⟨g1, c, g2, g3, g4, g5, g6⟩ := ht
      simp only at g1 g2 g3 g4 g5 g6
      subst g1; subst g2
      show xok (fX7_widen_b13 _ (j32 (8 : Nat)) σ _) _
      unfold fX7_widen_b13
      simp (disch := omega) only [Bool.false_eq_true, lits, jj, jc, jm, Int.cast_ofNat_Int, j_bi0, j_bi1, not_true, not_false_eq_true, if_true, if_false, xe, xok_some, Sum.elim_inl, Sum.elim_inr, Int.reduceEq, Int.reduceLT, Int.reduceLE, Int.reduceAdd, Int.reduceSub, Int.reduceMul, show ((8 : Nat) : Int) = 8 from rfl]
      exact ⟨c, rfl, g3, g4, g5, g6⟩
  obtain ⟨q, q1, c, q2, q3, q4, q5, q6⟩ := key
  refine ⟨c, q.2, ?_, q3, q4, q5, q6⟩
  have e0 := eX11_isPerson (p := x) (by omega)
  unfold fX7_widen
  simp only [lits] at q1 ⊢
  rw [e0, xbd_e, if_neg (by rw [j_bi0]; exact not_not_intro hx), q1, xbd_e, q2]
  rcases q3 with rfl | rfl <;> rfl
theorem mc61 {D L b : Int → Int} (hL : okL D L) (hd : dgR D L) {s : SS} {n : Int} (hB : BR n s) (hn : 0 ≤ n ∧ n + 64 < 890) {ν : xm} (h : MC D L b s.1 s.2 ν) : xok (xloop xfu (fun v => fX7_measure_b61 v.1 v.2.1 v.2.2) (j32 0, j32 0, ν)) (fun q => ∃ c, q.1 = j32 c ∧ (c = 0 ∨ c = 1) ∧ (c = 0 → rRR D L s 8 = s) ∧ MC D L b (rRR D L s 8).1 (rRR D L s 8).2 q.2 ∧ fR ν q.2) := by
  refine xok_for (fun k t => t.2.1 = j32 k ∧ ∃ c, t.1 = j32 c ∧ (c = 0 ∨ c = 1) ∧ (c = 0 → rRR D L s k = s) ∧ MC D L b (rRR D L s k).1 (rRR D L s k).2 t.2.2 ∧ fR ν t.2.2) 8 (by omega) ⟨rfl, 0, rfl, Or.inl rfl, fun _ => rfl, h, fR.rf⟩ ?_ ?_
  · intro k t hk ht
    obtain ⟨t1, t2, σ⟩ := t
    obtain ⟨g1, c, g2, g3, g4, g5, g6⟩ := ht
    simp only at g1 g2 g3 g4 g5 g6
    subst g1; subst g2
    have hx : P8 (k : Int) := ⟨by omega, by omega⟩
    have hBk := BR_R (D := D) (L := L) hB (by omega) k (by omega)
    have e : rRR D L s (k + 1) = rXR D L k (rRR D L s k) 8 := rfl
    rw [e]
    generalize rRR D L s k = r at *
    have bx := hBk k hx
    have d1 := g5.2.2.2.1 k hx
    show xok (fX7_measure_b61 (j32 c) (j32 k) σ) _
    by_cases c1 : r.1 k < 1000
    · obtain ⟨c', ν', r1, r2, r3, r4, r5⟩ := wid_ok (b := b) hL hd hx hBk (by omega) c1 g5
      generalize rXR D L k r 8 = r' at *
      have st : fX7_measure_b61 (j32 c) (j32 k) σ = some (.inl (j32 (if c' = 0 then c else 1), j32 ((k : Int) + 1), ν')) := by
        unfold fX7_measure_b61
        rcases r2 with rfl | rfl
        · simp (disch := omega) only [Bool.false_eq_true, lits, jj, jc, jm, Int.cast_ofNat_Int, j_bi0, j_bi1, not_true, not_false_eq_true, if_true, if_false, xe, xok_some, Sum.elim_inl, Sum.elim_inr, Int.reduceEq, Int.reduceLT, Int.reduceLE, Int.reduceAdd, Int.reduceSub, Int.reduceMul, show ¬ (8 : Int) ≤ k by omega, d1, show ¬ 1000 ≤ r.1 k by omega, r1]
        · simp (disch := omega) only [Bool.false_eq_true, lits, jj, jc, jm, Int.cast_ofNat_Int, j_bi0, j_bi1, not_true, not_false_eq_true, if_true, if_false, xe, xok_some, Sum.elim_inl, Sum.elim_inr, Int.reduceEq, Int.reduceLT, Int.reduceLE, Int.reduceAdd, Int.reduceSub, Int.reduceMul, show ¬ (8 : Int) ≤ k by omega, d1, show ¬ 1000 ≤ r.1 k by omega, r1]
      rw [st, xok_some]
      refine ⟨rfl, if c' = 0 then c else 1, rfl, by split <;> omega, fun h => ?_, r4, g6.tr r5⟩
      by_cases q : c' = 0
      · rw [if_pos q] at h
        exact (r3 q).trans (g4 h)
      · rw [if_neg q] at h; omega
    · have e2 : rXR D L k r 8 = r := rXR_no c1 8
      rw [e2]
      unfold fX7_measure_b61
      simp (disch := omega) only [Bool.false_eq_true, lits, jj, jc, jm, Int.cast_ofNat_Int, j_bi0, j_bi1, not_true, not_false_eq_true, if_true, if_false, xe, xok_some, Sum.elim_inl, Sum.elim_inr, Int.reduceEq, Int.reduceLT, Int.reduceLE, Int.reduceAdd, Int.reduceSub, Int.reduceMul, show ¬ (8 : Int) ≤ k by omega, d1, show 1000 ≤ r.1 k by omega]
      exact ⟨rfl, c, rfl, g3, g4, g5, g6⟩
  · intro t ht
    obtain ⟨t1, t2, σ⟩ := t
    obtain ⟨g1, c, g2, g3, g4, g5, g6⟩ := ht
    simp only at g1 g2 g3 g4 g5 g6
    subst g1; subst g2
    show xok (fX7_measure_b61 _ (j32 (8 : Nat)) σ) _
    unfold fX7_measure_b61
    simp (disch := omega) only [Bool.false_eq_true, lits, jj, jc, jm, Int.cast_ofNat_Int, j_bi0, j_bi1, not_true, not_false_eq_true, if_true, if_false, xe, xok_some, Sum.elim_inl, Sum.elim_inr, Int.reduceEq, Int.reduceLT, Int.reduceLE, Int.reduceAdd, Int.reduceSub, Int.reduceMul, show ((8 : Nat) : Int) = 8 from rfl]
    exact ⟨c, rfl, g3, g4, g5, g6⟩
theorem rNR_fix {D L : Int → Int} {s : SS} {k : Nat} (h : rRR D L (rNR D L s k) 8 = rNR D L s k) : ∀ j : Nat, k ≤ j → rNR D L s j = rNR D L s k
  | 0, hj => by rw [show k = 0 by omega]
  | j + 1, hj => by
    by_cases c : k = j + 1
    · rw [c]
    · have ih := rNR_fix h j (by omega)
      have e : rNR D L s (j + 1) = rRR D L (rNR D L s j) 8 := rfl
      rw [e, ih]; exact h
theorem mcInit {D L b d f : Int → Int} (hb : ∀ x, P8 x → -86400 ≤ b x ∧ b x ≤ 86400) {ν : xm} (h : MC D L b d f ν) : xok (xloop xfu (fun v => fX7_measure_b2 v.1 v.2) (j32 0, ν)) (fun ν' => MC D L b (s0R b).1 (s0R b).2 ν' ∧ fR ν ν') := by
  refine xok_for (fun k t => t.1 = j32 k ∧ fR ν t.2 ∧ ∃ d' f', MC D L b d' f' t.2 ∧ ∀ x : Int, 0 ≤ x → x < k → d' x = (s0R b).1 x ∧ f' x = (s0R b).2 x) 8 (by omega) ⟨rfl, fR.rf, d, f, h, fun x a b => by omega⟩ ?_ ?_
  · intro k t hk ht
    obtain ⟨t1, σ⟩ := t
    obtain ⟨g1, g2, d', f', g3, g4⟩ := ht
    simp only at g1 g2 g3 g4
    subst g1
    have hx : P8 (k : Int) := ⟨by omega, by omega⟩
    have d1 := g3.2.2.1 k hx
    have bb := hb k hx
    have st : fX7_measure_b2 (j32 k) σ = some (.inl (j32 ((k : Int) + 1), wr (wr σ iC_striking_away k (if 0 < b k then 0 else 1000)) iC_striking_from k (-1))) := by
      unfold fX7_measure_b2 fX7_measure_j29
      by_cases c : 0 < b k
      · simp (disch := omega) only [Bool.false_eq_true, lits, jj, jc, jm, Int.cast_ofNat_Int, j_bi0, j_bi1, not_true, not_false_eq_true, if_true, if_false, xe, xok_some, Sum.elim_inl, Sum.elim_inr, Int.reduceEq, Int.reduceLT, Int.reduceLE, Int.reduceAdd, Int.reduceSub, Int.reduceMul, show ¬ (8 : Int) ≤ k by omega, d1, show ¬ b k ≤ 0 by omega, c]
      · simp (disch := omega) only [Bool.false_eq_true, lits, jj, jc, jm, Int.cast_ofNat_Int, j_bi0, j_bi1, not_true, not_false_eq_true, if_true, if_false, xe, xok_some, Sum.elim_inl, Sum.elim_inr, Int.reduceEq, Int.reduceLT, Int.reduceLE, Int.reduceAdd, Int.reduceSub, Int.reduceMul, show ¬ (8 : Int) ≤ k by omega, d1, show b k ≤ 0 by omega, c]
    have m := MS_w g3 idC hx (v := if 0 < b k then 0 else 1000) (w := -1) (by split <;> omega) (by omega)
    show xok (fX7_measure_b2 (j32 k) σ) _
    rw [st, xok_some]
    refine ⟨rfl, g2.tr fR_w, _, _, m, fun x a c => ?_⟩
    by_cases e : x = k
    · subst e; rw [up1_s, up1_s]; exact ⟨rfl, rfl⟩
    · rw [up1_n e, up1_n e]; exact g4 x a (by omega)
  · intro t ht
    obtain ⟨t1, σ⟩ := t
    obtain ⟨g1, g2, d', f', g3, g4⟩ := ht
    simp only at g1 g2 g3 g4
    subst g1
    show xok (fX7_measure_b2 (j32 (8 : Nat)) σ) _
    unfold fX7_measure_b2
    simp (disch := omega) only [Bool.false_eq_true, lits, jj, jc, jm, Int.cast_ofNat_Int, j_bi0, j_bi1, not_true, not_false_eq_true, if_true, if_false, xe, xok_some, Sum.elim_inl, Sum.elim_inr, Int.reduceEq, Int.reduceLT, Int.reduceLE, Int.reduceAdd, Int.reduceSub, Int.reduceMul, show ((8 : Nat) : Int) = 8 from rfl]
    obtain ⟨a1, a2, a3, a4, a5⟩ := g3
    exact ⟨⟨a1, a2, a3, fun x hx => (a4 x hx).trans (g4 x hx.1 hx.2).1, fun x hx => (a5 x hx).trans (g4 x hx.1 hx.2).2⟩, g2⟩
theorem mea_C {D L b d f : Int → Int} (hP : PI D L b) {ν : xm} (h : MC D L b d f ν) : ∃ ν', fX7_measure ν = some ν' ∧ MC D L b (meaR D L b).1 (meaR D L b).2 ν' ∧ fR ν ν' := by
  obtain ⟨hL, hd, _, hb⟩ := hP
  obtain ⟨ν1, r1, r2, r3⟩ := mcInit hb h
  have key : xok (xloop xfu (fun v => fX7_measure_b47 v.1 v.2.1 v.2.2) (j32 1, j32 0, ν1)) (fun ν' => MC D L b (rNR D L (s0R b) 8).1 (rNR D L (s0R b) 8).2 ν' ∧ fR ν1 ν') := by
    refine xok_for (fun k t => t.2.1 = j32 k ∧ ∃ c, t.1 = j32 c ∧ (c = 0 ∨ c = 1) ∧ (c = 0 → rNR D L (s0R b) 8 = rNR D L (s0R b) k) ∧ MC D L b (rNR D L (s0R b) k).1 (rNR D L (s0R b) k).2 t.2.2 ∧ fR ν1 t.2.2) 8 (by omega) ⟨rfl, 1, rfl, Or.inr rfl, fun h => by omega, r2, fR.rf⟩ ?_ ?_
    · intro k t hk ht
      obtain ⟨t1, t2, σ⟩ := t
      obtain ⟨g1, c, g2, g3, g4, g5, g6⟩ := ht
      simp only at g1 g2 g3 g4 g5 g6
      subst g1; subst g2
      show xok (fX7_measure_b47 (j32 c) (j32 k) σ) _
      by_cases c0 : c = 0
      · subst c0
        rw [g4 rfl]
        unfold fX7_measure_b47
        simp (disch := omega) only [Bool.false_eq_true, lits, jj, jc, jm, Int.cast_ofNat_Int, j_bi0, j_bi1, not_true, not_false_eq_true, if_true, if_false, xe, xok_some, Sum.elim_inl, Sum.elim_inr, Int.reduceEq, Int.reduceLT, Int.reduceLE, Int.reduceAdd, Int.reduceSub, Int.reduceMul, show ¬ (8 : Int) ≤ k by omega]
        exact ⟨g5, g6⟩
      · have hBk := BR_N (D := D) (L := L) (b := b) k (by omega)
        obtain ⟨q, q1, c', q2, q3, q4, q5, q6⟩ := mc61 (b := b) hL hd hBk (by omega) g5
        unfold fX7_measure_b47
        simp only [lits] at q1 ⊢
        rw [if_neg (by rw [j_le (by omega) (by omega)]; omega), if_neg (by rw [j_eq (by omega) (by omega)]; exact c0), q1, xbd_e, xlt_e, j_add, xok_some]
        refine ⟨rfl, c', q2, q3, fun h => ?_, q5, g6.tr q6⟩
        have fx := rNR_fix (q4 h)
        rw [fx 8 (by omega)]
        exact (q4 h).symm
    · intro t ht
      obtain ⟨t1, t2, σ⟩ := t
      obtain ⟨g1, c, g2, g3, g4, g5, g6⟩ := ht
      simp only at g1 g2 g3 g4 g5 g6
      subst g1; subst g2
      show xok (fX7_measure_b47 _ (j32 (8 : Nat)) σ) _
      unfold fX7_measure_b47
      simp (disch := omega) only [Bool.false_eq_true, lits, jj, jc, jm, Int.cast_ofNat_Int, j_bi0, j_bi1, not_true, not_false_eq_true, if_true, if_false, xe, xok_some, Sum.elim_inl, Sum.elim_inr, Int.reduceEq, Int.reduceLT, Int.reduceLE, Int.reduceAdd, Int.reduceSub, Int.reduceMul, show ((8 : Nat) : Int) = 8 from rfl]
      exact ⟨g5, g6⟩
  obtain ⟨ν', t1, t2, t3⟩ := key
  refine ⟨ν', ?_, ?_, r3.tr t3⟩
  · unfold fX7_measure
    simp only [lits] at r1 t1 ⊢
    rw [r1, xbd_e, t1, xbd_e]
  · unfold meaR; exact t2
theorem nt_C {D L b d f : Int → Int} {ν : xm} (h : MC D L b d f ν) (hd : ∀ x, P8 x → -1000 ≤ d x ∧ d x ≤ 1000) (hb : ∀ x, P8 x → -86400 ≤ b x ∧ b x ≤ 86400) : fX7_nearestTaker ν = some (j32 (ntR b d 8)) := by
  have key : xloop xfu (fun v => fX7_nearestTaker_b8 v.1 v.2.1 v.2.2 ν) (j32 (-1), j32 1000, j32 0) = some (j32 (ntR b d 8)) := by
    refine xloop_for (fun k : Nat => (j32 (ntR b d k), j32 (if ntR b d k = -1 then 1000 else d (ntR b d k)), j32 k)) 8 (by omega) rfl ?_ ?_
    · intro k hk
      have hx : P8 (k : Int) := ⟨by omega, by omega⟩
      have ho := ntR_ok (b := b) (d := d) k
      have e : ntR b d (k + 1) = if b k < 0 ∧ d k < 1000 ∧ (ntR b d k = -1 ∨ d k < d (ntR b d k)) then (k : Int) else ntR b d k := rfl
      rw [e]
      generalize ntR b d k = t at *
      have d1 := h.2.2.1 k hx
      have d2 := h.2.2.2.1 k hx
      have bd := hd k hx
      have bb := hb k hx
      have bt : t ≠ -1 → -1000 ≤ d t ∧ d t ≤ 1000 := fun q => hd t ⟨by omega, by omega⟩
      obtain ⟨l, hl⟩ : ∃ l, (if t = -1 then 1000 else d t) = l := ⟨_, rfl⟩
      have hlb : -1000 ≤ l ∧ l ≤ 1000 := by
        rw [← hl]
        by_cases q : t = -1
        · rw [if_pos q]; omega
        · rw [if_neg q]; exact bt q
      have heq : (b k < 0 ∧ d k < 1000 ∧ (t = -1 ∨ d k < d t)) ↔ (b k < 0 ∧ d k < l) := by
        rw [← hl]
        by_cases q : t = -1
        · rw [if_pos q]; omega
        · rw [if_neg q]; have := (ho.2 q).2; omega
      show fX7_nearestTaker_b8 (j32 t) (j32 (if t = -1 then 1000 else d t)) (j32 k) ν = _
      rw [hl]
      by_cases c : b k < 0 ∧ d k < 1000 ∧ (t = -1 ∨ d k < d t)
      · rw [if_pos c, if_neg (show ¬ (k : Int) = -1 by omega)]
        have c' := heq.mp c
        unfold fX7_nearestTaker_b8
        simp (disch := omega) only [Bool.false_eq_true, lits, jj, jc, jm, Int.cast_ofNat_Int, j_bi0, j_bi1, not_true, not_false_eq_true, if_true, if_false, xe, xok_some, Sum.elim_inl, Sum.elim_inr, Int.reduceEq, Int.reduceLT, Int.reduceLE, Int.reduceAdd, Int.reduceSub, Int.reduceMul, show ¬ (8 : Int) ≤ k by omega, d1, show ¬ 0 ≤ b k by omega, d2, show ¬ l ≤ d k by omega]
        rfl
      · rw [if_neg c, hl]
        unfold fX7_nearestTaker_b8
        by_cases c2 : 0 ≤ b k
        · simp (disch := omega) only [Bool.false_eq_true, lits, jj, jc, jm, Int.cast_ofNat_Int, j_bi0, j_bi1, not_true, not_false_eq_true, if_true, if_false, xe, xok_some, Sum.elim_inl, Sum.elim_inr, Int.reduceEq, Int.reduceLT, Int.reduceLE, Int.reduceAdd, Int.reduceSub, Int.reduceMul, show ¬ (8 : Int) ≤ k by omega, d1, c2]
          rfl
        · have c3 : l ≤ d k := by
            by_cases q : d k < l
            · exact absurd (heq.mpr ⟨by omega, q⟩) c
            · omega
          simp (disch := omega) only [Bool.false_eq_true, lits, jj, jc, jm, Int.cast_ofNat_Int, j_bi0, j_bi1, not_true, not_false_eq_true, if_true, if_false, xe, xok_some, Sum.elim_inl, Sum.elim_inr, Int.reduceEq, Int.reduceLT, Int.reduceLE, Int.reduceAdd, Int.reduceSub, Int.reduceMul, show ¬ (8 : Int) ≤ k by omega, d1, c2, d2, c3]
          rfl
    · show fX7_nearestTaker_b8 _ _ (j32 (8 : Nat)) ν = _
      unfold fX7_nearestTaker_b8
      simp (disch := omega) only [Bool.false_eq_true, lits, jj, jc, jm, Int.cast_ofNat_Int, j_bi0, j_bi1, not_true, not_false_eq_true, if_true, if_false, xe, xok_some, Sum.elim_inl, Sum.elim_inr, Int.reduceEq, Int.reduceLT, Int.reduceLE, Int.reduceAdd, Int.reduceSub, Int.reduceMul, show ((8 : Nat) : Int) = 8 from rfl]
  unfold fX7_nearestTaker
  simp only [lits]
  rw [j_neg, key, xbd_e]
