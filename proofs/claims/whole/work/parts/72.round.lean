/-! round: the reference -/
abbrev MM (D L b d f : Int → Int) (ν : xm) : Prop := MS iM_most0 iM_least0 iM_balance iM_way iM_cameBy D L b d f ν
abbrev idM : (iM_most0 ≠ iM_way ∧ iM_most0 ≠ iM_cameBy ∧ iM_least0 ≠ iM_way ∧ iM_least0 ≠ iM_cameBy ∧ iM_balance ≠ iM_way ∧ iM_balance ≠ iM_cameBy ∧ iM_way ≠ iM_cameBy) := by decide
def fRm (μ ν : xm) : Prop := ∀ o, (o < 93 ∨ 97 < o) → gi ν o = gi μ o
theorem fRm.rf {μ : xm} : fRm μ μ := fun _ _ => rfl
theorem fRm.tr {μ ν ρ : xm} (h1 : fRm μ ν) (h2 : fRm ν ρ) : fRm μ ρ := fun o h => (h2 o h).trans (h1 o h)
theorem fRm_w {ν : xm} {y v w : Int} : fRm ν (wr (wr ν iM_way y v) iM_cameBy y w) := fun o h => by
  rw [gi_wr_f (by show o ≠ 97; omega), gi_wr_f (by show o ≠ 96; omega)]
theorem rm61 {D L b : Int → Int} (hL : okL D L) (hd : dgR D L) {x : Int} (hx : P8 x) {s : SS} {n : Int} (hB : BR n s) (hn : 0 ≤ n ∧ n + 8 < 900) {ν : xm} (h : MM D L b s.1 s.2 ν) : xok (xloop xfu (fun v => fX12_measures_b61 v.1 v.2 (j32 x)) (j32 0, ν)) (fun ν' => MM D L b (rXR D L x s 8).1 (rXR D L x s 8).2 ν' ∧ fRm ν ν') := by
  refine xok_for (fun k t => t.1 = j32 k ∧ MM D L b (rXR D L x s k).1 (rXR D L x s k).2 t.2 ∧ fRm ν t.2) 8 (by omega) ⟨rfl, h, fRm.rf⟩ ?_ ?_
  · intro k t hk ht
    obtain ⟨t1, σ⟩ := t
    obtain ⟨g1, g5, g6⟩ := ht
    simp only at g1 g5 g6
    subst g1
    have hy : P8 (k : Int) := ⟨by omega, by omega⟩
    have hBk := BR_X (D := D) (L := L) hx hB hn k (by omega)
    have e : rXR D L x s (k + 1) = rxR D L x k (rXR D L x s k) := rfl
    rw [e]
    generalize rXR D L x s k = r at *
    have b1 := rmR_b hL hx hy
    have bl := lnR_b L x k
    have bx := hBk x hx
    have by' := hBk k hy
    have d1 := g5.2.2.2.1 x hx
    have d2 := g5.2.2.2.1 k hy
    have d3 := g5.2.1 (8 * k + x) (by omega) (by omega)
    have d4 := g5.2.1 (8 * x + k) (by omega) (by omega)
    have d5 := g5.1 (8 * x + k) (by omega) (by omega)
    have l1 := hL (8 * k + x) (by omega) (by omega)
    have l2 := hL (8 * x + k) (by omega) (by omega)
    have g137 : ∀ v : Int, v = lnR L x k → 0 < rmR D L x k → r.1 x < 1000 → fX12_measures_j137 (j32 v) (j32 x) (j32 k) σ = some (.inl (j32 ((k : Int) + 1), if rxC D L x k r then wr (wr σ iM_way k (r.1 x + lnR L x k)) iM_cameBy k x else σ)) := fun v hv hr h1 => by
      unfold fX12_measures_j137
      by_cases c : r.1 x + lnR L x k < r.1 k
      · rw [if_pos (show rxC D L x k r from ⟨h1, hr, c⟩)]
        simp (disch := omega) only [Bool.false_eq_true, lits, jj, jc, jm, Int.cast_ofNat_Int, j_bi0, j_bi1, not_true, not_false_eq_true, if_true, if_false, xe, xok_some, Sum.elim_inl, Sum.elim_inr, Int.reduceEq, Int.reduceLT, Int.reduceLE, Int.reduceAdd, Int.reduceSub, Int.reduceMul, hv, show lnR L x k ≠ 2000 by omega, d1, d2, c]
      · rw [if_neg (show ¬ rxC D L x k r from fun h => c h.2.2)]
        simp (disch := omega) only [Bool.false_eq_true, lits, jj, jc, jm, Int.cast_ofNat_Int, j_bi0, j_bi1, not_true, not_false_eq_true, if_true, if_false, xe, xok_some, Sum.elim_inl, Sum.elim_inr, Int.reduceEq, Int.reduceLT, Int.reduceLE, Int.reduceAdd, Int.reduceSub, Int.reduceMul, hv, show lnR L x k ≠ 2000 by omega, d1, d2, c]
    have st : fX12_measures_b61 (j32 k) σ (j32 x) = some (.inl (j32 ((k : Int) + 1), if rxC D L x k r then wr (wr σ iM_way k (r.1 x + lnR L x k)) iM_cameBy k x else σ)) := by
      unfold fX12_measures_b61
      by_cases c1 : r.1 x < 1000
      · by_cases c2 : x = k
        · have hr := hd x hx
          rw [c2] at hr
          simp (disch := omega) only [Bool.false_eq_true, lits, jj, jc, jm, Int.cast_ofNat_Int, j_bi0, j_bi1, not_true, not_false_eq_true, if_true, if_false, xe, xok_some, Sum.elim_inl, Sum.elim_inr, Int.reduceEq, Int.reduceLT, Int.reduceLE, Int.reduceAdd, Int.reduceSub, Int.reduceMul, show ¬ (8 : Int) ≤ k by omega, c2]
          rw [c2] at d1
          simp (disch := omega) only [Bool.false_eq_true, lits, jj, jc, jm, Int.cast_ofNat_Int, j_bi0, j_bi1, not_true, not_false_eq_true, if_true, if_false, xe, xok_some, Sum.elim_inl, Sum.elim_inr, Int.reduceEq, Int.reduceLT, Int.reduceLE, Int.reduceAdd, Int.reduceSub, Int.reduceMul, d1]
          rw [if_neg (show ¬ rxC D L k k r from fun h => by have := h.2.1; omega), if_neg (show ¬ r.1 k = 1000 by rw [← c2]; omega)]
        · by_cases c3 : 0 < L (8 * k + x)
          · have hl : lnR L x k = -1 := if_pos c3
            have hr : rmR D L x k = L (8 * k + x) := if_pos c3
            simp (disch := omega) only [Bool.false_eq_true, lits, jj, jc, jm, Int.cast_ofNat_Int, j_bi0, j_bi1, not_true, not_false_eq_true, if_true, if_false, xe, xok_some, Sum.elim_inl, Sum.elim_inr, Int.reduceEq, Int.reduceLT, Int.reduceLE, Int.reduceAdd, Int.reduceSub, Int.reduceMul, show ¬ (8 : Int) ≤ k by omega, d1, show r.1 x ≠ 1000 by omega, c2, d3, show ¬ L (8 * k + x) ≤ 0 by omega]
            exact g137 (-1) hl.symm (by omega) c1
          · have hl : lnR L x k = 1 := if_neg c3
            have hr : rmR D L x k = D (8 * x + k) - L (8 * x + k) := if_neg c3
            by_cases c4 : D (8 * x + k) ≤ L (8 * x + k)
            · simp (disch := omega) only [Bool.false_eq_true, lits, jj, jc, jm, Int.cast_ofNat_Int, j_bi0, j_bi1, not_true, not_false_eq_true, if_true, if_false, xe, xok_some, Sum.elim_inl, Sum.elim_inr, Int.reduceEq, Int.reduceLT, Int.reduceLE, Int.reduceAdd, Int.reduceSub, Int.reduceMul, show ¬ (8 : Int) ≤ k by omega, d1, show r.1 x ≠ 1000 by omega, c2, d3, show L (8 * k + x) ≤ 0 by omega, d4, d5, c4]
              rw [if_neg (fun h => by have := h.2.1; omega)]
              unfold fX12_measures_j137
              simp (disch := omega) only [Bool.false_eq_true, lits, jj, jc, jm, Int.cast_ofNat_Int, j_bi0, j_bi1, not_true, not_false_eq_true, if_true, if_false, xe, xok_some, Sum.elim_inl, Sum.elim_inr, Int.reduceEq, Int.reduceLT, Int.reduceLE, Int.reduceAdd, Int.reduceSub, Int.reduceMul]
            · simp (disch := omega) only [Bool.false_eq_true, lits, jj, jc, jm, Int.cast_ofNat_Int, j_bi0, j_bi1, not_true, not_false_eq_true, if_true, if_false, xe, xok_some, Sum.elim_inl, Sum.elim_inr, Int.reduceEq, Int.reduceLT, Int.reduceLE, Int.reduceAdd, Int.reduceSub, Int.reduceMul, show ¬ (8 : Int) ≤ k by omega, d1, show r.1 x ≠ 1000 by omega, c2, d3, show L (8 * k + x) ≤ 0 by omega, d4, d5, c4]
              exact g137 1 hl.symm (by omega) c1
      · simp (disch := omega) only [Bool.false_eq_true, lits, jj, jc, jm, Int.cast_ofNat_Int, j_bi0, j_bi1, not_true, not_false_eq_true, if_true, if_false, xe, xok_some, Sum.elim_inl, Sum.elim_inr, Int.reduceEq, Int.reduceLT, Int.reduceLE, Int.reduceAdd, Int.reduceSub, Int.reduceMul, show ¬ (8 : Int) ≤ k by omega, d1, show r.1 x = 1000 by omega]
        rw [if_neg (fun h => c1 h.1)]
    show xok (fX12_measures_b61 (j32 k) σ (j32 x)) _
    rw [st, xok_some]
    by_cases cc : rxC D L x k r
    · have e3 : rxR D L x k r = (up1 r.1 k (r.1 x + lnR L x k), up1 r.2 k x) := if_pos cc
      have m := MS_w g5 idM hy (v := r.1 x + lnR L x k) (w := x) (by have := cc.1; omega) (by omega)
      rw [if_pos cc, e3]
      exact ⟨rfl, m, g6.tr fRm_w⟩
    · have e3 : rxR D L x k r = r := if_neg cc
      rw [if_neg cc, e3]
      exact ⟨rfl, g5, g6⟩
  · intro t ht
    obtain ⟨t1, σ⟩ := t
    obtain ⟨g1, g5, g6⟩ := ht
    simp only at g1 g5 g6
    subst g1
    show xok (fX12_measures_b61 (j32 (8 : Nat)) σ _) _
    unfold fX12_measures_b61
    simp (disch := omega) only [Bool.false_eq_true, lits, jj, jc, jm, Int.cast_ofNat_Int, j_bi0, j_bi1, not_true, not_false_eq_true, if_true, if_false, xe, xok_some, Sum.elim_inl, Sum.elim_inr, Int.reduceEq, Int.reduceLT, Int.reduceLE, Int.reduceAdd, Int.reduceSub, Int.reduceMul, show ((8 : Nat) : Int) = 8 from rfl]
    exact ⟨g5, g6⟩
theorem rm53 {D L b : Int → Int} (hL : okL D L) (hd : dgR D L) {s : SS} {n : Int} (hB : BR n s) (hn : 0 ≤ n ∧ n + 64 < 890) {ν : xm} (h : MM D L b s.1 s.2 ν) : xok (xloop xfu (fun v => fX12_measures_b53 v.1 v.2) (j32 0, ν)) (fun ν' => MM D L b (rRR D L s 8).1 (rRR D L s 8).2 ν' ∧ fRm ν ν') := by
  refine xok_for (fun k t => t.1 = j32 k ∧ MM D L b (rRR D L s k).1 (rRR D L s k).2 t.2 ∧ fRm ν t.2) 8 (by omega) ⟨rfl, h, fRm.rf⟩ ?_ ?_
  · intro k t hk ht
    obtain ⟨t1, σ⟩ := t
    obtain ⟨g1, g5, g6⟩ := ht
    simp only at g1 g5 g6
    subst g1
    have hx : P8 (k : Int) := ⟨by omega, by omega⟩
    have hBk := BR_R (D := D) (L := L) hB (by omega) k (by omega)
    have e : rRR D L s (k + 1) = rXR D L k (rRR D L s k) 8 := rfl
    rw [e]
    generalize rRR D L s k = r at *
    obtain ⟨ν', r1, r2, r3⟩ := rm61 (b := b) hL hd hx hBk (by omega) g5
    show xok (fX12_measures_b53 (j32 k) σ) _
    unfold fX12_measures_b53
    simp only [lits] at r1 ⊢
    rw [if_neg (by rw [j_le (by omega) (by omega)]; omega), r1, xbd_e, xlt_e, j_add, xok_some]
    exact ⟨rfl, r2, g6.tr r3⟩
  · intro t ht
    obtain ⟨t1, σ⟩ := t
    obtain ⟨g1, g5, g6⟩ := ht
    simp only at g1 g5 g6
    subst g1
    show xok (fX12_measures_b53 (j32 (8 : Nat)) σ) _
    unfold fX12_measures_b53
    simp (disch := omega) only [Bool.false_eq_true, lits, jj, jc, jm, Int.cast_ofNat_Int, j_bi0, j_bi1, not_true, not_false_eq_true, if_true, if_false, xe, xok_some, Sum.elim_inl, Sum.elim_inr, Int.reduceEq, Int.reduceLT, Int.reduceLE, Int.reduceAdd, Int.reduceSub, Int.reduceMul, show ((8 : Nat) : Int) = 8 from rfl]
    exact ⟨g5, g6⟩
theorem rmInit {D L b d f : Int → Int} (hb : ∀ x, P8 x → -86400 ≤ b x ∧ b x ≤ 86400) {ν : xm} (h : MM D L b d f ν) : xok (xloop xfu (fun v => fX12_measures_b2 v.1 v.2) (j32 0, ν)) (fun ν' => MM D L b (s0R b).1 (s0R b).2 ν' ∧ fRm ν ν') := by
  refine xok_for (fun k t => t.1 = j32 k ∧ fRm ν t.2 ∧ ∃ d' f', MM D L b d' f' t.2 ∧ ∀ x : Int, 0 ≤ x → x < k → d' x = (s0R b).1 x ∧ f' x = (s0R b).2 x) 8 (by omega) ⟨rfl, fRm.rf, d, f, h, fun x a b => by omega⟩ ?_ ?_
  · intro k t hk ht
    obtain ⟨t1, σ⟩ := t
    obtain ⟨g1, g2, d', f', g3, g4⟩ := ht
    simp only at g1 g2 g3 g4
    subst g1
    have hx : P8 (k : Int) := ⟨by omega, by omega⟩
    have d1 := g3.2.2.1 k hx
    have bb := hb k hx
    have st : fX12_measures_b2 (j32 k) σ = some (.inl (j32 ((k : Int) + 1), wr (wr σ iM_way k (if 0 < b k then 0 else 1000)) iM_cameBy k (-1))) := by
      unfold fX12_measures_b2 fX12_measures_j29
      by_cases c : 0 < b k
      · simp (disch := omega) only [Bool.false_eq_true, lits, jj, jc, jm, Int.cast_ofNat_Int, j_bi0, j_bi1, not_true, not_false_eq_true, if_true, if_false, xe, xok_some, Sum.elim_inl, Sum.elim_inr, Int.reduceEq, Int.reduceLT, Int.reduceLE, Int.reduceAdd, Int.reduceSub, Int.reduceMul, show ¬ (8 : Int) ≤ k by omega, d1, show ¬ b k ≤ 0 by omega, c]
      · simp (disch := omega) only [Bool.false_eq_true, lits, jj, jc, jm, Int.cast_ofNat_Int, j_bi0, j_bi1, not_true, not_false_eq_true, if_true, if_false, xe, xok_some, Sum.elim_inl, Sum.elim_inr, Int.reduceEq, Int.reduceLT, Int.reduceLE, Int.reduceAdd, Int.reduceSub, Int.reduceMul, show ¬ (8 : Int) ≤ k by omega, d1, show b k ≤ 0 by omega, c]
    have m := MS_w g3 idM hx (v := if 0 < b k then 0 else 1000) (w := -1) (by split <;> omega) (by omega)
    show xok (fX12_measures_b2 (j32 k) σ) _
    rw [st, xok_some]
    refine ⟨rfl, g2.tr fRm_w, _, _, m, fun x a c => ?_⟩
    by_cases e : x = k
    · subst e; rw [up1_s, up1_s]; exact ⟨rfl, rfl⟩
    · rw [up1_n e, up1_n e]; exact g4 x a (by omega)
  · intro t ht
    obtain ⟨t1, σ⟩ := t
    obtain ⟨g1, g2, d', f', g3, g4⟩ := ht
    simp only at g1 g2 g3 g4
    subst g1
    show xok (fX12_measures_b2 (j32 (8 : Nat)) σ) _
    unfold fX12_measures_b2
    simp (disch := omega) only [Bool.false_eq_true, lits, jj, jc, jm, Int.cast_ofNat_Int, j_bi0, j_bi1, not_true, not_false_eq_true, if_true, if_false, xe, xok_some, Sum.elim_inl, Sum.elim_inr, Int.reduceEq, Int.reduceLT, Int.reduceLE, Int.reduceAdd, Int.reduceSub, Int.reduceMul, show ((8 : Nat) : Int) = 8 from rfl]
    obtain ⟨a1, a2, a3, a4, a5⟩ := g3
    exact ⟨⟨a1, a2, a3, fun x hx => (a4 x hx).trans (g4 x hx.1 hx.2).1, fun x hx => (a5 x hx).trans (g4 x hx.1 hx.2).2⟩, g2⟩
theorem mea_M {D L b d f : Int → Int} (hP : PI D L b) {ν : xm} (h : MM D L b d f ν) : ∃ ν', fX12_measures ν = some ν' ∧ MM D L b (meaR D L b).1 (meaR D L b).2 ν' ∧ fRm ν ν' := by
  obtain ⟨hL, hd, _, hb⟩ := hP
  obtain ⟨ν1, r1, r2, r3⟩ := rmInit hb h
  have key : xok (xloop xfu (fun v => fX12_measures_b45 v.1 v.2) (j32 0, ν1)) (fun ν' => MM D L b (rNR D L (s0R b) 8).1 (rNR D L (s0R b) 8).2 ν' ∧ fRm ν1 ν') := by
    refine xok_for (fun k t => t.1 = j32 k ∧ MM D L b (rNR D L (s0R b) k).1 (rNR D L (s0R b) k).2 t.2 ∧ fRm ν1 t.2) 8 (by omega) ⟨rfl, r2, fRm.rf⟩ ?_ ?_
    · intro k t hk ht
      obtain ⟨t1, σ⟩ := t
      obtain ⟨g1, g5, g6⟩ := ht
      simp only at g1 g5 g6
      subst g1
      have hBk := BR_N (D := D) (L := L) (b := b) k (by omega)
      have e : rNR D L (s0R b) (k + 1) = rRR D L (rNR D L (s0R b) k) 8 := rfl
      rw [e]
      generalize rNR D L (s0R b) k = r at *
      obtain ⟨ν', q1, q2, q3⟩ := rm53 (b := b) hL hd hBk (by omega) g5
      show xok (fX12_measures_b45 (j32 k) σ) _
      unfold fX12_measures_b45
      simp only [lits] at q1 ⊢
      rw [if_neg (by rw [j_le (by omega) (by omega)]; omega), q1, xbd_e, xlt_e, j_add, xok_some]
      exact ⟨rfl, q2, g6.tr q3⟩
    · intro t ht
      obtain ⟨t1, σ⟩ := t
      obtain ⟨g1, g5, g6⟩ := ht
      simp only at g1 g5 g6
      subst g1
      show xok (fX12_measures_b45 (j32 (8 : Nat)) σ) _
      unfold fX12_measures_b45
      simp (disch := omega) only [Bool.false_eq_true, lits, jj, jc, jm, Int.cast_ofNat_Int, j_bi0, j_bi1, not_true, not_false_eq_true, if_true, if_false, xe, xok_some, Sum.elim_inl, Sum.elim_inr, Int.reduceEq, Int.reduceLT, Int.reduceLE, Int.reduceAdd, Int.reduceSub, Int.reduceMul, show ((8 : Nat) : Int) = 8 from rfl]
      exact ⟨g5, g6⟩
  obtain ⟨ν', t1, t2, t3⟩ := key
  refine ⟨ν', ?_, ?_, r3.tr t3⟩
  · unfold fX12_measures
    simp only [lits] at r1 t1 ⊢
    rw [r1, xbd_e, t1, xbd_e]
  · unfold meaR; exact t2
theorem nt_M {D L b d f : Int → Int} {ν : xm} (h : MM D L b d f ν) (hd : ∀ x, P8 x → -1000 ≤ d x ∧ d x ≤ 1000) (hb : ∀ x, P8 x → -86400 ≤ b x ∧ b x ≤ 86400) : fX12_nearestGetter ν = some (j32 (ntR b d 8)) := by
  have key : xloop xfu (fun v => fX12_nearestGetter_b4 v.1 v.2 ν) (j32 (-1), j32 0) = some (j32 (ntR b d 8)) := by
    refine xloop_for (fun k : Nat => (j32 (ntR b d k), j32 k)) 8 (by omega) rfl ?_ ?_
    · intro k hk
      have hx : P8 (k : Int) := ⟨by omega, by omega⟩
      have ho := ntR_ok (b := b) (d := d) k
      have e : ntR b d (k + 1) = if b k < 0 ∧ d k < 1000 ∧ (ntR b d k = -1 ∨ d k < d (ntR b d k)) then (k : Int) else ntR b d k := rfl
      rw [e]
      generalize ntR b d k = t at *
      have d1 := h.2.2.1 k hx
      have d2 := h.2.2.2.1 k hx
      have bd := hd k hx
      have bb := hb k hx
      show fX12_nearestGetter_b4 (j32 t) (j32 k) ν = _
      unfold fX12_nearestGetter_b4
      by_cases c1 : b k < 0
      · by_cases c2 : d k < 1000
        · by_cases c3 : t = -1
          · simp (disch := omega) only [Bool.false_eq_true, lits, jj, jc, jm, Int.cast_ofNat_Int, j_bi0, j_bi1, not_true, not_false_eq_true, if_true, if_false, xe, xok_some, Sum.elim_inl, Sum.elim_inr, Int.reduceEq, Int.reduceLT, Int.reduceLE, Int.reduceAdd, Int.reduceSub, Int.reduceMul, show ¬ (8 : Int) ≤ k by omega, d1, show ¬ 0 ≤ b k by omega, c1, d2, show ¬ 1000 ≤ d k by omega, c2, c3, true_or, and_self]
            rfl
          · have d3 := h.2.2.2.1 t ⟨by omega, by omega⟩
            have bt := hd t ⟨by omega, by omega⟩
            by_cases c4 : d k < d t
            · simp (disch := omega) only [Bool.false_eq_true, lits, jj, jc, jm, Int.cast_ofNat_Int, j_bi0, j_bi1, not_true, not_false_eq_true, if_true, if_false, xe, xok_some, Sum.elim_inl, Sum.elim_inr, Int.reduceEq, Int.reduceLT, Int.reduceLE, Int.reduceAdd, Int.reduceSub, Int.reduceMul, show ¬ (8 : Int) ≤ k by omega, d1, show ¬ 0 ≤ b k by omega, c1, d2, show ¬ 1000 ≤ d k by omega, c2, c3, d3, show ¬ d t ≤ d k by omega, c4, or_true, and_self]
              rfl
            · simp (disch := omega) only [Bool.false_eq_true, lits, jj, jc, jm, Int.cast_ofNat_Int, j_bi0, j_bi1, not_true, not_false_eq_true, if_true, if_false, xe, xok_some, Sum.elim_inl, Sum.elim_inr, Int.reduceEq, Int.reduceLT, Int.reduceLE, Int.reduceAdd, Int.reduceSub, Int.reduceMul, show ¬ (8 : Int) ≤ k by omega, d1, show ¬ 0 ≤ b k by omega, c1, d2, show ¬ 1000 ≤ d k by omega, c2, c3, d3, show d t ≤ d k by omega, c4, or_self, and_false]
              rfl
        · simp (disch := omega) only [Bool.false_eq_true, lits, jj, jc, jm, Int.cast_ofNat_Int, j_bi0, j_bi1, not_true, not_false_eq_true, if_true, if_false, xe, xok_some, Sum.elim_inl, Sum.elim_inr, Int.reduceEq, Int.reduceLT, Int.reduceLE, Int.reduceAdd, Int.reduceSub, Int.reduceMul, show ¬ (8 : Int) ≤ k by omega, d1, show ¬ 0 ≤ b k by omega, d2, show 1000 ≤ d k by omega, c2, false_and, and_false]
          rfl
      · simp (disch := omega) only [Bool.false_eq_true, lits, jj, jc, jm, Int.cast_ofNat_Int, j_bi0, j_bi1, not_true, not_false_eq_true, if_true, if_false, xe, xok_some, Sum.elim_inl, Sum.elim_inr, Int.reduceEq, Int.reduceLT, Int.reduceLE, Int.reduceAdd, Int.reduceSub, Int.reduceMul, show ¬ (8 : Int) ≤ k by omega, d1, show 0 ≤ b k by omega, c1, false_and]
        rfl
    · show fX12_nearestGetter_b4 _ (j32 (8 : Nat)) ν = _
      unfold fX12_nearestGetter_b4
      simp (disch := omega) only [Bool.false_eq_true, lits, jj, jc, jm, Int.cast_ofNat_Int, j_bi0, j_bi1, not_true, not_false_eq_true, if_true, if_false, xe, xok_some, Sum.elim_inl, Sum.elim_inr, Int.reduceEq, Int.reduceLT, Int.reduceLE, Int.reduceAdd, Int.reduceSub, Int.reduceMul, show ((8 : Nat) : Int) = 8 from rfl]
  unfold fX12_nearestGetter
  simp only [lits]
  rw [j_neg, key, xbd_e]
theorem eX12_stepOn {D L b d f : Int → Int} {ν : xm} (h : MM D L b d f ν) (hL : okL D L) {x y : Int} (hx : P8 x) (hy : P8 y) : fX12_stepOn (j32 x) (j32 y) ν = some (j32 (rmR D L x y)) := by
  have d3 := h.2.1 (8 * y + x) (by omega) (by omega)
  have d4 := h.2.1 (8 * x + y) (by omega) (by omega)
  have d5 := h.1 (8 * x + y) (by omega) (by omega)
  have l1 := hL (8 * y + x) (by omega) (by omega)
  unfold fX12_stepOn rmR
  by_cases c : 0 < L (8 * y + x)
  · simp (disch := omega) only [Bool.false_eq_true, lits, jj, jc, jm, Int.cast_ofNat_Int, j_bi0, j_bi1, not_true, not_false_eq_true, if_true, if_false, xe, xok_some, Sum.elim_inl, Sum.elim_inr, Int.reduceEq, Int.reduceLT, Int.reduceLE, Int.reduceAdd, Int.reduceSub, Int.reduceMul, d3, show ¬ L (8 * y + x) ≤ 0 by omega, c]
  · simp (disch := omega) only [Bool.false_eq_true, lits, jj, jc, jm, Int.cast_ofNat_Int, j_bi0, j_bi1, not_true, not_false_eq_true, if_true, if_false, xe, xok_some, Sum.elim_inl, Sum.elim_inr, Int.reduceEq, Int.reduceLT, Int.reduceLE, Int.reduceAdd, Int.reduceSub, Int.reduceMul, d3, show L (8 * y + x) ≤ 0 by omega, c, d4, d5]
theorem rg10 {D L b d f : Int → Int} {ν : xm} (h : MM D L b d f ν) (hL : okL D L) {y m0 : Int} {e : Nat} (he : pthR f y e) (hm0 : 1 ≤ m0 ∧ m0 ≤ 86400) (hr : ∀ i, i < e → 1 ≤ rmR D L (f (pnR f y i)) (pnR f y i)) : xloop xfu (fun v => fX12_goesTo_b10 v.1 v.2 ν) (j32 m0, j32 y) = some (j32 (mnR D L f y m0 e), j32 (pnR f y e)) := by
  obtain ⟨e1, e2, e3, e4, e5⟩ := he
  refine xloop_for (fun i : Nat => (j32 (mnR D L f y m0 i), j32 (pnR f y i))) e (by omega) rfl ?_ ?_
  · intro i hi
    have hmn := mnR_ok (D := D) (L := L) (f := f) (y := y) (m := m0) hm0.1 i (fun j hj => hr j (by omega))
    have p1 := e4 i (by omega)
    have p2 : P8 (f (pnR f y i)) := e4 (i + 1) (by omega)
    have d1 := h.2.2.2.2 _ p1
    have d2 := eX12_stepOn h hL p2 p1
    have b1 := rmR_b hL p2 p1
    have em : mnR D L f y m0 (i + 1) = min (mnR D L f y m0 i) (rmR D L (f (pnR f y i)) (pnR f y i)) := rfl
    have ep : pnR f y (i + 1) = f (pnR f y i) := rfl
    rw [em, ep]
    show fX12_goesTo_b10 (j32 (mnR D L f y m0 i)) (j32 (pnR f y i)) ν = _
    generalize mnR D L f y m0 i = M at *
    generalize pnR f y i = P at *
    unfold fX12_goesTo_b10
    by_cases c : M ≤ rmR D L (f P) P
    · simp (disch := omega) only [Bool.false_eq_true, lits, jj, jc, jm, Int.cast_ofNat_Int, j_bi0, j_bi1, not_true, not_false_eq_true, if_true, if_false, xe, xok_some, Sum.elim_inl, Sum.elim_inr, Int.reduceEq, Int.reduceLT, Int.reduceLE, Int.reduceAdd, Int.reduceSub, Int.reduceMul, d1, show f P ≠ -1 by omega, d2, c, show min M (rmR D L (f P) P) = M by omega]
    · simp (disch := omega) only [Bool.false_eq_true, lits, jj, jc, jm, Int.cast_ofNat_Int, j_bi0, j_bi1, not_true, not_false_eq_true, if_true, if_false, xe, xok_some, Sum.elim_inl, Sum.elim_inr, Int.reduceEq, Int.reduceLT, Int.reduceLE, Int.reduceAdd, Int.reduceSub, Int.reduceMul, d1, show f P ≠ -1 by omega, d2, c, show min M (rmR D L (f P) P) = rmR D L (f P) P by omega]
  · have p1 := e4 e (Nat.le_refl _)
    have d1 := h.2.2.2.2 _ p1
    rw [e2] at d1
    show fX12_goesTo_b10 _ (j32 (pnR f y e)) ν = _
    unfold fX12_goesTo_b10
    simp (disch := omega) only [Bool.false_eq_true, lits, jj, jc, jm, Int.cast_ofNat_Int, j_bi0, j_bi1, not_true, not_false_eq_true, if_true, if_false, xe, xok_some, Sum.elim_inl, Sum.elim_inr, Int.reduceEq, Int.reduceLT, Int.reduceLE, Int.reduceAdd, Int.reduceSub, Int.reduceMul, d1]
theorem rg108 {D L b d f : Int → Int} {ν : xm} (h : MM D L b d f ν) (hL : okL D L) {y m : Int} {e : Nat} (he : pthR f y e) (hm : 1 ≤ m ∧ m ≤ 86400) : xok (xloop xfu (fun v => fX12_goesTo_b108 v.1 v.2 (j32 m)) (j32 y, ν)) (fun ν' => MM D (mvR f y m L e) b d f ν' ∧ fRm ν ν') := by
  have hmb := mvR_b hL hm he
  obtain ⟨e1, e2, e3, e4, e5⟩ := id he
  refine xok_for (fun i t => t.1 = j32 (pnR f y i) ∧ MM D (mvR f y m L i) b d f t.2 ∧ fRm ν t.2) e (by omega) ⟨rfl, h, fRm.rf⟩ ?_ ?_
  · intro i t hi ht
    obtain ⟨t1, σ⟩ := t
    obtain ⟨g1, g3, g4⟩ := ht
    simp only at g1 g3 g4
    subst g1
    have p1 := e4 i (by omega)
    have p2 : P8 (f (pnR f y i)) := e4 (i + 1) (by omega)
    have hb := hmb i (by omega)
    have em : mvR f y m L (i + 1) = psR (mvR f y m L i) (f (pnR f y i)) (pnR f y i) m := rfl
    have ep : pnR f y (i + 1) = f (pnR f y i) := rfl
    rw [em, ep]
    generalize mvR f y m L i = M at *
    generalize pnR f y i = P at *
    have d1 := g3.2.2.2.2 _ p1
    have d5 := g3.2.1 (8 * P + f P) (by omega) (by omega)
    have d6 := g3.2.1 (8 * f P + P) (by omega) (by omega)
    have b1 := hb (8 * P + f P) (by omega) (by omega)
    have b2 := hb (8 * f P + P) (by omega) (by omega)
    show xok (fX12_goesTo_b108 (j32 P) σ (j32 m)) _
    unfold fX12_goesTo_b108 psR
    by_cases c : 0 < M (8 * P + f P)
    · have d7 : gi (wr σ iM_least0 (8 * P + f P) (M (8 * P + f P) - m)) iM_cameBy P = f P := by rw [gi_wr_o (by decide)]; exact d1
      simp (disch := omega) only [Bool.false_eq_true, lits, jj, jc, jm, Int.cast_ofNat_Int, j_bi0, j_bi1, not_true, not_false_eq_true, if_true, if_false, xe, xok_some, Sum.elim_inl, Sum.elim_inr, Int.reduceEq, Int.reduceLT, Int.reduceLE, Int.reduceAdd, Int.reduceSub, Int.reduceMul, d1, show f P ≠ -1 by omega, d5, show ¬ M (8 * P + f P) ≤ 0 by omega, c, d7]
      exact ⟨by first | rfl | trivial, MS_L g3 (by decide) (by omega) (by omega), g4.tr (fun o ho => gi_wr_f (by show o ≠ 93; omega))⟩
    · have d7 : gi (wr σ iM_least0 (8 * f P + P) (M (8 * f P + P) + m)) iM_cameBy P = f P := by rw [gi_wr_o (by decide)]; exact d1
      simp (disch := omega) only [Bool.false_eq_true, lits, jj, jc, jm, Int.cast_ofNat_Int, j_bi0, j_bi1, not_true, not_false_eq_true, if_true, if_false, xe, xok_some, Sum.elim_inl, Sum.elim_inr, Int.reduceEq, Int.reduceLT, Int.reduceLE, Int.reduceAdd, Int.reduceSub, Int.reduceMul, d1, show f P ≠ -1 by omega, d5, show M (8 * P + f P) ≤ 0 by omega, c, d6, d7]
      exact ⟨by first | rfl | trivial, MS_L g3 (by decide) (by omega) (by omega), g4.tr (fun o ho => gi_wr_f (by show o ≠ 93; omega))⟩
  · intro t ht
    obtain ⟨t1, σ⟩ := t
    obtain ⟨g1, g3, g4⟩ := ht
    simp only at g1 g3 g4
    subst g1
    have p1 := e4 e (Nat.le_refl _)
    have d1 := g3.2.2.2.2 _ p1
    rw [e2] at d1
    show xok (fX12_goesTo_b108 (j32 (pnR f y e)) σ (j32 m)) _
    unfold fX12_goesTo_b108
    simp (disch := omega) only [Bool.false_eq_true, lits, jj, jc, jm, Int.cast_ofNat_Int, j_bi0, j_bi1, not_true, not_false_eq_true, if_true, if_false, xe, xok_some, Sum.elim_inl, Sum.elim_inr, Int.reduceEq, Int.reduceLT, Int.reduceLE, Int.reduceAdd, Int.reduceSub, Int.reduceMul, d1]
    exact ⟨g3, g4⟩
theorem goes_M {D L b d f : Int → Int} {ν : xm} (h : MM D L b d f ν) (hL : okL D L) (hb : ∀ x, P8 x → -86400 ≤ b x ∧ b x ≤ 86400) {y m : Int} {e : Nat} (hy : P8 y) (he : pthR f y e) (hby : b y < 0) (hr : ∀ i, i < e → 1 ≤ rmR D L (f (pnR f y i)) (pnR f y i)) (hm : m = min (mnR D L f y (-b y) e) (b (pnR f y e))) (hm1 : 1 ≤ m ∧ m ≤ 86400) : ∃ ν', fX12_goesTo (j32 y) ν = some ν' ∧ MM D (mvR f y m L e) (bsR b (pnR f y e) y m) d f ν' ∧ fRm ν ν' := by
  have hby2 := hb y hy
  have pe := he.2.2.2.1 e (Nat.le_refl _)
  have hbe := hb _ pe
  have l1 := rg10 h hL he (m0 := -b y) (by omega) hr
  have hmn := mnR_ok (D := D) (L := L) (f := f) (y := y) (m := -b y) (by omega) e hr
  obtain ⟨q, hq⟩ : ∃ q, pnR f y e = q := ⟨_, rfl⟩
  rw [hq] at l1 hm pe hbe ⊢
  generalize mnR D L f y (-b y) e = M at *
  have d1 := h.2.2.1 y hy
  have d2 := h.2.2.1 q pe
  have m1 := MS_b h (by decide) pe (v := b q - m) (by omega)
  have d3 := m1.2.2.1 y hy
  have bb : -200000 ≤ up1 b q (b q - m) y ∧ up1 b q (b q - m) y ≤ 200000 := by
    by_cases c : y = q
    · rw [c, up1_s]; omega
    · rw [up1_n c]; omega
  have m2 := MS_b m1 (by decide) hy (v := up1 b q (b q - m) y + m) (by omega)
  obtain ⟨ν', r1, r2, r3⟩ := rg108 m2 hL he hm1
  have g76 : ∀ M' : Int, fX12_goesTo_j76 (j32 m) (j32 y) ν (j32 M', j32 q) = some ν' := fun M' => by
    unfold fX12_goesTo_j76
    show xbd (xgI ν iM_balance 8 (j32 q)) (fun v14 => xbd (xsI ν iM_balance 8 (j32 q) (v14 - j32 m)) _) = _
    rw [j_gI (by omega), xbd_e, d2, j_sub, j_sI (by omega), xbd_e, j_gI (by omega), xbd_e, d3, j_add, j_sI (by omega), xbd_e, r1, xbd_e]
  refine ⟨ν', ?_, r2, fun o ho => ?_⟩
  · unfold fX12_goesTo
    rw [j_gI (by omega), xbd_e, d1, xlt_e, j_neg, l1, xbd_e]
    show xbd (xgI ν iM_balance 8 (j32 q)) (fun v12 => if j32 M ≤ v12 then fX12_goesTo_j76 (j32 M) (j32 y) ν (j32 M, j32 q) else xbd (xgI ν iM_balance 8 (j32 q)) fun v31 => fX12_goesTo_j76 v31 (j32 y) ν (j32 M, j32 q)) = _
    rw [j_gI (by omega), xbd_e, d2]
    by_cases c : M ≤ b q
    · rw [if_pos (by rw [j_le (by omega) (by omega)]; exact c), show M = m by omega]
      exact g76 m
    · rw [if_neg (by rw [j_le (by omega) (by omega)]; exact c), xbd_e, show b q = m by omega]
      exact g76 M
  · rw [r3 o ho, gi_wr_f (by show o ≠ 95; omega), gi_wr_f (by show o ≠ 95; omega)]
theorem least_M {D L b d f : Int → Int} {ν : xm} (h : MM D L b d f ν) (hP : PI D L b) {N : Nat} (hN : N ≤ 86400) (hlast : lstR D (stN D (L, b) N) = -1) (hne : ∀ k, k < N → lstR D (stN D (L, b) k) ≠ -1) (hPk : ∀ k, k ≤ N → PI D (stN D (L, b) k).1 (stN D (L, b) k).2) : ∃ ν1 v0 ν', fX12_measures ν = some ν1 ∧ fX12_nearestGetter ν1 = some v0 ∧ xloop xfu (fun v => fX12_round_b13 v.1 v.2) (v0, ν1) = some ν' ∧ fRm ν ν' ∧ ∃ d f, MM D (stN D (L, b) N).1 (stN D (L, b) N).2 d f ν' := by
  have near : ∀ {s : SS} {σ : xm}, PI D s.1 s.2 → MM D s.1 s.2 (meaR D s.1 s.2).1 (meaR D s.1 s.2).2 σ → fX12_nearestGetter σ = some (j32 (lstR D s)) := fun {s σ} hPI r2 => by
    have hBR := (mea_ok hPI).2.1
    exact nt_M r2 (fun x hx => by have := hBR x hx; omega) hPI.2.2.2
  obtain ⟨ν1, r1, r2, r3⟩ := mea_M hP h
  have r4 := near (s := (L, b)) hP r2
  have key : xok (xloop xfu (fun v => fX12_round_b13 v.1 v.2) (j32 (lstR D (L, b)), ν1)) (fun ν' => fRm ν ν' ∧ ∃ d f, MM D (stN D (L, b) N).1 (stN D (L, b) N).2 d f ν') := by
    refine xok_for (fun k t => t.1 = j32 (lstR D (stN D (L, b) k)) ∧ fRm ν t.2 ∧ MM D (stN D (L, b) k).1 (stN D (L, b) k).2 (meaR D (stN D (L, b) k).1 (stN D (L, b) k).2).1 (meaR D (stN D (L, b) k).1 (stN D (L, b) k).2).2 t.2) N (by omega) ⟨rfl, r3, r2⟩ ?_ ?_
    · intro k t hk ht
      obtain ⟨t1, σ⟩ := t
      obtain ⟨g1, g2, g3⟩ := ht
      simp only at g1 g2 g3
      subst g1
      have hPI := hPk k (by omega)
      have hl := hne k hk
      have hPI2 := hPk (k + 1) (by omega)
      have en : stN D (L, b) (k + 1) = stpR D (stN D (L, b) k) := rfl
      rw [en] at hPI2 ⊢
      generalize stN D (L, b) k = s at *
      obtain ⟨q1, q2, q3, q4, q5, q6, q7, q8⟩ := stp_ok hPI hl
      obtain ⟨σ1, u1, u2, u3⟩ := goes_M g3 hPI.1 hPI.2.2.2 q1 q3 q2 q5 rfl q4
      obtain ⟨σ2, w1, w2, w3⟩ := mea_M hPI2 u2
      have w4 := near hPI2 w2
      show xok (fX12_round_b13 (j32 (lstR D s)) σ) _
      unfold fX12_round_b13
      simp only [lits]
      rw [if_neg (by rw [show -j32 1 = j32 (-1) from rfl, j_eq (by omega) (by omega)]; exact hl), u1, xbd_e, w1, xbd_e, w4, xbd_e, xok_some]
      exact ⟨rfl, (g2.tr u3).tr w3, w2⟩
    · intro t ht
      obtain ⟨t1, σ⟩ := t
      obtain ⟨g1, g2, g3⟩ := ht
      simp only at g1 g2 g3
      subst g1
      rw [hlast]
      show xok (fX12_round_b13 (j32 (-1)) σ) _
      unfold fX12_round_b13
      simp (disch := omega) only [Bool.false_eq_true, lits, jj, jc, jm, Int.cast_ofNat_Int, j_bi0, j_bi1, not_true, not_false_eq_true, if_true, if_false, xe, xok_some, Sum.elim_inl, Sum.elim_inr, Int.reduceEq, Int.reduceLT, Int.reduceLE, Int.reduceAdd, Int.reduceSub, Int.reduceMul]
      exact ⟨g2, _, _, g3⟩
  obtain ⟨ν', t1, t2, t3⟩ := key
  exact ⟨ν1, _, ν', r1, r4, t1, t2, t3⟩
theorem sum39 {D L b d f : Int → Int} {ν : xm} (h : MM D L b d f ν) (hL : okL D L) : xloop xfu (fun v => fX12_round_b39 v.1 v.2 ν) (j32 0, j32 0) = some (j32 (sumTo L 64)) := by
  refine xloop_for (fun k : Nat => (j32 (sumTo L k), j32 k)) 64 (by omega) rfl ?_ ?_
  · intro k hk
    have hs := sumTo_b (f := L) (B := 86400) (k := k) (fun z a b => by have := hL z a (by omega); omega)
    have d1 := h.2.1 k (by omega) (by omega)
    have l1 := hL k (by omega) (by omega)
    show fX12_round_b39 (j32 (sumTo L k)) (j32 k) ν = _
    rw [sumTo_s]
    generalize sumTo L k = S at *
    unfold fX12_round_b39
    simp (disch := omega) only [Bool.false_eq_true, lits, jj, jc, jm, Int.cast_ofNat_Int, j_bi0, j_bi1, not_true, not_false_eq_true, if_true, if_false, xe, xok_some, Sum.elim_inl, Sum.elim_inr, Int.reduceEq, Int.reduceLT, Int.reduceLE, Int.reduceAdd, Int.reduceSub, Int.reduceMul, show ¬ (64 : Int) ≤ k by omega, d1]
    rfl
  · show fX12_round_b39 _ (j32 (64 : Nat)) ν = _
    unfold fX12_round_b39
    simp (disch := omega) only [Bool.false_eq_true, lits, jj, jc, jm, Int.cast_ofNat_Int, j_bi0, j_bi1, not_true, not_false_eq_true, if_true, if_false, xe, xok_some, Sum.elim_inl, Sum.elim_inr, Int.reduceEq, Int.reduceLT, Int.reduceLE, Int.reduceAdd, Int.reduceSub, Int.reduceMul, show ((64 : Nat) : Int) = 64 from rfl]
/-- what is owed, by places -/
def dZ (A : xAs) (z : Int) : Int := dD A (z / 8) (z % 8)
theorem dZ_e {A : xAs} {x y : Int} (hx : P8 x) (hy : P8 y) : dZ A (8 * x + y) = dD A x y := by
  unfold dZ; rw [show (8 * x + y) / 8 = x by omega, show (8 * x + y) % 8 = y by omega]
theorem PI_0 {A : xAs} (hI : Inv A) : PI (dZ A) (fun _ => 0) (dB A) := by
  refine ⟨fun z a b => ⟨Int.le_refl _, sOw_b hI⟩, fun x hx => ?_, ⟨fun _ => 0, fun x y hx hy hr => ?_⟩, fun x _ => dB_b hI⟩
  · have e : rmR (dZ A) (fun _ => 0) x x = dZ A (8 * x + x) - 0 := if_neg (show ¬ (0 : Int) < 0 by omega)
    rw [e, dZ_e hx hx, dD_self hI hx.1]; omega
  · have e : lnR (fun _ => 0) x y = 1 := if_neg (show ¬ (0 : Int) < 0 by omega)
    rw [e]; show (0 : Int) ≤ 0 + 1; omega
theorem wB_le {A : xAs} (hI : Inv A) : wB (dB A) ≤ 86400 := by
  have h1 := sum_le (f := fun x => max (dB A x) 0) (g := fun x => sOw A x (-1) (A iM 0)) (k := 8) (fun z _ _ => by
    have a := sOw_b hI (x := z) (y := -1) (d := A iM 0)
    have b := sOw_b hI (x := -1) (y := z) (d := A iM 0)
    show max (sOw A z (-1) (A iM 0) - sOw A (-1) z (A iM 0)) 0 ≤ sOw A z (-1) (A iM 0)
    omega)
  have h2 := sOw_sumX hI (y := -1) (d := A iM 0)
  have h3 := sOw_b hI (x := -1) (y := -1) (d := A iM 0)
  unfold wB
  omega
theorem s_round {A : xAs} {μ : xm} {R : xr} {n : Nat} (hA : RH A μ) (hC : CH A μ R n) (hI : Inv A) : ∃ q, fX11_round μ = some q ∧ ∃ q2, fX12_round q.2 = some q2 ∧ q2.1 = q.1 ∧ xStp μ R n q2.2 := by
  have hP := PI_0 hI
  obtain ⟨N, n1, n2, n3, n4⟩ := stN_end (D := dZ A) (t := (fun _ => 0, dB A)) hP
  have hw := wB_le hI
  have hN : N ≤ 86400 := by have : (N : Int) ≤ wB (dB A) := n1; omega
  obtain ⟨ν1, r1, r2, r3, r4, r5⟩ := ld_ok hC hI
  have m1 : MC (dZ A) (fun _ => 0) (dB A) (gi ν1 iC_striking_away) (gi ν1 iC_striking_from) ν1 := by
    refine ⟨fun z a b => ?_, r5, fun x hx => r4 x hx.1 hx.2, fun x _ => rfl, fun x _ => rfl⟩
    have := r3 (z / 8) (z % 8) (by omega) (by omega) (by omega) (by omega)
    rw [show 8 * (z / 8) + z % 8 = z by omega] at this
    exact this
  obtain ⟨ν, t1, t2⟩ := least_C m1 hP (sumTo_zero 64) hN n2 n3 n4
  have fr : ∀ o, (o < 36 ∨ 40 < o) → gi ν o = gi μ o := fun o ho => (t2 o ho).trans (r2 o (by omega))
  have hA1 : RH A ν := RH.keep hA (fun o a b => fr o (by omega))
  have k1 : LK μ ν := LK.of (fun o a => fr o (by omega))
  have hC1 : CH A ν R n := by
    refine hC.scr (fun o ho => fr o ?_) (by rw [fr _ (by decide)]) (by rw [fr _ (by decide)])
    rcases Nat.lt_or_ge o 36 with c | c
    · exact Or.inl c
    · rcases Nat.lt_or_ge 40 o with d | d
      · exact Or.inr d
      · exfalso
        have : o = 36 ∨ o = 37 ∨ o = 38 ∨ o = 39 ∨ o = 40 := by omega
        rcases this with rfl | rfl | rfl | rfl | rfl <;> exact absurd ho (by decide)
  obtain ⟨ρ1, u1, u2, u3, u4, u5⟩ := bal_ok hA1 hI
  have m2 : MM (dZ A) (fun _ => 0) (dB A) (gi ρ1 iM_way) (gi ρ1 iM_cameBy) ρ1 := by
    refine ⟨fun z a b => ?_, u5, fun x hx => u4 x hx.1 hx.2, fun x _ => rfl, fun x _ => rfl⟩
    have := u3 (z / 8) (z % 8) (by omega) (by omega) (by omega) (by omega)
    rw [show 8 * (z / 8) + z % 8 = z by omega] at this
    exact this
  obtain ⟨ρ2, v0, ρ, w1, w2, w3, w4, d', f', w5⟩ := least_M m2 hP hN n2 n3 n4
  have w6 := sum39 w5 (n4 N (Nat.le_refl _)).1
  have fr2 : ∀ o, (o < 93 ∨ 97 < o) → gi ρ o = gi ν o := fun o ho => (w4 o ho).trans (u2 o (by omega))
  refine ⟨(j32 (sumTo (stN (dZ A) (fun _ => 0, dB A) N).1 64), ν), ?_, (j32 (sumTo (stN (dZ A) (fun _ => 0, dB A) N).1 64), ρ), ?_, rfl, k1.tr (LK.of (fun o a => fr2 o (by omega))), A, ?_, hC1.ref (fun o a => fr2 o (by omega)), hI⟩
  · have e0 := hC.now
    unfold fX11_round
    rw [j_rd]
    show xbd (fX7_load (j32 (gi μ iC 8)) μ) _ = _
    rw [e0, r1, xbd_e, t1, xbd_e]
  · unfold fX12_round
    simp only [lits] at w3 w6 ⊢
    rw [u1, xbd_e, w1, xbd_e, w2, xbd_e, w3, xbd_e, w6, xbd_e]
  · refine RH.mk (fun o ho => ?_) (by rw [fr2 iM (by decide)]; exact RH.sc hA1)
    refine (fr2 o ?_).trans (RH.at hA1 ho)
    rcases Nat.lt_or_ge o 93 with c | c
    · exact Or.inl c
    · rcases Nat.lt_or_ge 97 o with d | d
      · exact Or.inr d
      · exfalso
        have : o = 93 ∨ o = 94 ∨ o = 95 ∨ o = 96 ∨ o = 97 := by omega
        rcases this with rfl | rfl | rfl | rfl | rfl <;> exact absurd ho (by decide)
