/-! crosses, end, feed -/
theorem nar_z {v : Int} (h : v = 0 ∨ v = 1) : vp_nar .boolean (j32 v) = j32 v := by
  rcases h with rfl | rfl <;> decide +kernel
theorem j_sZ {μ : xm} {o len : Nat} {z v : Int} (h : 0 ≤ z ∧ z < len ∧ len ≤ 2147483647) (hv : v = 0 ∨ v = 1) : xsZ μ o len (j32 z) (j32 v) = some (wr μ o z v) := by
  unfold xsZ
  rw [if_pos (j_in h), j_nat h.1 (by omega), nar_z hv]
  rfl
theorem eX10_isCrossing {A : xAs} {μ : xm} {R : xr} {n : Nat} (hC : CH A μ R n) {p : Int} (hp : 0 ≤ p ∧ p < 8) : fX10_isCrossing (j32 p) μ = some (j32 (bitI (A iM 56) p)) := by
  have e := hC.cross p hp.1 hp.2
  have h3 := bitI_01 (A iM 56) p
  unfold fX10_isCrossing
  rw [eX11_isPerson (by omega)]
  rcases h3 with h3 | h3
  · simp (disch := omega) only [Bool.false_eq_true, lits, jj, jc, jm, Int.cast_ofNat_Int, j_bi0, j_bi1, not_true, not_false_eq_true, if_true, if_false, xe, xok_some, Sum.elim_inl, Sum.elim_inr, eq_true hp, e, h3]
  · simp (disch := omega) only [Bool.false_eq_true, lits, jj, jc, jm, Int.cast_ofNat_Int, j_bi0, j_bi1, not_true, not_false_eq_true, if_true, if_false, xe, xok_some, Sum.elim_inl, Sum.elim_inr, eq_true hp, e, h3, show ¬ (1 : Int) = 0 by omega]
theorem eX12_isCrossing {A : xAs} {μ : xm} (hA : RH A μ) (hI : Inv A) {p : Int} (hp : 0 ≤ p ∧ p < 8) : fX12_isCrossing (j32 p) μ = some (j32 (bitI (A iM 56) p)) := by
  have h1 := hI.crossing
  have h3 := bitI_01 (A iM 56) p
  unfold fX12_isCrossing
  rcases h3 with h3 | h3
  · simp (disch := omega) only [Bool.false_eq_true, lits, jj, jc, jm, Int.cast_ofNat_Int, j_bi0, j_bi1, not_true, not_false_eq_true, if_true, if_false, xe, xok_some, Sum.elim_inl, Sum.elim_inr, hA, j_bit, h3, show ¬ (0 : Int) = 1 by omega]
  · simp (disch := omega) only [Bool.false_eq_true, lits, jj, jc, jm, Int.cast_ofNat_Int, j_bi0, j_bi1, not_true, not_false_eq_true, if_true, if_false, xe, xok_some, Sum.elim_inl, Sum.elim_inr, hA, j_bit, h3]
theorem s_crosses {A : xAs} {μ : xm} {R : xr} {n : Nat} (hA : RH A μ) (hC : CH A μ R n) (hI : Inv A) (a1 a2 : Int32) : ∃ q, fX11_crosses a1 (if a2 = 0 then 0 else 1) μ = some q ∧ ∃ q2, fX12_crosses a1 (if a2 = 0 then 0 else 1) q.2 = some q2 ∧ q2.1 = q.1 ∧ xStp μ R n q2.2 := by
  obtain ⟨p, rfl, hp⟩ := j32_ex a1
  obtain ⟨w, hw, hw1⟩ : ∃ w : Int, (if a2 = 0 then 0 else 1) = j32 w ∧ (w = 0 ∨ w = 1) := by
    by_cases c : a2 = 0
    · exact ⟨0, by rw [if_pos c]; rfl, Or.inl rfl⟩
    · exact ⟨1, by rw [if_neg c]; rfl, Or.inr rfl⟩
  rw [hw]
  have h1 := hI.crossing
  have h3 := bitI_01 (A iM 56) p
  unfold fX11_crosses fX12_crosses
  simp only [lits, jj]
  rw [eX11_isPerson hp, eX12_isPerson hp]
  by_cases c1 : 0 ≤ p ∧ p < 8
  · have e1 := eX10_isCrossing hC c1
    by_cases c2 : bitI (A iM 56) p = w
    · refine ⟨(j32 0, μ), ?_, (j32 0, μ), ?_, rfl, xStp.same hA hC hI⟩
      · simp (disch := omega) only [Bool.false_eq_true, lits, jj, jc, jm, Int.cast_ofNat_Int, j_bi0, j_bi1, not_true, not_false_eq_true, if_true, if_false, xe, xok_some, Sum.elim_inl, Sum.elim_inr, eq_true c1, e1, c2]
      · simp (disch := omega) only [Bool.false_eq_true, lits, jj, jc, jm, Int.cast_ofNat_Int, j_bi0, j_bi1, not_true, not_false_eq_true, if_true, if_false, xe, xok_some, Sum.elim_inl, Sum.elim_inr, eq_true c1, eX12_isCrossing hA hI c1, c2]
    · have hA1 : RH A (wr μ iC_ways_crossing p w) := RH.keep hA (fun o h1 h2 => gi_wr_f (by show o ≠ 47; omega))
      have e2 := eX12_isCrossing hA1 hI c1
      have e3 : gi (wr μ iC_ways_crossing p w) iM 56 = A iM 56 := by rw [gi_wr_o (by decide)]; exact (RH.sc hA).2.2.2.2.2.2.2.2.2.2
      have e4 := eX11_isPerson hp
      -- the new set
      obtain ⟨d, hd, d1, d2, hb⟩ : ∃ d : Int, (if w = 0 then j32 (A iM 56) &&& ((j32 1 <<< (j32 p &&& j32 31)) ^^^ j32 (-1)) else j32 (A iM 56) ||| (j32 1 <<< (j32 p &&& j32 31))) = j32 d ∧ 0 ≤ d ∧ d < 256 ∧ ∀ j, 0 ≤ j → j < 8 → bitI d j = if j = p then w else bitI (A iM 56) j := by
        rcases hw1 with rfl | rfl
        · rw [if_pos rfl]; exact j_clrbit ⟨h1.1, h1.2, c1.1, c1.2⟩
        · rw [if_neg (by omega)]; exact j_setbit ⟨h1.1, h1.2, c1.1, c1.2⟩
      refine ⟨(j32 1, wr μ iC_ways_crossing p w), ?_, (j32 1, wr (wr μ iC_ways_crossing p w) iM 56 d), ?_, rfl, ?_⟩
      · simp (disch := omega) only [Bool.false_eq_true, lits, jj, jc, jm, Int.cast_ofNat_Int, j_bi0, j_bi1, not_true, not_false_eq_true, if_true, if_false, xe, xok_some, Sum.elim_inl, Sum.elim_inr, eq_true c1, e1, c2, fX10_setCrossing, e4, j_sZ, hw1]
      · by_cases c4 : w = 0
        · rw [if_pos c4] at hd
          subst c4
          simp (disch := omega) only [Bool.false_eq_true, lits, jj, jc, jm, Int.cast_ofNat_Int, j_bi0, j_bi1, not_true, not_false_eq_true, if_true, if_false, xe, xok_some, Sum.elim_inl, Sum.elim_inr, eq_true c1, e2, c2, e3, hd]
        · rw [if_neg c4] at hd
          simp (disch := omega) only [Bool.false_eq_true, lits, jj, jc, jm, Int.cast_ofNat_Int, j_bi0, j_bi1, not_true, not_false_eq_true, if_true, if_false, xe, xok_some, Sum.elim_inl, Sum.elim_inr, eq_true c1, e2, c2, c4, e3, hd]
      · refine ⟨(LK.w_ (by decide)).tr (LK.w_f (by omega)), up A iM 56 d, ?_, ?_, ?_⟩
        · exact RH.f_56 hA1 (by omega)
        · refine hC.u_cross (fun o h1 h2 => by rw [gi_wr_f (by show o ≠ 61; omega), gi_wr_f h1]) (fun o h1 => up_o h1) (fun k hk e => up_n (by omega)) ?_
          intro q h1 h2
          rw [gi_wr_o (by decide), up_z, hb q h1 h2]
          by_cases e : q = p
          · subst e; rw [gi_wr (by omega), if_pos rfl]
          · rw [gi_wr_z (by omega), if_neg e]; exact hC.cross q h1 h2
        · refine hI.u_cross (fun o h1 => up_o h1) (fun k hk e => up_n (by omega)) ?_
          rw [up_z]; omega
  · exact ⟨(j32 0, μ), by simp (disch := omega) only [Bool.false_eq_true, lits, jj, jc, jm, Int.cast_ofNat_Int, j_bi0, j_bi1, not_true, not_false_eq_true, if_true, if_false, xe, xok_some, Sum.elim_inl, Sum.elim_inr, eq_false c1], (j32 0, μ), by simp (disch := omega) only [Bool.false_eq_true, lits, jj, jc, jm, Int.cast_ofNat_Int, j_bi0, j_bi1, not_true, not_false_eq_true, if_true, if_false, xe, xok_some, Sum.elim_inl, Sum.elim_inr, eq_false c1], rfl, xStp.same hA hC hI⟩

theorem s_end {A : xAs} {μ : xm} {R : xr} {n : Nat} (hA : RH A μ) (hC : CH A μ R n) (hI : Inv A) (a1 a2 a3 : Int32) : ∃ q, fX11_end a1 a2 a3 μ = some q ∧ ∃ q2, fX12_end a1 a2 a3 q.2 = some q2 ∧ q2.1 = q.1 ∧ xStp μ R n q2.2 := by
  obtain ⟨p, rfl, hp⟩ := j32_ex a1
  obtain ⟨m, rfl, hm⟩ := j32_ex a2
  obtain ⟨w, rfl, hw⟩ := j32_ex a3
  unfold fX11_end fX12_end
  simp only [lits, jj]
  rw [eX11_isPerson hp, eX12_isPerson hp, eX11_within hm (by omega) (by omega), eX12_in hm (by omega) (by omega), eX11_within hw (by omega) (by omega), eX12_in hw (by omega) (by omega)]
  by_cases c1 : 0 ≤ p ∧ p < 8
  · by_cases c2 : 0 ≤ m ∧ m ≤ 300
    · by_cases c3 : 1 ≤ w ∧ w ≤ 20
      · obtain ⟨k, hk⟩ : ∃ k, A iM_endMany p = k := ⟨_, rfl⟩
        have hkb := hI.endMany p c1.1 c1.2
        have e1 := hC.told p c1.1 c1.2
        rw [hk] at hkb e1
        have e0 := eX11_isPerson hp
        by_cases c4 : k = 5
        · refine ⟨(j32 (-1), μ), ?_, (j32 (-1), μ), ?_, rfl, xStp.same hA hC hI⟩
          · simp (disch := omega) only [Bool.false_eq_true, lits, jj, jc, jm, Int.cast_ofNat_Int, j_bi0, j_bi1, not_true, not_false_eq_true, if_true, if_false, xe, xok_some, Sum.elim_inl, Sum.elim_inr, eq_true c1, eq_true c2, eq_true c3, fX10_tell, e0, e1, show ¬ k < 0 by omega, show ¬ k < 5 by omega]
          · simp (disch := omega) only [Bool.false_eq_true, lits, jj, jc, jm, Int.cast_ofNat_Int, j_bi0, j_bi1, not_true, not_false_eq_true, if_true, if_false, xe, xok_some, Sum.elim_inl, Sum.elim_inr, eq_true c1, eq_true c2, eq_true c3, hA, hk, c4]
        · -- the class's four rows
          obtain ⟨L, hL⟩ : ∃ L, (if k = 0 then w else wAll A p + w) = L := ⟨_, rfl⟩
          have hwb : 0 ≤ wAll A p ∧ wAll A p ≤ 100 := by
            have := sumTo_b (f := wWt A p) (B := 20) (k := (wEnds A p).toNat) (fun z h1 h2 => by
              unfold wWt; unfold wEnds at h2
              by_cases e : A iM_endMany p = 0
              · rw [if_pos e]; omega
              · rw [if_neg e]; rw [if_neg e] at h2; have := hI.endWeight p z c1.1 c1.2 h1 (by omega); omega)
            have h5 : (wEnds A p).toNat ≤ 5 := by unfold wEnds; split <;> omega
            unfold wAll; omega
          have f1 : ∀ ν : xm, gi ν iC_ways_told p = k → fX10_tell_j86 (j32 L) (j32 p) ν = some (j32 (k + 1), wr (wr ν iC_ways_allWeights p L) iC_ways_told p (k + 1)) := by
            intro ν hν
            unfold fX10_tell_j86
            simp (disch := first | omega | decide) only [Bool.false_eq_true, lits, jj, jc, jm, Int.cast_ofNat_Int, j_bi0, j_bi1, not_true, not_false_eq_true, if_true, if_false, xe, xok_some, Sum.elim_inl, Sum.elim_inr, gi_wr_o, gi_wr, hν]
          generalize hμ1 : wr (wr (wr (wr μ iC_ways_minutes (5 * p + k) m) iC_ways_weights (5 * p + k) w) iC_ways_allWeights p L) iC_ways_told p (k + 1) = μ1
          have f2 : fX10_tell (j32 p) (j32 m) (j32 w) μ = some (j32 (k + 1), μ1) := by
            unfold fX10_tell
            rw [e0]
            have g1 : gi (wr μ iC_ways_minutes (5 * p + k) m) iC_ways_told p = k := by rw [gi_wr_o (by decide)]; exact e1
            have g2 : gi (wr (wr μ iC_ways_minutes (5 * p + k) m) iC_ways_weights (5 * p + k) w) iC_ways_told p = k := by rw [gi_wr_o (by decide)]; exact g1
            have g3 : gi (wr (wr μ iC_ways_minutes (5 * p + k) m) iC_ways_weights (5 * p + k) w) iC_ways_allWeights p = wAll A p := by rw [gi_wr_o (by decide), gi_wr_o (by decide)]; exact hC.wall p c1.1 c1.2
            have g4 := f1 _ g2
            rw [hμ1] at g4
            by_cases c5 : k = 0
            · rw [if_pos c5] at hL
              subst c5; subst hL
              simp (disch := omega) only [Bool.false_eq_true, lits, jj, jc, jm, Int.cast_ofNat_Int, j_bi0, j_bi1, not_true, not_false_eq_true, if_true, if_false, xe, xok_some, Sum.elim_inl, Sum.elim_inr, eq_true c1, e1, show ¬ (0 : Int) < 0 by omega, show (0 : Int) < 5 by omega, show p * 5 + 0 = 5 * p + 0 by omega, g1, g2]
              exact g4
            · rw [if_neg c5] at hL
              simp (disch := omega) only [Bool.false_eq_true, lits, jj, jc, jm, Int.cast_ofNat_Int, j_bi0, j_bi1, not_true, not_false_eq_true, if_true, if_false, xe, xok_some, Sum.elim_inl, Sum.elim_inr, eq_true c1, e1, show ¬ k < 0 by omega, show k < 5 by omega, show p * 5 + k = 5 * p + k by omega, g1, g2, c5, g3, hL]
              exact g4
          have g5 : ∀ o, o ≠ iC_ways_minutes → o ≠ iC_ways_weights → o ≠ iC_ways_allWeights → o ≠ iC_ways_told → gi μ1 o = gi μ o := fun o h1 h2 h3 h4 => by
            rw [← hμ1, gi_wr_f h4, gi_wr_f h3, gi_wr_f h2, gi_wr_f h1]
          have hA1 : RH A μ1 := RH.keep hA (fun o h1 h2 => g5 o (by show o ≠ 44; omega) (by show o ≠ 45; omega) (by show o ≠ 46; omega) (by show o ≠ 43; omega))
          generalize hμ2 : wr (wr (wr μ1 iM_endMinutes (5 * p + k) m) iM_endWeight (5 * p + k) w) iM_endMany p (k + 1) = μ2
          refine ⟨(j32 (k + 1), μ1), ?_, (j32 (k + 1), μ2), ?_, rfl, ?_⟩
          · simp (disch := omega) only [Bool.false_eq_true, lits, jj, jc, jm, Int.cast_ofNat_Int, j_bi0, j_bi1, not_true, not_false_eq_true, if_true, if_false, xe, xok_some, Sum.elim_inl, Sum.elim_inr, eq_true c1, eq_true c2, eq_true c3, f2]
          · have g6 : gi μ1 iM_endMany p = k := by rw [RH.at hA1 rfl]; exact hk
            simp (disch := omega) only [Bool.false_eq_true, lits, jj, jc, jm, Int.cast_ofNat_Int, j_bi0, j_bi1, not_true, not_false_eq_true, if_true, if_false, xe, xok_some, Sum.elim_inl, Sum.elim_inr, eq_true c1, eq_true c2, eq_true c3, g6, c4]
            simp (disch := first | omega | decide) only [Bool.false_eq_true, lits, jj, jc, jm, Int.cast_ofNat_Int, j_bi0, j_bi1, not_true, not_false_eq_true, if_true, if_false, xe, xok_some, Sum.elim_inl, Sum.elim_inr, gi_wr_o, gi_wr, g6, hμ2]
            rw [← hμ2, gi_wr (by omega)]
          · have g7 : ∀ o, o ≠ iM_endMinutes → o ≠ iM_endWeight → o ≠ iM_endMany → gi μ2 o = gi μ1 o := fun o h1 h2 h3 => by
              rw [← hμ2, gi_wr_f h3, gi_wr_f h2, gi_wr_f h1]
            refine ⟨LK.of (fun o ho => by rw [g7 o (by show o ≠ 100; omega) (by show o ≠ 101; omega) (by show o ≠ 99; omega), g5 o (by show o ≠ 44; omega) (by show o ≠ 45; omega) (by show o ≠ 46; omega) (by show o ≠ 43; omega)]), up (up (up A iM_endMinutes (5 * p + k) m) iM_endWeight (5 * p + k) w) iM_endMany p (k + 1), ?_, ?_, ?_⟩
            · rw [← hμ2]
              exact RH.w_endMany (RH.w_endWeight (RH.w_endMinutes hA1 (by omega)) (by omega)) (by omega)
            · generalize hA' : up (up (up A iM_endMinutes (5 * p + k) m) iM_endWeight (5 * p + k) w) iM_endMany p (k + 1) = A'
              have m1 : ∀ q, 0 ≤ q → A' iM_endMany q = if q = p then k + 1 else A iM_endMany q := by
                intro q h1
                rw [← hA']
                by_cases e : q = p
                · rw [if_pos e, e]; simp (disch := first | omega | decide) only [up_z, up_n, up_o]
                · rw [if_neg e]; simp (disch := first | omega | decide) only [up_z, up_n, up_o]
              have m2 : ∀ q, 0 ≤ q → A' iM_endWeight q = if q = 5 * p + k then w else A iM_endWeight q := by
                intro q h1
                rw [← hA']
                by_cases e : q = 5 * p + k
                · rw [if_pos e, e]; simp (disch := first | omega | decide) only [up_z, up_n, up_o]
                · rw [if_neg e]; simp (disch := first | omega | decide) only [up_z, up_n, up_o]
              have m3 : ∀ q, 0 ≤ q → A' iM_endMinutes q = if q = 5 * p + k then m else A iM_endMinutes q := by
                intro q h1
                rw [← hA']
                by_cases e : q = 5 * p + k
                · rw [if_pos e, e]; simp (disch := first | omega | decide) only [up_z, up_n, up_o]
                · rw [if_neg e]; simp (disch := first | omega | decide) only [up_z, up_n, up_o]
              have k1 : gi μ2 iC_ways_told = gi μ1 iC_ways_told := g7 _ (by decide) (by decide) (by decide)
              have k2 : gi μ2 iC_ways_weights = gi μ1 iC_ways_weights := g7 _ (by decide) (by decide) (by decide)
              have k3 : gi μ2 iC_ways_minutes = gi μ1 iC_ways_minutes := g7 _ (by decide) (by decide) (by decide)
              have k4 : gi μ2 iC_ways_allWeights = gi μ1 iC_ways_allWeights := g7 _ (by decide) (by decide) (by decide)
              have t1 : ∀ q, 0 ≤ q → gi μ1 iC_ways_told q = if q = p then k + 1 else gi μ iC_ways_told q := by
                intro q h1
                rw [← hμ1]
                by_cases e : q = p
                · rw [if_pos e, e, gi_wr (by omega)]
                · rw [if_neg e, gi_wr_z (by omega), gi_wr_o (by decide), gi_wr_o (by decide), gi_wr_o (by decide)]
              have t2 : ∀ q, 0 ≤ q → gi μ1 iC_ways_weights q = if q = 5 * p + k then w else gi μ iC_ways_weights q := by
                intro q h1
                rw [← hμ1, gi_wr_o (by decide), gi_wr_o (by decide)]
                by_cases e : q = 5 * p + k
                · rw [if_pos e, e, gi_wr (by omega)]
                · rw [if_neg e, gi_wr_z (by omega), gi_wr_o (by decide)]
              have t3 : ∀ q, 0 ≤ q → gi μ1 iC_ways_minutes q = if q = 5 * p + k then m else gi μ iC_ways_minutes q := by
                intro q h1
                rw [← hμ1, gi_wr_o (by decide), gi_wr_o (by decide), gi_wr_o (by decide)]
                by_cases e : q = 5 * p + k
                · rw [if_pos e, e, gi_wr (by omega)]
                · rw [if_neg e, gi_wr_z (by omega)]
              have t4 : ∀ q, 0 ≤ q → gi μ1 iC_ways_allWeights q = if q = p then L else gi μ iC_ways_allWeights q := by
                intro q h1
                rw [← hμ1, gi_wr_o (by decide)]
                by_cases e : q = p
                · rw [if_pos e, e, gi_wr (by rw [← hL]; split <;> omega)]
                · rw [if_neg e, gi_wr_z (by omega), gi_wr_o (by decide), gi_wr_o (by decide)]
              have ee : ∀ q, 0 ≤ q → q ≠ p → wEnds A' q = wEnds A q := fun q h1 h2 => by unfold wEnds; rw [m1 q h1, if_neg h2]
              have ep : wEnds A' p = k + 1 := by unfold wEnds; rw [m1 p c1.1, if_pos rfl, if_neg (by omega)]
              refine hC.u_end (fun o h1 h2 h3 h4 h5 => ?_) (fun o h1 h2 h3 => by rw [← hA', up_o h1, up_o h3, up_o h2]) ?_ ?_ ?_ ?_
              · rw [g7 o (by show o ≠ 100; omega) (by show o ≠ 101; omega) (by show o ≠ 99; omega), g5 o (by assumption) (by assumption) (by assumption) (by assumption)]
              · intro q h1 h2
                rw [k1, t1 q h1, m1 q h1]
                split
                · rfl
                · exact hC.told q h1 h2
              · intro q e h1 h2 h3 h4
                rw [k3, t3 _ (by omega)]
                by_cases cq : q = p
                · subst cq
                  rw [ep] at h4
                  have hx : wMin A' q e = if 5 * q + e = 5 * q + k then m else A iM_endMinutes (5 * q + e) := by
                    unfold wMin
                    rw [m1 q h1, if_pos rfl, if_neg (show ¬ k + 1 = 0 by omega), m3 _ (by omega)]
                  rw [hx]
                  by_cases ce : e = k
                  · rw [if_pos (show 5 * q + e = 5 * q + k by omega), if_pos (show 5 * q + e = 5 * q + k by omega)]
                  · rw [if_neg (show ¬ 5 * q + e = 5 * q + k by omega), if_neg (show ¬ 5 * q + e = 5 * q + k by omega)]
                    have := hC.wmin q e h1 h2 h3 (by unfold wEnds; rw [hk, if_neg (by omega)]; omega)
                    unfold wMin at this
                    rw [hk, if_neg (by omega)] at this
                    exact this
                · rw [ee q h1 cq] at h4
                  have h5 : wEnds A q ≤ 5 := by unfold wEnds; have := hI.endMany q h1 h2; split <;> omega
                  have hx : wMin A' q e = wMin A q e := by
                    unfold wMin
                    rw [m1 q h1, if_neg cq, m3 _ (by omega), if_neg (show ¬ 5 * q + e = 5 * p + k by omega)]
                  rw [hx, if_neg (show ¬ 5 * q + e = 5 * p + k by omega)]
                  exact hC.wmin q e h1 h2 h3 h4
              · intro q e h1 h2 h3 h4
                rw [k2, t2 _ (by omega)]
                by_cases cq : q = p
                · subst cq
                  rw [ep] at h4
                  have hx : wWt A' q e = if 5 * q + e = 5 * q + k then w else A iM_endWeight (5 * q + e) := by
                    unfold wWt
                    rw [m1 q h1, if_pos rfl, if_neg (show ¬ k + 1 = 0 by omega), m2 _ (by omega)]
                  rw [hx]
                  by_cases ce : e = k
                  · rw [if_pos (show 5 * q + e = 5 * q + k by omega), if_pos (show 5 * q + e = 5 * q + k by omega)]
                  · rw [if_neg (show ¬ 5 * q + e = 5 * q + k by omega), if_neg (show ¬ 5 * q + e = 5 * q + k by omega)]
                    have := hC.wwt q e h1 h2 h3 (by unfold wEnds; rw [hk, if_neg (by omega)]; omega)
                    unfold wWt at this
                    rw [hk, if_neg (by omega)] at this
                    exact this
                · rw [ee q h1 cq] at h4
                  have h5 : wEnds A q ≤ 5 := by unfold wEnds; have := hI.endMany q h1 h2; split <;> omega
                  have hx : wWt A' q e = wWt A q e := by
                    unfold wWt
                    rw [m1 q h1, if_neg cq, m2 _ (by omega), if_neg (show ¬ 5 * q + e = 5 * p + k by omega)]
                  rw [hx, if_neg (show ¬ 5 * q + e = 5 * p + k by omega)]
                  exact hC.wwt q e h1 h2 h3 h4
              · intro q h1 h2
                rw [k4, t4 q h1]
                by_cases cq : q = p
                · subst cq
                  rw [if_pos rfl, ← hL]
                  unfold wAll
                  rw [ep, show (k + 1).toNat = k.toNat + 1 by omega, sumTo_s]
                  have hlast : wWt A' q (k.toNat : Int) = w := by
                    unfold wWt
                    rw [m1 q h1, if_pos rfl, if_neg (show ¬ k + 1 = 0 by omega), m2 _ (by omega), if_pos (show 5 * q + (k.toNat : Int) = 5 * q + k by omega)]
                  rw [hlast]
                  by_cases c5 : k = 0
                  · rw [if_pos c5, c5]; show w = 0 + w; omega
                  · rw [if_neg c5]
                    have : sumTo (wWt A q) (wEnds A q).toNat = sumTo (wWt A' q) k.toNat := by
                      rw [show wEnds A q = k by unfold wEnds; rw [hk, if_neg c5]]
                      refine sumTo_c (fun z h3 h4 => ?_)
                      unfold wWt
                      rw [m1 q h1, if_pos rfl, if_neg (show ¬ k + 1 = 0 by omega), m2 _ (by omega), if_neg (show ¬ 5 * q + z = 5 * q + k by omega), hk, if_neg c5]
                    rw [this]
                · rw [if_neg cq, hC.wall q h1 h2]
                  unfold wAll
                  rw [ee q h1 cq]
                  have h5 : wEnds A q ≤ 5 := by unfold wEnds; have := hI.endMany q h1 h2; split <;> omega
                  refine sumTo_c (fun z h3 h4 => ?_)
                  unfold wWt
                  rw [m1 q h1, if_neg cq, m2 _ (by omega), if_neg (show ¬ 5 * q + z = 5 * p + k by omega)]
            · refine hI.u_end (fun o h1 h2 h3 => by rw [up_o h1, up_o h3, up_o h2]) ?_ ?_ ?_
              · intro q h1 h2
                by_cases e : q = p
                · rw [e]; simp (disch := first | omega | decide) only [up_z, up_n, up_o]; omega
                · simp (disch := first | omega | decide) only [up_z, up_n, up_o]; exact hI.endMany q h1 h2
              · intro q e h1 h2 h3 h4
                by_cases cq : q = p
                · subst cq
                  rw [up_z] at h4
                  by_cases ce : e = k
                  · rw [ce]; simp (disch := first | omega | decide) only [up_z, up_n, up_o]; omega
                  · simp (disch := first | omega | decide) only [up_z, up_n, up_o]; exact hI.endMinutes q e h1 h2 h3 (by omega)
                · rw [up_n (by omega), up_o (by decide), up_o (by decide)] at h4
                  have h5 := hI.endMany q h1 h2
                  simp (disch := first | omega | decide) only [up_z, up_n, up_o]; exact hI.endMinutes q e h1 h2 h3 h4
              · intro q e h1 h2 h3 h4
                by_cases cq : q = p
                · subst cq
                  rw [up_z] at h4
                  by_cases ce : e = k
                  · rw [ce]; simp (disch := first | omega | decide) only [up_z, up_n, up_o]; omega
                  · simp (disch := first | omega | decide) only [up_z, up_n, up_o]; exact hI.endWeight q e h1 h2 h3 (by omega)
                · rw [up_n (by omega), up_o (by decide), up_o (by decide)] at h4
                  have h5 := hI.endMany q h1 h2
                  simp (disch := first | omega | decide) only [up_z, up_n, up_o]; exact hI.endWeight q e h1 h2 h3 h4
      · exact ⟨(j32 (-1), μ), by simp (disch := omega) only [Bool.false_eq_true, lits, jj, jc, jm, Int.cast_ofNat_Int, j_bi0, j_bi1, not_true, not_false_eq_true, if_true, if_false, xe, xok_some, Sum.elim_inl, Sum.elim_inr, eq_true c1, eq_true c2, eq_false c3], (j32 (-1), μ), by simp (disch := omega) only [Bool.false_eq_true, lits, jj, jc, jm, Int.cast_ofNat_Int, j_bi0, j_bi1, not_true, not_false_eq_true, if_true, if_false, xe, xok_some, Sum.elim_inl, Sum.elim_inr, eq_true c1, eq_true c2, eq_false c3], rfl, xStp.same hA hC hI⟩
    · exact ⟨(j32 (-1), μ), by simp (disch := omega) only [Bool.false_eq_true, lits, jj, jc, jm, Int.cast_ofNat_Int, j_bi0, j_bi1, not_true, not_false_eq_true, if_true, if_false, xe, xok_some, Sum.elim_inl, Sum.elim_inr, eq_true c1, eq_false c2], (j32 (-1), μ), by simp (disch := omega) only [Bool.false_eq_true, lits, jj, jc, jm, Int.cast_ofNat_Int, j_bi0, j_bi1, not_true, not_false_eq_true, if_true, if_false, xe, xok_some, Sum.elim_inl, Sum.elim_inr, eq_true c1, eq_false c2], rfl, xStp.same hA hC hI⟩
  · exact ⟨(j32 (-1), μ), by simp (disch := omega) only [Bool.false_eq_true, lits, jj, jc, jm, Int.cast_ofNat_Int, j_bi0, j_bi1, not_true, not_false_eq_true, if_true, if_false, xe, xok_some, Sum.elim_inl, Sum.elim_inr, eq_false c1], (j32 (-1), μ), by simp (disch := omega) only [Bool.false_eq_true, lits, jj, jc, jm, Int.cast_ofNat_Int, j_bi0, j_bi1, not_true, not_false_eq_true, if_true, if_false, xe, xok_some, Sum.elim_inl, Sum.elim_inr, eq_false c1], rfl, xStp.same hA hC hI⟩
