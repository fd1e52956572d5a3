/-! what the plain model says is owed -/
def LayR (μ : xm) (ls : List Cl) : Prop := gi μ iM 20 = ls.length ∧ ls.length ≤ 14 ∧ ∀ (i : Nat) (h : i < ls.length), gi μ iM_letterOf i = ls[i].1 ∧ SegR (gi μ iM_codes) (gi μ iM_codeFrom i) (gi μ iM_codeHalf i) ls[i].2.1 ∧ SegR (gi μ iM_codes) (gi μ iM_codeHalf i) (gi μ iM_codeTo i) (bo ls[i].2.2) ∧ gi μ iM_codeTo i ≤ 220
theorem LayR.gi {μ ν : xm} {ls : List Cl} (h : LayR μ ls) (e : ∀ j, 75 ≤ j → j ≤ 79 → gi ν j = gi μ j) (e2 : gi ν iM 20 = gi μ iM 20) : LayR ν ls := by
  unfold LayR
  rw [e iM_letterOf (by decide) (by decide), e iM_codes (by decide) (by decide), e iM_codeFrom (by decide) (by decide), e iM_codeHalf (by decide) (by decide), e iM_codeTo (by decide) (by decide), e2]
  exact h
theorem byLaw_ok {μ : xm} {ls : List Cl} (hl : LayR μ ls) {F : Nat → Int} (hF : HFr μ F) {L b : Int} (hb : Lok L b) : ∃ ν, fX12_byLaw (j32 L) (j32 b) μ = some (j32 (valL L b F ls), ν) ∧ ∀ o, o ≠ iM_stack → gi ν o = gi μ o := by
  obtain ⟨l1, l2, l3⟩ := id hl
  have hL : 0 ≤ L ∧ L ≤ 200 ∧ 0 ≤ b ∧ b ≤ 1440 := by rcases hb with h | h | h <;> omega
  have hx : xok (fX12_byLaw (j32 L) (j32 b) μ) (fun q => q.1 = j32 (valL L b F ls) ∧ ∀ o, o ≠ iM_stack → gi q.2 o = gi μ o) := by
    unfold fX12_byLaw
    rw [xok_bd]
    refine xok_for (fun k a => a.1 = j32 k ∧ (∀ o, o ≠ iM_stack → gi a.2 o = gi μ o) ∧ valL L b F ls = valL L b F (ls.drop k)) ls.length (by omega) ⟨rfl, fun _ _ => rfl, by simp⟩ ?_ ?_
    · rintro k ⟨x, μ2⟩ hk ⟨h1, hg, h3⟩
      simp only at h1 hg h3
      subst h1
      obtain ⟨c1, c2, c3, c4⟩ := l3 k hk
      rw [valL_at hk] at h3
      show xok (fX12_byLaw_b2 (j32 k) μ2 (j32 L) (j32 b)) _
      unfold fX12_byLaw_b2
      have lo := gi_lo μ iM_letterOf k
      have hi := gi_hi μ iM_letterOf k
      have k1 : ¬ (ls.length : Int) ≤ (k : Int) := by omega
      have g20 : gi μ2 iM 20 = ls.length := (congrFun (hg iM (by decide)) 20).trans l1
      have gl1 : gi μ2 iM_letterOf = gi μ iM_letterOf := hg _ (by decide)
      have gl2 : gi μ2 iM_codeFrom = gi μ iM_codeFrom := hg _ (by decide)
      have gl3 : gi μ2 iM_codeHalf = gi μ iM_codeHalf := hg _ (by decide)
      have gl4 : gi μ2 iM_codeTo = gi μ iM_codeTo := hg _ (by decide)
      rw [c1] at lo hi
      simp (disch := omega) only [Bool.false_eq_true, lits, jj, jc, jm, Int.cast_ofNat_Int, j_bi0, j_bi1, not_true, not_false_eq_true, if_true, if_false, xe, xok_some, Sum.elim_inl, Sum.elim_inr, Int.reduceEq, Int.reduceLT, Int.reduceLE, Int.reduceAdd, Int.reduceSub, Int.reduceMul, g20, k1, gl1, gl2, gl3, gl4, c1]
      by_cases d : ls[k].1 = L
      · rw [if_pos d]
        obtain ⟨ν1, e1, f1⟩ := comes_ok (μ := μ2) (by rw [hg iM_codes (by decide)]; exact c3) c4 (hF.of hg)
        have hg1 : ∀ o, o ≠ iM_stack → gi ν1 o = gi μ o := fun o ho => (f1 o ho).trans (hg o ho)
        rw [e1, xbd_e]
        by_cases t : ls[k].2.2 F = some true
        · rw [if_pos ⟨d, t⟩] at h3
          have e1v : orZ (bo ls[k].2.2 F) = (j32 1) := by unfold bo; rw [t]; rfl
          rw [if_pos (show (orZ (bo ls[k].2.2 F), ν1).1 = j32 1 from e1v)]
          obtain ⟨ν2, e2, f2⟩ := comes_ok (μ := ν1) (by rw [hg1 iM_codes (by decide)]; exact c2) (by have := c3.2.1; omega) (hF.of hg1)
          have hg2 : ∀ o, o ≠ iM_stack → gi ν2 o = gi μ o := fun o ho => (f2 o ho).trans (hg1 o ho)
          have n2 : gi ν1 iM_codeFrom = gi μ iM_codeFrom := hg1 _ (by decide)
          have n3 : gi ν1 iM_codeHalf = gi μ iM_codeHalf := hg1 _ (by decide)
          simp only [n2, n3]
          rw [e2, xbd_e]
          simp only []
          cases v : ls[k].2.1 F with
          | none =>
            rw [v] at h3
            simp only at h3
            show xok (if j32 0 ≤ (0 : Int32) then (if (0 : Int32) ≤ j32 b then _ else _) else _) _
            rw [if_pos (by decide), if_pos (show (0 : Int32) ≤ j32 b from (j_le (a := 0) (by omega) (by omega)).mpr hL.2.2.1), xok_some]
            exact xok_some.mpr ⟨by rw [h3]; rfl, hg2⟩
          | some y =>
            rw [v] at h3
            simp only at h3
            show xok (if j32 0 ≤ y then (if y ≤ j32 b then _ else _) else _) _
            have y1 := Int32.le_toInt y
            have y2 := Int32.toInt_lt y
            rw [show y = j32 y.toInt from (j32_toInt y).symm, h3]
            by_cases q0 : 0 ≤ y.toInt
            · rw [if_pos ((j_le (by omega) ⟨y1, y2⟩).mpr q0)]
              by_cases q1 : y.toInt ≤ b
              · rw [if_pos ((j_le ⟨y1, y2⟩ (by omega)).mpr q1), xok_some]
                refine xok_some.mpr ⟨?_, hg2⟩
                show j32 y.toInt = _
                congr 1; omega
              · rw [if_neg (fun c => q1 ((j_le ⟨y1, y2⟩ (by omega)).mp c)), xok_some]
                refine xok_some.mpr ⟨?_, hg2⟩
                show j32 b = _
                congr 1; omega
            · rw [if_neg (fun c => q0 ((j_le (by omega) ⟨y1, y2⟩).mp c)), xok_some]
              refine xok_some.mpr ⟨?_, hg2⟩
              show j32 0 = _
              congr 1; omega
        · rw [if_neg (fun c => t c.2)] at h3
          have e1v : ¬ orZ (bo ls[k].2.2 F) = (j32 1) := by
            unfold bo
            rcases hz : ls[k].2.2 F with _ | _ | _
            · show ¬ (0 : Int32) = j32 1; decide
            · show ¬ (0 : Int32) = j32 1; decide
            · exact absurd hz t
          rw [if_neg (show ¬ (orZ (bo ls[k].2.2 F), ν1).1 = j32 1 from e1v), xok_some]
          exact ⟨rfl, hg1, h3⟩
      · rw [if_neg d]
        rw [if_neg (fun c => d c.1)] at h3
        rw [xok_some]
        exact ⟨rfl, hg, h3⟩
    · rintro ⟨x, μ2⟩ ⟨h1, hg, h3⟩
      simp only at h1 hg h3
      subst h1
      show xok (fX12_byLaw_b2 (j32 ls.length) μ2 (j32 L) (j32 b)) _
      unfold fX12_byLaw_b2
      have g20 : gi μ2 iM 20 = ls.length := (congrFun (hg iM (by decide)) 20).trans l1
      have k1 : (ls.length : Int) ≤ (ls.length : Int) := Int.le_refl _
      simp (disch := omega) only [Bool.false_eq_true, lits, jj, jc, jm, Int.cast_ofNat_Int, j_bi0, j_bi1, not_true, not_false_eq_true, if_true, if_false, xe, xok_some, Sum.elim_inl, Sum.elim_inr, Int.reduceEq, Int.reduceLT, Int.reduceLE, Int.reduceAdd, Int.reduceSub, Int.reduceMul, g20, k1]
      rw [List.drop_eq_nil_of_le (by omega)] at h3
      exact ⟨by rw [h3]; rfl, hg⟩
  obtain ⟨⟨v, ν⟩, e, h1, h2⟩ := hx
  simp only at h1 h2
  exact ⟨ν, by rw [e, h1], h2⟩
