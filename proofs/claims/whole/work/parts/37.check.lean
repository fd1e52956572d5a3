/-! check -/
def wV (f : Int → Int) (w : Int) : Nat → Int32
  | 0 => j32 0
  | k + 1 => (wV f w k <<< (j32 8 &&& j32 31)) ||| (j32 (f (4 * w + k)) &&& j32 255)
theorem an255 (x : Int32) : (x &&& j32 255) &&& j32 255 = x &&& j32 255 := by rw [Int32.and_assoc, Int32.and_self]
theorem eX9_byteAt {A : xAs} {μ : xm} {R : xr} {n : Nat} (hC : CH A μ R n) (hI : Inv A) {z : Int} (hz : 0 ≤ z ∧ z < A iM 11) : fX9_byteAt (j32 z) μ = some (j32 (A iM_tape z) &&& j32 255) := by
  have h1 := hI.taped
  have e0 := hC.taped
  unfold fX9_byteAt
  simp (disch := omega) only [Bool.false_eq_true, lits, jj, jc, jm, Int.cast_ofNat_Int, j_bi0, j_bi1, not_true, not_false_eq_true, if_true, if_false, xe, xok_some, Sum.elim_inl, Sum.elim_inr, Int.reduceEq, Int.reduceLT, Int.reduceLE, Int.reduceAdd, Int.reduceSub, Int.reduceMul, e0, show ¬ z < 0 by omega, show ¬ A iM 11 ≤ z by omega, show ¬ 400 ≤ z by omega]
  rw [hC.tape z (by omega) (by omega)]
theorem eX9_wordAt {A : xAs} {μ : xm} {R : xr} {n : Nat} (hC : CH A μ R n) (hI : Inv A) {w : Int} (hz : 0 ≤ w ∧ 4 * w + 4 ≤ A iM 11) : fX9_wordAt (j32 w) μ = some (wV (A iM_tape) w 4) := by
  have h1 := hI.taped
  unfold fX9_wordAt
  simp only [lits]
  have key := xloop_for (b := fun v => fX9_wordAt_b4 v.1 v.2 (j32 w) μ) (fun k => (wV (A iM_tape) w k, j32 k)) 4 (r := wV (A iM_tape) w 4) (a := (j32 0, j32 0)) (by omega) rfl ?_ ?_
  · rw [key]; rfl
  · intro k hk
    show fX9_wordAt_b4 _ _ (j32 w) μ = _
    unfold fX9_wordAt_b4
    simp (disch := omega) only [Bool.false_eq_true, lits, jj, jc, jm, Int.cast_ofNat_Int, j_bi0, j_bi1, not_true, not_false_eq_true, if_true, if_false, xe, xok_some, Sum.elim_inl, Sum.elim_inr, Int.reduceEq, Int.reduceLT, Int.reduceLE, Int.reduceAdd, Int.reduceSub, Int.reduceMul, show ¬ (4 : Int) ≤ k by omega, show w * 4 = 4 * w by omega]
    rw [eX9_byteAt hC hI (by omega), xbd_e, an255]
    rfl
  · show fX9_wordAt_b4 _ _ (j32 w) μ = _
    unfold fX9_wordAt_b4
    simp (disch := omega) only [Bool.false_eq_true, lits, jj, jc, jm, Int.cast_ofNat_Int, j_bi0, j_bi1, not_true, not_false_eq_true, if_true, if_false, xe, xok_some, Sum.elim_inl, Sum.elim_inr, Int.reduceEq, Int.reduceLT, Int.reduceLE, Int.reduceAdd, Int.reduceSub, Int.reduceMul]
theorem eX12_tapeNumber {A : xAs} {μ : xm} (hA : gi μ iM_tape = A iM_tape) {w : Int} (hz : 0 ≤ w ∧ 4 * w + 4 ≤ 400) : fX12_tapeNumber (j32 w) μ = some (wV (A iM_tape) w 4) := by
  unfold fX12_tapeNumber
  simp only [lits, jj, xlt_e]
  have key := xloop_for (b := fun v => fX12_tapeNumber_b6 v.1 v.2 (j32 w) μ) (fun k => (wV (A iM_tape) w k, j32 (4 * w + k))) 4 (r := wV (A iM_tape) w 4) (a := (j32 0, j32 (4 * w))) (by omega) (by simp [wV]) ?_ ?_
  · rw [key]; rfl
  · intro k hk
    show fX12_tapeNumber_b6 _ _ (j32 w) μ = _
    unfold fX12_tapeNumber_b6
    simp (disch := omega) only [Bool.false_eq_true, lits, jj, jc, jm, Int.cast_ofNat_Int, j_bi0, j_bi1, not_true, not_false_eq_true, if_true, if_false, xe, xok_some, Sum.elim_inl, Sum.elim_inr, Int.reduceEq, Int.reduceLT, Int.reduceLE, Int.reduceAdd, Int.reduceSub, Int.reduceMul, show ¬ (4 * w + 4 ≤ 4 * w + k) by omega, hA]
    rw [show 4 * w + (k : Int) + 1 = 4 * w + ((k + 1 : Nat) : Int) by omega]
    rfl
  · show fX12_tapeNumber_b6 _ _ (j32 w) μ = _
    unfold fX12_tapeNumber_b6
    simp (disch := omega) only [Bool.false_eq_true, lits, jj, jc, jm, Int.cast_ofNat_Int, j_bi0, j_bi1, not_true, not_false_eq_true, if_true, if_false, xe, xok_some, Sum.elim_inl, Sum.elim_inr, Int.reduceEq, Int.reduceLT, Int.reduceLE, Int.reduceAdd, Int.reduceSub, Int.reduceMul, Int.le_refl]
theorem xl_l {α β : Type} {b : α → Option (α ⊕ β)} {a x : α} {n : Nat} (h : b a = some (.inl x)) : xloop (n + 1) b a = xloop n b x := by
  rw [show xloop (n + 1) b a = (match b a with | none => none | some (.inl x) => xloop n b x | some (.inr r) => some r) from rfl, h]
theorem xl_r {α β : Type} {b : α → Option (α ⊕ β)} {a : α} {r : β} {n : Nat} (h : b a = some (.inr r)) : xloop (n + 1) b a = some r := by
  rw [show xloop (n + 1) b a = (match b a with | none => none | some (.inl x) => xloop n b x | some (.inr r) => some r) from rfl, h]
/-- the place where a row of the tape is wrong: 4 none -/
def bad (A : xAs) (c i : Int) : Nat := if wV (A iM_tape) c 4 = j32 i then (if wV (A iM_tape) (c + 1) 4 = j32 (A iM_owesIt i) then (if wV (A iM_tape) (c + 2) 4 = j32 (A iM_hasIt i) then (if wV (A iM_tape) (c + 3) 4 = j32 (A iM_leftOf i) then 4 else 3) else 2) else 1) else 0
theorem bad_b (A : xAs) (c i : Int) : bad A c i ≤ 4 := by 
  unfold bad
  repeat' split
  all_goals omega
theorem eX12_row {A : xAs} {μ : xm} (hA : RH A μ) (hI : Inv A) (μ1 : xm) (hT : gi μ1 iM_tape = A iM_tape) (hO : gi μ1 iM_owesIt = A iM_owesIt) (hH : gi μ1 iM_hasIt = A iM_hasIt) (hL : gi μ1 iM_leftOf = A iM_leftOf) {c i : Int} (hc : 0 ≤ c ∧ c + 4 ≤ 100) (hi : isN A i) : xloop xfu (fun v => fX12_check_b58 v μ1 (j32 c) (j32 i)) (j32 0) = some (if bad A c i = 4 then .inl () else .inr (j32 (c + (bad A c i : Int)), μ1)) := by
  have h1 := hI.notes
  have w0 := eX12_tapeNumber hT (w := c) (by omega)
  have w1 := eX12_tapeNumber hT (w := c + 1) (by omega)
  have w2 := eX12_tapeNumber hT (w := c + 2) (by omega)
  have w3 := eX12_tapeNumber hT (w := c + 3) (by omega)
  have n0 : fX12_noteNumber (j32 i) (j32 0) μ1 = some (j32 i) := by unfold fX12_noteNumber; simp (disch := omega) only [Bool.false_eq_true, lits, jj, jc, jm, Int.cast_ofNat_Int, j_bi0, j_bi1, not_true, not_false_eq_true, if_true, if_false, xe, xok_some, Sum.elim_inl, Sum.elim_inr, Int.reduceEq, Int.reduceLT, Int.reduceLE, Int.reduceAdd, Int.reduceSub, Int.reduceMul]
  have n1 : fX12_noteNumber (j32 i) (j32 1) μ1 = some (j32 (A iM_owesIt i)) := by unfold fX12_noteNumber; simp (disch := omega) only [Bool.false_eq_true, lits, jj, jc, jm, Int.cast_ofNat_Int, j_bi0, j_bi1, not_true, not_false_eq_true, if_true, if_false, xe, xok_some, Sum.elim_inl, Sum.elim_inr, Int.reduceEq, Int.reduceLT, Int.reduceLE, Int.reduceAdd, Int.reduceSub, Int.reduceMul, hO]
  have n2 : fX12_noteNumber (j32 i) (j32 2) μ1 = some (j32 (A iM_hasIt i)) := by unfold fX12_noteNumber; simp (disch := omega) only [Bool.false_eq_true, lits, jj, jc, jm, Int.cast_ofNat_Int, j_bi0, j_bi1, not_true, not_false_eq_true, if_true, if_false, xe, xok_some, Sum.elim_inl, Sum.elim_inr, Int.reduceEq, Int.reduceLT, Int.reduceLE, Int.reduceAdd, Int.reduceSub, Int.reduceMul, hH]
  have n3 : fX12_noteNumber (j32 i) (j32 3) μ1 = some (j32 (A iM_leftOf i)) := by unfold fX12_noteNumber; simp (disch := omega) only [Bool.false_eq_true, lits, jj, jc, jm, Int.cast_ofNat_Int, j_bi0, j_bi1, not_true, not_false_eq_true, if_true, if_false, xe, xok_some, Sum.elim_inl, Sum.elim_inr, Int.reduceEq, Int.reduceLT, Int.reduceLE, Int.reduceAdd, Int.reduceSub, Int.reduceMul, hL]
  obtain ⟨b, hb⟩ : ∃ b, (fun v => fX12_check_b58 v μ1 (j32 c) (j32 i)) = b := ⟨_, rfl⟩
  have bx : ∀ (j : Int) (u v : Int32), 0 ≤ j → j < 4 → fX12_tapeNumber (j32 (c + j)) μ1 = some u → fX12_noteNumber (j32 i) (j32 j) μ1 = some v → b (j32 j) = some (if u = v then .inl (j32 (j + 1)) else .inr (.inr (j32 (c + j), μ1))) := by
    intro j u v h1 h2 h3 h4
    rw [← hb]
    show fX12_check_b58 _ μ1 _ _ = _
    unfold fX12_check_b58
    simp (disch := omega) only [Bool.false_eq_true, lits, jj, jc, jm, Int.cast_ofNat_Int, j_bi0, j_bi1, not_true, not_false_eq_true, if_true, if_false, xe, xok_some, Sum.elim_inl, Sum.elim_inr, Int.reduceEq, Int.reduceLT, Int.reduceLE, Int.reduceAdd, Int.reduceSub, Int.reduceMul, show ¬ (4 : Int) ≤ j by omega, h3, h4]
    split <;> rfl
  have b4 : b (j32 4) = some (.inr (.inl ())) := by
    rw [← hb]
    show fX12_check_b58 _ μ1 _ _ = _
    unfold fX12_check_b58
    simp (disch := omega) only [Bool.false_eq_true, lits, jj, jc, jm, Int.cast_ofNat_Int, j_bi0, j_bi1, not_true, not_false_eq_true, if_true, if_false, xe, xok_some, Sum.elim_inl, Sum.elim_inr, Int.reduceEq, Int.reduceLT, Int.reduceLE, Int.reduceAdd, Int.reduceSub, Int.reduceMul]
  have k0 := bx 0 _ _ (by omega) (by omega) (by rw [Int.add_zero]; exact w0) n0
  have k1 := bx 1 _ _ (by omega) (by omega) w1 n1
  have k2 := bx 2 _ _ (by omega) (by omega) w2 n2
  have k3 := bx 3 _ _ (by omega) (by omega) w3 n3
  rw [hb]
  show xloop (999995 + 1 + 1 + 1 + 1 + 1) b (j32 0) = _
  unfold bad
  by_cases c0 : wV (A iM_tape) c 4 = j32 i
  · rw [if_pos c0] at k0
    rw [xl_l k0, if_pos c0]
    by_cases c1 : wV (A iM_tape) (c + 1) 4 = j32 (A iM_owesIt i)
    · rw [if_pos c1] at k1
      rw [if_pos c1]
      refine (xl_l k1).trans ?_
      by_cases c2 : wV (A iM_tape) (c + 2) 4 = j32 (A iM_hasIt i)
      · rw [if_pos c2] at k2
        rw [if_pos c2]
        refine (xl_l k2).trans ?_
        by_cases c3 : wV (A iM_tape) (c + 3) 4 = j32 (A iM_leftOf i)
        · rw [if_pos c3] at k3
          rw [if_pos c3]
          refine (xl_l k3).trans ?_
          exact xl_r b4
        · rw [if_neg c3] at k3
          rw [if_neg c3]
          exact xl_r k3
      · rw [if_neg c2] at k2
        rw [if_neg c2]
        exact xl_r k2
    · rw [if_neg c1] at k1
      rw [if_neg c1]
      exact xl_r k1
  · rw [if_neg c0] at k0
    rw [if_neg c0]
    exact xl_r k0
theorem s_check {A : xAs} {μ : xm} {R : xr} {n : Nat} (hA : RH A μ) (hC : CH A μ R n) (hI : Inv A) (a1 : Int32) : ∃ q, fX11_check a1 μ = some q ∧ ∃ q2, fX12_check a1 q.2 = some q2 ∧ q2.1 = q.1 ∧ xStp μ R n q2.2 := by
  obtain ⟨p, rfl, hp⟩ := j32_ex a1
  have h1 := hI.taped
  have h2 := hI.notes
  have h3 := hI.now
  have e0 := hC.taped
  have eN := hC.now
  have eL := hC.notes
  have eA : gi μ iM 11 = A iM 11 := (RH.sc hA).2.2.2.2.1
  by_cases c1 : 0 ≤ p ∧ 16 * p ≤ A iM 11
  · -- the two walks
    obtain ⟨μ1, hμ1⟩ : ∃ x, wr μ iC_tape 1 0 = x := ⟨_, rfl⟩
    obtain ⟨μ2, hμ2⟩ : ∃ x, wr μ1 iM 11 0 = x := ⟨_, rfl⟩
    have hA1 : RH A μ1 := by rw [← hμ1]; exact RH.keep hA (fun o h1 h2 => gi_wr_f (by show o ≠ 1; omega))
    have hA2 : RH (up A iM 11 0) μ2 := by rw [← hμ2]; exact RH.f_11 hA1 (by omega)
    have hI2 : Inv (up A iM 11 0) := by
      refine hI.u_feed (fun o h1 h2 => up_o h2) (fun k h1 h2 => up_n (by omega)) ?_ ?_
      · rw [up_z]; omega
      · intro z h1 h2; rw [up_o (by decide)]; exact hI.tape z h1 h2
    have hC2 : CH (up A iM 11 0) μ2 R n := by
      refine hC.u_feed (fun o h1 h2 h3 => ?_) (fun z h1 h2 => ?_) (fun o h1 h2 => up_o h2) (fun k h1 h2 => up_n (by omega)) ?_ ?_
      · rw [← hμ2, gi_wr_f (by show o ≠ 61; omega), ← hμ1, gi_wr_f h2]
      · rw [← hμ2, gi_wr_f (by decide), ← hμ1, gi_wr_z (by omega)]
      · rw [← hμ2, gi_wr_f (by decide), ← hμ1, gi_wr (by omega), up_z]
      · intro z h1 h2
        rw [← hμ2, gi_wr_f (by decide), ← hμ1, gi_wr_f (by decide), up_o (by decide)]
        exact hC.tape z h1 h2
    have hS : xStp μ R n μ2 := ⟨by rw [← hμ2, ← hμ1]; exact (LK.w_ (by decide)).tr (LK.w_f (by omega)), _, hA2, hC2, hI2⟩
    have eF : ∀ o, rper o = true → gi μ2 o = A o := fun o ho => (RH.at hA2 ho).trans (up_o (by rintro rfl; exact absurd ho (by decide)))
    have e37 : gi μ2 iM 37 = A iM 37 := by rw [(RH.sc hA2).2.2.2.2.2.2.1, up_n (by omega)]
    have key := xsim_for (b := fun v => fX4_firstWrong_b6 v.1 v.2 (j32 p) (j32 (A iM 0)) μ) (c := fun v => fX12_check_b27 v.1 v.2 (j32 p) μ2) (a := (j32 0, j32 0)) (a' := (j32 0, j32 0))
      (P := fun r s => (∃ c : Int, 0 ≤ c ∧ c ≤ 4 * p ∧ r = .inl (j32 c) ∧ s = .inl (j32 c)) ∨ ∃ c : Int32, r = .inr c ∧ s = .inr (c, μ2))
      (fun k x y => ∃ c : Int, 0 ≤ c ∧ c ≤ 4 * p ∧ c % 4 = 0 ∧ x = (j32 c, j32 k) ∧ y = (j32 c, j32 k)) (A iM 37).toNat (by omega) ⟨0, by omega, by omega, by omega, rfl, rfl⟩ ?_ ?_
    · obtain ⟨r, s, k1, k2, k3⟩ := key
      have f1 : fX4_firstWrong (j32 p) (j32 (A iM 0)) μ = some (Sum.elim (fun q => if (j32 p * j32 4) ≤ q then j32 (-1) else q) (fun q => q) r) := by
        unfold fX4_firstWrong
        rw [show ((0 : Int32), (0 : Int32)) = (j32 0, j32 0) from rfl, k1, xbd_e]
        cases r with
        | inl q => rw [xsm_e0, Sum.elim_inl]; simp only [lits]; split <;> rfl
        | inr q => rw [xsm_e1]; rfl
      have f2 : fX12_check (j32 p) μ1 = some (Sum.elim (fun q => if (j32 4 * j32 p) ≤ q then (j32 (-1), μ2) else (q, μ2)) (fun q => q) s) := by
        unfold fX12_check
        have eB : gi μ1 iM 11 = A iM 11 := (RH.sc hA1).2.2.2.2.1
        simp only [lits, jj, Int.cast_ofNat_Int, eB]
        rw [j_div (by omega) (by omega), Int.tdiv_eq_ediv_of_nonneg (by omega)]
        simp (disch := omega) only [Bool.false_eq_true, lits, jj, jc, jm, Int.cast_ofNat_Int, j_bi0, j_bi1, not_true, not_false_eq_true, if_true, if_false, xe, xok_some, Sum.elim_inl, Sum.elim_inr, Int.reduceEq, Int.reduceLT, Int.reduceLE, Int.reduceAdd, Int.reduceSub, Int.reduceMul, show ¬ p < 0 by omega, show p ≤ A iM 11 / 16 by omega]
        rw [show (wr μ1 iM 11 0) = μ2 from hμ2, k2, xbd_e]
        cases s with
        | inl q => rw [xsm_e0, Sum.elim_inl]; split <;> rfl
        | inr q => rw [xsm_e1]; rfl
      have f3 : fX11_check (j32 p) μ = some (Sum.elim (fun q => if (j32 p * j32 4) ≤ q then j32 (-1) else q) (fun q => q) r, μ1) := by
        unfold fX11_check
        simp only [lits, jj, Int.cast_ofNat_Int]
        rw [eX11_within hp (by omega) (by omega), eN, f1]
        unfold fX9_length fX9_empty
        simp only [jj, Int.cast_ofNat_Int] at *
        simp (disch := omega) only [Bool.false_eq_true, lits, jj, jc, jm, Int.cast_ofNat_Int, j_bi0, j_bi1, not_true, not_false_eq_true, if_true, if_false, xe, xok_some, Sum.elim_inl, Sum.elim_inr, Int.reduceEq, Int.reduceLT, Int.reduceLE, Int.reduceAdd, Int.reduceSub, Int.reduceMul, e0, eq_true (show (0 ≤ p ∧ p ≤ 25) by omega), show p * 4 * 4 ≤ A iM 11 by omega, hμ1]
      refine ⟨_, f3, _, f2, ?_, ?_⟩
      · rcases k3 with ⟨c, hc1, hc2, rfl, rfl⟩ | ⟨c, rfl, rfl⟩
        · simp only [jj, Sum.elim_inl]
          rw [Int.mul_comm 4 p]
          split <;> rfl
        · rfl
      · rcases k3 with ⟨c, hc1, hc2, rfl, rfl⟩ | ⟨c, rfl, rfl⟩
        · rw [Sum.elim_inl]
          split
          · exact hS
          · exact hS
        · exact hS
    · intro k x y hk hh
      obtain ⟨c, hc1, hc2, hc3, e1, e2⟩ := hh
      subst e1; subst e2
      have hN : isN A (k : Int) := by constructor <;> omega
      have hL2 : fX12_isLive (j32 (k : Int)) μ2 = some (j32 (bi (isN A k ∧ aLive A k (A iM 0)))) := by
        have h := eX12_isLive hA2 hI2 (i := (k : Int)) (by omega)
        simp only [isN, aLive, up_n (A := A) (o := iM) (z := 11) (v := 0) (y := 37) (by omega), up_n (A := A) (o := iM) (z := 11) (v := 0) (y := 0) (by omega), up_o (A := A) (o := iM) (a := iM_leftOf) (z := 11) (v := 0) (by decide), up_o (A := A) (o := iM) (a := iM_lapseOf) (z := 11) (v := 0) (by decide)] at h
        exact h
      have hL1 := eX4_isLive hC hI (i := (k : Int)) (d := A iM 0) (by omega) (by omega)
      by_cases c2 : isN A k ∧ aLive A k (A iM 0)
      · by_cases c3 : c = 4 * p
        · refine Or.inr ⟨.inr (j32 c), .inr (j32 c, μ2), ?_, ?_, Or.inr ⟨_, rfl, rfl⟩⟩
          · show fX4_firstWrong_b6 _ _ _ _ _ = _
            unfold fX4_firstWrong_b6
            simp (disch := omega) only [Bool.false_eq_true, lits, jj, jc, jm, Int.cast_ofNat_Int, j_bi0, j_bi1, not_true, not_false_eq_true, if_true, if_false, xe, xok_some, Sum.elim_inl, Sum.elim_inr, Int.reduceEq, Int.reduceLT, Int.reduceLE, Int.reduceAdd, Int.reduceSub, Int.reduceMul, eL, show ¬ A iM 37 ≤ k by omega, show ¬ (60 : Int) ≤ k by omega, hL1, eq_true c2, show p * 4 ≤ c by omega]
          · show fX12_check_b27 _ _ _ _ = _
            unfold fX12_check_b27
            simp (disch := omega) only [Bool.false_eq_true, lits, jj, jc, jm, Int.cast_ofNat_Int, j_bi0, j_bi1, not_true, not_false_eq_true, if_true, if_false, xe, xok_some, Sum.elim_inl, Sum.elim_inr, Int.reduceEq, Int.reduceLT, Int.reduceLE, Int.reduceAdd, Int.reduceSub, Int.reduceMul, e37, show ¬ A iM 37 ≤ k by omega, hL2, eq_true c2, show c = 4 * p by omega]
        · have hc4 : c + 4 ≤ 4 * p := by omega
          have w0 := eX9_wordAt hC hI (w := c) (by omega)
          have w1 := eX9_wordAt hC hI (w := c + 1) (by omega)
          have w2 := eX9_wordAt hC hI (w := c + 2) (by omega)
          have w3 := eX9_wordAt hC hI (w := c + 3) (by omega)
          have o1 := hC.owers k hN.1 hN.2
          have o2 := hC.holders k hN.1 hN.2
          have o3 := hC.minutes k hN.1 hN.2
          have hrow := eX12_row hA hI μ2 (eF _ rfl) (eF _ rfl) (eF _ rfl) (eF _ rfl) (c := c) (i := (k : Int)) (by omega) hN
          have hbc : fX4_firstWrong_b6 (j32 c) (j32 (k : Int)) (j32 p) (j32 (A iM 0)) μ = some (if bad A c k = 4 then .inl (j32 (c + 4), j32 ((k + 1 : Nat) : Int)) else .inr (.inr (j32 (c + (bad A c k : Int))))) := by
            unfold fX4_firstWrong_b6
            simp (disch := omega) only [Bool.false_eq_true, lits, jj, jc, jm, Int.cast_ofNat_Int, j_bi0, j_bi1, not_true, not_false_eq_true, if_true, if_false, xe, xok_some, Sum.elim_inl, Sum.elim_inr, Int.reduceEq, Int.reduceLT, Int.reduceLE, Int.reduceAdd, Int.reduceSub, Int.reduceMul, eL, show ¬ A iM 37 ≤ k by omega, show ¬ (60 : Int) ≤ k by omega, hL1, eq_true c2, show ¬ p * 4 ≤ c by omega, w0, w1, w2, w3, o1, o2, o3]
            unfold bad
            by_cases d0 : wV (A iM_tape) c 4 = j32 k
            · by_cases d1 : wV (A iM_tape) (c + 1) 4 = j32 (A iM_owesIt k)
              · by_cases d2 : wV (A iM_tape) (c + 2) 4 = j32 (A iM_hasIt k)
                · by_cases d3 : wV (A iM_tape) (c + 3) 4 = j32 (A iM_leftOf k)
                  · rw [if_pos d0, if_pos d1, if_pos d2, if_pos d3, if_pos d0, if_pos d1, if_pos d2, if_pos d3, if_pos rfl]; rfl
                  · rw [if_pos d0, if_pos d1, if_pos d2, if_neg d3, if_pos d0, if_pos d1, if_pos d2, if_neg d3, if_neg (by omega)]; rfl
                · rw [if_pos d0, if_pos d1, if_neg d2, if_pos d0, if_pos d1, if_neg d2, if_neg (by omega)]; rfl
              · rw [if_pos d0, if_neg d1, if_pos d0, if_neg d1, if_neg (by omega)]; rfl
            · rw [if_neg d0, if_neg d0, if_neg (by omega)]; simp
          have hbr : fX12_check_b27 (j32 c) (j32 (k : Int)) (j32 p) μ2 = some (if bad A c k = 4 then .inl (j32 (c + 4), j32 ((k + 1 : Nat) : Int)) else .inr (.inr (j32 (c + (bad A c k : Int)), μ2))) := by
            unfold fX12_check_b27
            simp (disch := omega) only [Bool.false_eq_true, lits, jj, jc, jm, Int.cast_ofNat_Int, j_bi0, j_bi1, not_true, not_false_eq_true, if_true, if_false, xe, xok_some, Sum.elim_inl, Sum.elim_inr, Int.reduceEq, Int.reduceLT, Int.reduceLE, Int.reduceAdd, Int.reduceSub, Int.reduceMul, e37, show ¬ A iM 37 ≤ k by omega, hL2, eq_true c2, show ¬ c = 4 * p by omega, hrow]
            by_cases d : bad A c k = 4
            · rw [if_pos d, if_pos d, xsm_e0]; rfl
            · rw [if_neg d, if_neg d, xsm_e1]
          by_cases d : bad A c k = 4
          · rw [if_pos d] at hbc hbr
            exact Or.inl ⟨_, _, hbc, hbr, c + 4, by omega, by omega, by omega, rfl, rfl⟩
          · rw [if_neg d] at hbc hbr
            exact Or.inr ⟨_, _, hbc, hbr, Or.inr ⟨_, rfl, rfl⟩⟩
      · refine Or.inl ⟨(j32 c, j32 ((k + 1 : Nat) : Int)), (j32 c, j32 ((k + 1 : Nat) : Int)), ?_, ?_, c, by omega, by omega, by omega, rfl, rfl⟩
        · show fX4_firstWrong_b6 _ _ _ _ _ = _
          unfold fX4_firstWrong_b6
          simp (disch := omega) only [Bool.false_eq_true, lits, jj, jc, jm, Int.cast_ofNat_Int, j_bi0, j_bi1, not_true, not_false_eq_true, if_true, if_false, xe, xok_some, Sum.elim_inl, Sum.elim_inr, Int.reduceEq, Int.reduceLT, Int.reduceLE, Int.reduceAdd, Int.reduceSub, Int.reduceMul, eL, show ¬ A iM 37 ≤ k by omega, show ¬ (60 : Int) ≤ k by omega, hL1, eq_false c2]
          rfl
        · show fX12_check_b27 _ _ _ _ = _
          unfold fX12_check_b27
          simp (disch := omega) only [Bool.false_eq_true, lits, jj, jc, jm, Int.cast_ofNat_Int, j_bi0, j_bi1, not_true, not_false_eq_true, if_true, if_false, xe, xok_some, Sum.elim_inl, Sum.elim_inr, Int.reduceEq, Int.reduceLT, Int.reduceLE, Int.reduceAdd, Int.reduceSub, Int.reduceMul, e37, show ¬ A iM 37 ≤ k by omega, hL2, eq_false c2]
          rfl
    · intro x y hh
      obtain ⟨c, hc1, hc2, hc3, e1, e2⟩ := hh
      subst e1; subst e2
      refine ⟨.inl (j32 c), .inl (j32 c), ?_, ?_, Or.inl ⟨c, hc1, hc2, rfl, rfl⟩⟩
      · show fX4_firstWrong_b6 _ _ _ _ _ = _
        unfold fX4_firstWrong_b6
        simp (disch := omega) only [Bool.false_eq_true, lits, jj, jc, jm, Int.cast_ofNat_Int, j_bi0, j_bi1, not_true, not_false_eq_true, if_true, if_false, xe, xok_some, Sum.elim_inl, Sum.elim_inr, Int.reduceEq, Int.reduceLT, Int.reduceLE, Int.reduceAdd, Int.reduceSub, Int.reduceMul, eL, show A iM 37 ≤ ((A iM 37).toNat : Int) by omega]
      · show fX12_check_b27 _ _ _ _ = _
        unfold fX12_check_b27
        simp (disch := omega) only [Bool.false_eq_true, lits, jj, jc, jm, Int.cast_ofNat_Int, j_bi0, j_bi1, not_true, not_false_eq_true, if_true, if_false, xe, xok_some, Sum.elim_inl, Sum.elim_inr, Int.reduceEq, Int.reduceLT, Int.reduceLE, Int.reduceAdd, Int.reduceSub, Int.reduceMul, e37, show A iM 37 ≤ ((A iM 37).toNat : Int) by omega]
  · refine ⟨(j32 (-2), μ), ?_, (j32 (-2), μ), ?_, rfl, xStp.same hA hC hI⟩
    · unfold fX11_check fX9_length
      simp only [lits, jj, Int.cast_ofNat_Int]
      rw [eX11_within hp (by omega) (by omega)]
      by_cases c2 : 0 ≤ p ∧ p ≤ 25
      · simp (disch := omega) only [Bool.false_eq_true, lits, jj, jc, jm, Int.cast_ofNat_Int, j_bi0, j_bi1, not_true, not_false_eq_true, if_true, if_false, xe, xok_some, Sum.elim_inl, Sum.elim_inr, Int.reduceEq, Int.reduceLT, Int.reduceLE, Int.reduceAdd, Int.reduceSub, Int.reduceMul, e0, eq_true c2, show ¬ p * 4 * 4 ≤ A iM 11 by omega]
      · simp (disch := omega) only [Bool.false_eq_true, lits, jj, jc, jm, Int.cast_ofNat_Int, j_bi0, j_bi1, not_true, not_false_eq_true, if_true, if_false, xe, xok_some, Sum.elim_inl, Sum.elim_inr, Int.reduceEq, Int.reduceLT, Int.reduceLE, Int.reduceAdd, Int.reduceSub, Int.reduceMul, eq_false c2]
    · unfold fX12_check
      simp only [lits, jj, Int.cast_ofNat_Int, eA]
      rw [j_div (by omega) (by omega), Int.tdiv_eq_ediv_of_nonneg (by omega)]
      by_cases c2 : p < 0
      · simp (disch := omega) only [Bool.false_eq_true, lits, jj, jc, jm, Int.cast_ofNat_Int, j_bi0, j_bi1, not_true, not_false_eq_true, if_true, if_false, xe, xok_some, Sum.elim_inl, Sum.elim_inr, Int.reduceEq, Int.reduceLT, Int.reduceLE, Int.reduceAdd, Int.reduceSub, Int.reduceMul, c2]
      · simp (disch := omega) only [Bool.false_eq_true, lits, jj, jc, jm, Int.cast_ofNat_Int, j_bi0, j_bi1, not_true, not_false_eq_true, if_true, if_false, xe, xok_some, Sum.elim_inl, Sum.elim_inr, Int.reduceEq, Int.reduceLT, Int.reduceLE, Int.reduceAdd, Int.reduceSub, Int.reduceMul, c2, show ¬ p ≤ A iM 11 / 16 by omega]
