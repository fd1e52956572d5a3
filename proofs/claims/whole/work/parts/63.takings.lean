/-! takings -/
theorem wo_tab : ∀ S, S < 256 → ∀ k, k < 8 → (Int32.ofNat S &&& (((1 : Int32) <<< (Int32.ofNat k &&& 31)) ^^^ (-1))) = Int32.ofNat (if S / 2 ^ k % 2 = 1 then S - 2 ^ k else S) := by decide +kernel
theorem orp_tab : ∀ S, S < 256 → ∀ k, k < 8 → (Int32.ofNat S ||| ((1 : Int32) <<< (Int32.ofNat k &&& 31))) = Int32.ofNat (if S < 2 ^ k then S + 2 ^ k else (S ||| 2 ^ k)) := by decide +kernel
def wo (S k : Nat) : Nat := if bN S k = 1 then S - 2 ^ k else S
theorem j_n (S : Nat) : j32 S = Int32.ofNat S := Int32.ofInt_eq_ofNat
theorem j_wo {S k : Nat} (hS : S < 256) (hk : k < 8) : (j32 S &&& ((j32 1 <<< (j32 k &&& j32 31)) ^^^ j32 (-1))) = j32 (wo S k) := by
  rw [j_n, j_n, j_n]
  exact wo_tab S hS k hk
theorem j_or {S k : Nat} (hS : S < 256) (hk : k < 8) (h : S < 2 ^ k) : (j32 S ||| (j32 1 <<< (j32 k &&& j32 31))) = j32 ((S + 2 ^ k : Nat) : Int) := by
  rw [j_n, j_n, j_n]
  have t := orp_tab S hS k hk
  rw [if_pos h] at t
  exact t
theorem j_bN {S k : Nat} (hS : S < 256) (hk : k < 8) : (j32 S >>> (j32 k &&& j32 31)) &&& j32 1 = j32 (bN S k : Nat) := by
  rw [j_n, j_n, j_n]
  exact bit_tab S hS k hk
abbrev bOk (b : Nat → Int) : Prop := ∀ k, k < 8 → -86400 ≤ b k ∧ b k ≤ 86400
theorem gsum_b {b : Nat → Int} (hb : bOk b) {S : Nat} : ∀ k : Nat, k ≤ 8 → -(86400 * (k : Int)) ≤ gsum b S k ∧ gsum b S k ≤ 86400 * k
  | 0, _ => ⟨by show _ ≤ (0 : Int); omega, by show (0 : Int) ≤ _; omega⟩
  | k + 1, hk => by
    have ih := gsum_b hb (S := S) k (by omega)
    have e : gsum b S (k + 1) = if bN S k = 1 then gsum b S k + b k else gsum b S k := rfl
    have h := hb k (by omega)
    rw [e]; split <;> omega
theorem isT_next {b T T' : Nat → Int} {K : Nat} (hK : 1 ≤ K ∧ K < 256) (h : isT b T K) (h1 : ∀ Z, Z < K → T' Z = T Z) (h2 : T' K = bst T K 8 + (if gsum b K 8 = 0 then 1 else 0)) : isT b T' (K + 1) := by
  refine ⟨(h1 0 (by omega)).trans h.1, fun S h3 h4 => ?_⟩
  have e : bst T' S 8 = bst T S 8 := bst_c (by omega) (fun Z hZ => h1 Z (by omega)) 8 (by omega)
  by_cases c : S = K
  · subst c; rw [h2, e]
  · rw [h1 S (by omega), e]; exact h.2 S h3 (by omega)
theorem few18 {b : Nat → Int} {ν : xm} (hb : ∀ k : Nat, k < 8 → gi ν iC_striking_balance k = b k) (hbb : bOk b) {S : Nat} (hS : 1 ≤ S ∧ S < 256) (hT : ∀ Z : Nat, Z < S → 0 ≤ gi ν iC_striking_clear Z ∧ gi ν iC_striking_clear Z ≤ 256) : xloop xfu (fun v => fX7_fewestPayments_b18 v.1 v.2.1 v.2.2 (j32 S) ν) (j32 0, j32 0, j32 0) = some (j32 (gsum b S 8), j32 (bst (fun Z => gi ν iC_striking_clear (Z : Nat)) S 8)) := by
  refine xloop_for (fun k : Nat => (j32 (gsum b S k), j32 (bst (fun Z => gi ν iC_striking_clear (Z : Nat)) S k), j32 k)) 8 (by omega) rfl ?_ ?_
  · intro k hk
    have hg := gsum_b hbb (S := S) k (by omega)
    have hm := bst_b (T := fun Z => gi ν iC_striking_clear (Z : Nat)) (S := S) (B := 256) (by omega) hS.2 hT k (by omega)
    have e1 : gsum b S (k + 1) = if bN S k = 1 then gsum b S k + b k else gsum b S k := rfl
    have e2 : bst (fun Z => gi ν iC_striking_clear (Z : Nat)) S (k + 1) = if bN S k = 1 then max (bst (fun Z => gi ν iC_striking_clear (Z : Nat)) S k) (gi ν iC_striking_clear ((S - 2 ^ k : Nat) : Int)) else bst (fun Z => gi ν iC_striking_clear (Z : Nat)) S k := rfl
    have hbk := hb k hk
    have hbb2 := hbb k hk
    rw [e1, e2]
    generalize hG : gsum b S k = G at *
    generalize hM : bst (fun Z => gi ν iC_striking_clear (Z : Nat)) S k = M at *
    show fX7_fewestPayments_b18 (j32 G) (j32 M) (j32 k) (j32 S) ν = _
    unfold fX7_fewestPayments_b18
    by_cases c : bN S k = 1
    · have t := bt2 S hS.2 k hk c
      have t2 := two_pos k
      have hZ := hT (S - 2 ^ k) (by omega)
      have ew : wo S k = S - 2 ^ k := if_pos c
      generalize hZZ : S - 2 ^ k = Z at *
      simp (disch := omega) only [Bool.false_eq_true, lits, jj, jc, jm, Int.cast_ofNat_Int, j_bi0, j_bi1, not_true, not_false_eq_true, if_true, if_false, xe, xok_some, Sum.elim_inl, Sum.elim_inr, Int.reduceEq, Int.reduceLT, Int.reduceLE, Int.reduceAdd, Int.reduceSub, Int.reduceMul, show ¬ (8 : Int) ≤ k by omega, j_wo hS.2 hk, ew, show ¬ (Z : Int) = S by omega, show ¬ (Z : Int) < 0 by omega, show (Z : Int) < 256 by omega, hbk, j_max, c]
      rfl
    · have ew : wo S k = S := if_neg c
      simp (disch := omega) only [Bool.false_eq_true, lits, jj, jc, jm, Int.cast_ofNat_Int, j_bi0, j_bi1, not_true, not_false_eq_true, if_true, if_false, xe, xok_some, Sum.elim_inl, Sum.elim_inr, Int.reduceEq, Int.reduceLT, Int.reduceLE, Int.reduceAdd, Int.reduceSub, Int.reduceMul, show ¬ (8 : Int) ≤ k by omega, j_wo hS.2 hk, ew, c]
      rfl
  · show fX7_fewestPayments_b18 _ _ (j32 (8 : Nat)) (j32 S) ν = _
    unfold fX7_fewestPayments_b18
    simp (disch := omega) only [Bool.false_eq_true, lits, jj, jc, jm, Int.cast_ofNat_Int, j_bi0, j_bi1, not_true, not_false_eq_true, if_true, if_false, xe, xok_some, Sum.elim_inl, Sum.elim_inr, Int.reduceEq, Int.reduceLT, Int.reduceLE, Int.reduceAdd, Int.reduceSub, Int.reduceMul, show ((8 : Nat) : Int) = 8 from rfl]
def frK (μ ν : xm) : Prop := (∀ o, o ≠ iC_striking_clear → gi ν o = gi μ o) ∧ gi ν iC_striking_clear 0 = gi μ iC_striking_clear 0
theorem few_ok {b : Nat → Int} {μ : xm} (hb : ∀ k : Nat, k < 8 → gi μ iC_striking_balance k = b k) (hbb : bOk b) (h0 : gi μ iC_striking_clear 0 = 0) : ∃ ν, fX7_fewestPayments μ = some (j32 (8 - gi ν iC_striking_clear 255), ν) ∧ frK μ ν ∧ isT b (fun Z => gi ν iC_striking_clear (Z : Nat)) 256 := by
  have key : xok (xloop xfu (fun v => fX7_fewestPayments_b2 v.1 v.2) (j32 1, μ)) (fun ν => frK μ ν ∧ isT b (fun Z => gi ν iC_striking_clear (Z : Nat)) 256) := by
    refine xok_for (fun k s => s.1 = j32 ((k : Int) + 1) ∧ frK μ s.2 ∧ isT b (fun Z => gi s.2 iC_striking_clear (Z : Nat)) (k + 1)) 255 (by omega) ⟨rfl, ⟨fun _ _ => rfl, rfl⟩, h0, fun S h1 h2 => by omega⟩ ?_ ?_
    · intro k s hk hs
      obtain ⟨s1, ν⟩ := s
      obtain ⟨g1, g2, g3⟩ := hs
      simp only at g1 g2 g3
      subst g1
      have hT : ∀ Z : Nat, Z < k + 1 → 0 ≤ gi ν iC_striking_clear Z ∧ gi ν iC_striking_clear Z ≤ 256 := fun Z hZ => by
        have := isT_b (by omega) g3 Z hZ
        omega
      have f := few18 (fun i hi => by rw [g2.1 _ (by decide)]; exact hb i hi) hbb (S := k + 1) (by omega) hT
      have hM := bst_b (T := fun Z => gi ν iC_striking_clear (Z : Nat)) (S := k + 1) (B := 256) (by omega) (by omega) hT 8 (by omega)
      have hG := gsum_b hbb (S := k + 1) 8 (by omega)
      rw [show j32 ((k : Int) + 1) = j32 ((k + 1 : Nat) : Int) from rfl]
      generalize hMe : bst (fun Z => gi ν iC_striking_clear (Z : Nat)) (k + 1) 8 = M at *
      generalize hGe : gsum b (k + 1) 8 = G at *
      have st : ∀ v : Int, v = M + (if G = 0 then 1 else 0) → fX7_fewestPayments_b2 (j32 ((k + 1 : Nat) : Int)) ν = some (.inl (j32 (((k + 1 : Nat) : Int) + 1), wr ν iC_striking_clear ((k + 1 : Nat) : Int) v)) := by
        intro v hv
        unfold fX7_fewestPayments_b2
        simp only [lits] at f ⊢
        rw [if_neg (by rw [j_le (by omega) (by omega)]; omega), f, xbd_e]
        by_cases c : G = 0
        · rw [if_pos (by rw [c]), j_add, j_sI (by omega), xbd_e, xlt_e, j_add, hv, if_pos c]
        · rw [if_neg (by rw [j_eq (by omega) (by omega)]; exact c), j_add, j_sI (by omega), xbd_e, xlt_e, j_add, hv, if_neg c]
      refine ⟨_, st _ rfl, rfl, ⟨fun o ho => ?_, ?_⟩, ?_⟩
      · rw [gi_wr_f ho]; exact g2.1 o ho
      · rw [gi_wr_z (by omega)]; exact g2.2
      · refine isT_next (by omega) g3 (fun Z hZ => ?_) ?_
        · show gi (wr ν _ _ _) _ _ = _
          rw [gi_wr_z (by omega)]
        · show gi (wr ν _ _ _) _ _ = _
          rw [gi_wr (by split <;> omega), hMe, hGe]
    · intro s hs
      obtain ⟨s1, ν⟩ := s
      obtain ⟨g1, g2, g3⟩ := hs
      simp only at g1 g2 g3
      subst g1
      show xok (fX7_fewestPayments_b2 (j32 (((255 : Nat) : Int) + 1)) ν) _
      rw [show ((255 : Nat) : Int) + 1 = 256 from rfl]
      unfold fX7_fewestPayments_b2
      simp (disch := omega) only [Bool.false_eq_true, lits, jj, jc, jm, Int.cast_ofNat_Int, j_bi0, j_bi1, not_true, not_false_eq_true, if_true, if_false, xe, xok_some, Sum.elim_inl, Sum.elim_inr, Int.reduceEq, Int.reduceLT, Int.reduceLE, Int.reduceAdd, Int.reduceSub, Int.reduceMul]
      exact ⟨g2, g3⟩
  obtain ⟨ν, r1, r2, r3⟩ := key
  refine ⟨ν, ?_, r2, r3⟩
  unfold fX7_fewestPayments
  simp only [lits] at r1 ⊢
  rw [r1, xbd_e, j_gI (by omega), xbd_e, j_sub]
/-- the reference's -/
theorem tak63 {b : Nat → Int} {ν : xm} (hb : ∀ k : Nat, k < 8 → gi ν iM_balance k = b k) (hbb : bOk b) {S : Nat} (hS : 1 ≤ S ∧ S < 256) (hT : ∀ Z : Nat, Z < S → 0 ≤ gi ν iM_groups Z ∧ gi ν iM_groups Z ≤ 256) : xloop xfu (fun v => fX12_takings_b63 v.1 v.2.1 v.2.2 (j32 S) ν) (j32 0, j32 0, j32 0) = some (j32 (gsum b S 8), j32 (bst (fun Z => gi ν iM_groups (Z : Nat)) S 8)) := by
  refine xloop_for (fun k : Nat => (j32 (gsum b S k), j32 (bst (fun Z => gi ν iM_groups (Z : Nat)) S k), j32 k)) 8 (by omega) rfl ?_ ?_
  · intro k hk
    have hg := gsum_b hbb (S := S) k (by omega)
    have hm := bst_b (T := fun Z => gi ν iM_groups (Z : Nat)) (S := S) (B := 256) (by omega) hS.2 hT k (by omega)
    have e1 : gsum b S (k + 1) = if bN S k = 1 then gsum b S k + b k else gsum b S k := rfl
    have e2 : bst (fun Z => gi ν iM_groups (Z : Nat)) S (k + 1) = if bN S k = 1 then max (bst (fun Z => gi ν iM_groups (Z : Nat)) S k) (gi ν iM_groups ((S - 2 ^ k : Nat) : Int)) else bst (fun Z => gi ν iM_groups (Z : Nat)) S k := rfl
    have hbk := hb k hk
    have hbb2 := hbb k hk
    rw [e1, e2]
    generalize hG : gsum b S k = G at *
    generalize hM : bst (fun Z => gi ν iM_groups (Z : Nat)) S k = M at *
    show fX12_takings_b63 (j32 G) (j32 M) (j32 k) (j32 S) ν = _
    unfold fX12_takings_b63
    by_cases c : bN S k = 1
    · have t := bt2 S hS.2 k hk c
      have t2 := two_pos k
      have hZ := hT (S - 2 ^ k) (by omega)
      have ew : wo S k = S - 2 ^ k := if_pos c
      generalize hZZ : S - 2 ^ k = Z at *
      by_cases d : gi ν iM_groups Z ≤ M
      · simp (disch := omega) only [Bool.false_eq_true, lits, jj, jc, jm, Int.cast_ofNat_Int, j_bi0, j_bi1, not_true, not_false_eq_true, if_true, if_false, xe, xok_some, Sum.elim_inl, Sum.elim_inr, Int.reduceEq, Int.reduceLT, Int.reduceLE, Int.reduceAdd, Int.reduceSub, Int.reduceMul, show ¬ (8 : Int) ≤ k by omega, j_bN hS.2 hk, c, show ((1 : Nat) : Int) = 1 from rfl, hbk, j_wo hS.2 hk, ew, d, show max M (gi ν iM_groups Z) = M by omega]
        rfl
      · simp (disch := omega) only [Bool.false_eq_true, lits, jj, jc, jm, Int.cast_ofNat_Int, j_bi0, j_bi1, not_true, not_false_eq_true, if_true, if_false, xe, xok_some, Sum.elim_inl, Sum.elim_inr, Int.reduceEq, Int.reduceLT, Int.reduceLE, Int.reduceAdd, Int.reduceSub, Int.reduceMul, show ¬ (8 : Int) ≤ k by omega, j_bN hS.2 hk, c, show ((1 : Nat) : Int) = 1 from rfl, hbk, j_wo hS.2 hk, ew, d, show max M (gi ν iM_groups Z) = gi ν iM_groups Z by omega]
        rfl
    · have c0 : bN S k = 0 := (bN_01 S k).resolve_right c
      simp (disch := omega) only [Bool.false_eq_true, lits, jj, jc, jm, Int.cast_ofNat_Int, j_bi0, j_bi1, not_true, not_false_eq_true, if_true, if_false, xe, xok_some, Sum.elim_inl, Sum.elim_inr, Int.reduceEq, Int.reduceLT, Int.reduceLE, Int.reduceAdd, Int.reduceSub, Int.reduceMul, show ¬ (8 : Int) ≤ k by omega, j_bN hS.2 hk, c0, show ((0 : Nat) : Int) = 0 from rfl]
      rfl
  · show fX12_takings_b63 _ _ (j32 (8 : Nat)) (j32 S) ν = _
    unfold fX12_takings_b63
    simp (disch := omega) only [Bool.false_eq_true, lits, jj, jc, jm, Int.cast_ofNat_Int, j_bi0, j_bi1, not_true, not_false_eq_true, if_true, if_false, xe, xok_some, Sum.elim_inl, Sum.elim_inr, Int.reduceEq, Int.reduceLT, Int.reduceLE, Int.reduceAdd, Int.reduceSub, Int.reduceMul, show ((8 : Nat) : Int) = 8 from rfl]
def frG (μ ν : xm) : Prop := ∀ o, o ≠ iM_groups → gi ν o = gi μ o
theorem tak48 {b : Nat → Int} {μ : xm} (hb : ∀ k : Nat, k < 8 → gi μ iM_balance k = b k) (hbb : bOk b) (h0 : gi μ iM_groups 0 = 0) : xok (xloop xfu (fun v => fX12_takings_b48 v.1 v.2) (j32 1, μ)) (fun ν => frG μ ν ∧ isT b (fun Z => gi ν iM_groups (Z : Nat)) 256) := by
  refine xok_for (fun k s => s.1 = j32 ((k : Int) + 1) ∧ frG μ s.2 ∧ isT b (fun Z => gi s.2 iM_groups (Z : Nat)) (k + 1)) 255 (by omega) ⟨rfl, fun _ _ => rfl, h0, fun S h1 h2 => by omega⟩ ?_ ?_
  · intro k s hk hs
    obtain ⟨s1, ν⟩ := s
    obtain ⟨g1, g2, g3⟩ := hs
    simp only at g1 g2 g3
    subst g1
    have hT : ∀ Z : Nat, Z < k + 1 → 0 ≤ gi ν iM_groups Z ∧ gi ν iM_groups Z ≤ 256 := fun Z hZ => by
      have := isT_b (by omega) g3 Z hZ
      omega
    have f := tak63 (fun i hi => by rw [g2 _ (by decide)]; exact hb i hi) hbb (S := k + 1) (by omega) hT
    have hM := bst_b (T := fun Z => gi ν iM_groups (Z : Nat)) (S := k + 1) (B := 256) (by omega) (by omega) hT 8 (by omega)
    have hG := gsum_b hbb (S := k + 1) 8 (by omega)
    rw [show j32 ((k : Int) + 1) = j32 ((k + 1 : Nat) : Int) from rfl]
    generalize hMe : bst (fun Z => gi ν iM_groups (Z : Nat)) (k + 1) 8 = M at *
    generalize hGe : gsum b (k + 1) 8 = G at *
    have st : ∀ v : Int, v = M + (if G = 0 then 1 else 0) → fX12_takings_b48 (j32 ((k + 1 : Nat) : Int)) ν = some (.inl (j32 (((k + 1 : Nat) : Int) + 1), wr ν iM_groups ((k + 1 : Nat) : Int) v)) := by
      intro v hv
      unfold fX12_takings_b48
      simp only [lits] at f ⊢
      rw [if_neg (by rw [j_le (by omega) (by omega)]; omega), f, xbd_e]
      by_cases c : G = 0
      · rw [if_pos (by rw [c]), j_add, j_sI (by omega), xbd_e, xlt_e, j_add, hv, if_pos c]
      · rw [if_neg (by rw [j_eq (by omega) (by omega)]; exact c), j_sI (by omega), xbd_e, xlt_e, j_add, hv, if_neg c, Int.add_zero]
    refine ⟨_, st _ rfl, rfl, fun o ho => ?_, ?_⟩
    · rw [gi_wr_f ho]; exact g2 o ho
    · refine isT_next (by omega) g3 (fun Z hZ => ?_) ?_
      · show gi (wr ν _ _ _) _ _ = _
        rw [gi_wr_z (by omega)]
      · show gi (wr ν _ _ _) _ _ = _
        rw [gi_wr (by split <;> omega), hMe, hGe]
  · intro s hs
    obtain ⟨s1, ν⟩ := s
    obtain ⟨g1, g2, g3⟩ := hs
    simp only at g1 g2 g3
    subst g1
    show xok (fX12_takings_b48 (j32 (((255 : Nat) : Int) + 1)) ν) _
    rw [show ((255 : Nat) : Int) + 1 = 256 from rfl]
    unfold fX12_takings_b48
    simp (disch := omega) only [Bool.false_eq_true, lits, jj, jc, jm, Int.cast_ofNat_Int, j_bi0, j_bi1, not_true, not_false_eq_true, if_true, if_false, xe, xok_some, Sum.elim_inl, Sum.elim_inr, Int.reduceEq, Int.reduceLT, Int.reduceLE, Int.reduceAdd, Int.reduceSub, Int.reduceMul]
    exact ⟨g2, g3⟩
/-- those who owe or are owed -/
def smN (b : Nat → Int) : Nat → Nat
  | 0 => 0
  | k + 1 => if b k = 0 then smN b k else smN b k + 2 ^ k
theorem smN_lt {b : Nat → Int} : ∀ k, smN b k < 2 ^ k
  | 0 => Nat.one_pos
  | k + 1 => by
    have ih := smN_lt (b := b) k
    have e : smN b (k + 1) = if b k = 0 then smN b k else smN b k + 2 ^ k := rfl
    rw [e, Nat.pow_succ]; split <;> omega
theorem pow_le8 {k : Nat} (h : k ≤ 8) : 2 ^ k ≤ 256 := Nat.le_trans (Nat.pow_le_pow_right (by omega) h) (Nat.le_refl _)
theorem smN_bit {b : Nat → Int} : ∀ k, k ≤ 8 → ∀ j, j < k → bN (smN b k) j = if b j = 0 then 0 else 1
  | 0, _, j, h => by omega
  | k + 1, hk, j, hj => by
    have ih := smN_bit (b := b) k (by omega)
    have hl := smN_lt (b := b) k
    have h8 := pow_le8 (k := k) (by omega)
    have e : smN b (k + 1) = if b k = 0 then smN b k else smN b k + 2 ^ k := rfl
    have z : smN b k / 2 ^ k % 2 = 0 := by rw [Nat.div_eq_of_lt hl]
    have t := bt1 (smN b k) (by omega) k (by omega) z
    rw [e]
    by_cases c : b k = 0
    · rw [if_pos c]
      by_cases d : j = k
      · subst d; rw [if_pos c]; exact z
      · exact ih j (by omega)
    · rw [if_neg c]
      by_cases d : j = k
      · subst d; rw [if_neg c]; exact t.2.1
      · rw [show bN (smN b k + 2 ^ k) j = bN (smN b k) j from t.2.2 j (by omega) d]; exact ih j (by omega)
theorem tak8 {b : Nat → Int} {ν : xm} (hb : ∀ k : Nat, k < 8 → gi ν iM_balance k = b k) (hbb : bOk b) : xloop xfu (fun v => fX12_takings_b8 v.1 v.2 ν) (j32 0, j32 0) = some (j32 (smN b 8 : Nat)) := by
  refine xloop_for (fun k : Nat => (j32 (smN b k : Nat), j32 k)) 8 (by omega) rfl ?_ ?_
  · intro k hk
    have hl := smN_lt (b := b) k
    have h8 := pow_le8 (k := k) (by omega)
    have hbk := hb k hk
    have hbb2 := hbb k hk
    have e : smN b (k + 1) = if b k = 0 then smN b k else smN b k + 2 ^ k := rfl
    show fX12_takings_b8 (j32 (smN b k : Nat)) (j32 k) ν = some (.inl (j32 (smN b (k + 1) : Nat), _))
    unfold fX12_takings_b8
    rw [e]
    by_cases c : b k = 0
    · rw [if_pos c]
      simp (disch := omega) only [Bool.false_eq_true, lits, jj, jc, jm, Int.cast_ofNat_Int, j_bi0, j_bi1, not_true, not_false_eq_true, if_true, if_false, xe, xok_some, Sum.elim_inl, Sum.elim_inr, Int.reduceEq, Int.reduceLT, Int.reduceLE, Int.reduceAdd, Int.reduceSub, Int.reduceMul, show ¬ (8 : Int) ≤ k by omega, hbk, c]
      rfl
    · rw [if_neg c]
      simp (disch := omega) only [Bool.false_eq_true, lits, jj, jc, jm, Int.cast_ofNat_Int, j_bi0, j_bi1, not_true, not_false_eq_true, if_true, if_false, xe, xok_some, Sum.elim_inl, Sum.elim_inr, Int.reduceEq, Int.reduceLT, Int.reduceLE, Int.reduceAdd, Int.reduceSub, Int.reduceMul, show ¬ (8 : Int) ≤ k by omega, hbk, c]
      rw [j_or (by omega) hk hl]
      rfl
  · show fX12_takings_b8 _ (j32 (8 : Nat)) ν = _
    unfold fX12_takings_b8
    simp (disch := omega) only [Bool.false_eq_true, lits, jj, jc, jm, Int.cast_ofNat_Int, j_bi0, j_bi1, not_true, not_false_eq_true, if_true, if_false, xe, xok_some, Sum.elim_inl, Sum.elim_inr, Int.reduceEq, Int.reduceLT, Int.reduceLE, Int.reduceAdd, Int.reduceSub, Int.reduceMul, show ((8 : Nat) : Int) = 8 from rfl]
theorem tak_ok {A : xAs} {μ : xm} (hA : RH A μ) (hI : Inv A) {T : Nat → Int} (hT : isT (fun k => dB A (k : Nat)) T 256) : ∃ ν, fX12_takings μ = some (j32 (8 - T 255), ν) ∧ RH A ν ∧ LK μ ν ∧ ∀ o, (o < 61 ∨ 107 ≤ o) → gi ν o = gi μ o := by
  obtain ⟨ν1, r1, r2, r3, r4, r5⟩ := bal_ok hA hI
  have hbb : bOk (fun k => dB A (k : Nat)) := fun k _ => dB_b hI
  have hb1 : ∀ k : Nat, k < 8 → gi ν1 iM_balance k = dB A (k : Nat) := fun k hk => r4 k (by omega) (by omega)
  have f8 := tak8 hb1 hbb
  have hS := smN_lt (b := fun k => dB A (k : Nat)) 8
  have hbit := smN_bit (b := fun k => dB A (k : Nat)) 8 (by omega)
  obtain ⟨S, hSe⟩ : ∃ S, smN (fun k => dB A (k : Nat)) 8 = S := ⟨_, rfl⟩
  rw [hSe] at f8 hS hbit
  obtain ⟨ν2, t1, t2, t3⟩ := tak48 (μ := wr ν1 iM_groups 0 0) (fun k hk => by rw [gi_wr_o (by decide)]; exact hb1 k hk) hbb (gi_wr (by omega))
  have hg := groups_ok hT t3 (S := S) hS (fun k hk h0 => by
    have := hbit k hk
    rw [h0] at this
    by_cases c : dB A (k : Nat) = 0
    · exact c
    · rw [if_neg c] at this; omega)
  have hb2 := isT_b (Nat.le_refl _) t3 S hS
  have hp := pcN_b S
  refine ⟨ν2, ?_, ?_, ?_, fun o ho => ?_⟩
  · have e1 := eX12_bits (P := (S : Int)) (by omega)
    have e2 : pc (S : Int) = pcN S := by unfold pc; rw [Int.toNat_natCast]
    unfold fX12_takings
    simp only [lits] at f8 t1 ⊢
    rw [r1, xbd_e, f8, xbd_e, j_sI (by omega), xbd_e, t1, xbd_e, e1, xbd_e, j_gI (by omega), xbd_e, j_sub, e2, ← hg]
  · have hA1 := r2.RH hA
    refine RH.mk (fun o ho => ?_) ?_
    · rw [t2 o (by rintro rfl; exact absurd ho (by decide)), gi_wr_f (by rintro rfl; exact absurd ho (by decide))]; exact RH.at hA1 ho
    · rw [t2 iM (by decide), gi_wr_f (by decide)]; exact RH.sc hA1
  · exact LK.of (fun o ho => by rw [t2 o (by show o ≠ 98; omega), gi_wr_f (by show o ≠ 98; omega), r2 o (by omega)])
  · rw [t2 o (by show o ≠ 98; omega), gi_wr_f (by show o ≠ 98; omega), r2 o (by omega)]
theorem s_takings {A : xAs} {μ : xm} {R : xr} {n : Nat} (hA : RH A μ) (hC : CH A μ R n) (hI : Inv A) : ∃ q, fX11_takings μ = some q ∧ ∃ q2, fX12_takings q.2 = some q2 ∧ q2.1 = q.1 ∧ xStp μ R n q2.2 := by
  obtain ⟨ν1, r1, r2, r3, r4, r5⟩ := ld_ok hC hI
  have hbb : bOk (fun k => dB A (k : Nat)) := fun k _ => dB_b hI
  have hC1 := r2.CH hC
  obtain ⟨ν, t1, t2, t3⟩ := few_ok (μ := ν1) (fun k hk => r4 k (by omega) (by omega)) hbb hC1.clear
  have hA1 : RH A ν := RH.keep hA (fun o h1 h2 => by rw [t2.1 o (by show o ≠ 41; omega), r2 o (by omega)])
  have k1 : LK μ ν := LK.of (fun o ho => by rw [t2.1 o (by show o ≠ 41; omega), r2 o (by omega)])
  have hC2 : CH A ν R n := hC1.scr (fun o ho => t2.1 o (by rintro rfl; exact absurd ho (by decide))) (by rw [t2.1 _ (by decide)]) t2.2
  obtain ⟨ρ, u1, u2, u3, u4⟩ := tak_ok hA1 hI t3
  refine ⟨(j32 (8 - gi ν iC_striking_clear 255), ν), ?_, _, u1, rfl, k1.tr u3, A, u2, hC2.ref u4, hI⟩
  have e0 := hC.now
  unfold fX11_takings
  rw [j_rd]
  show xbd (fX7_load (j32 (gi μ iC 8)) μ) _ = _
  rw [e0, r1, xbd_e, t1, xbd_e]
