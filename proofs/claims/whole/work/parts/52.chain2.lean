/-! chain: both walks -/
def folM (ν : xm) (k w c : Int) : xm := wr (wr (wr ν iC_meetings_payers k w) iC_meetings_paid k c) iC_meetings 6 (k + 1)
theorem folM_o {ν : xm} {k w c : Int} {o : Nat} (h1 : o ≠ iC_meetings_payers) (h2 : o ≠ iC_meetings_paid) (h3 : o ≠ iC_meetings) : gi (folM ν k w c) o = gi ν o := by
  unfold folM; rw [gi_wr_f h3, gi_wr_f h2, gi_wr_f h1]
theorem folM_CH {A : xAs} {ν : xm} {R : xr} {n : Nat} (hC : CH A ν R n) {k w c : Int} (hk : 0 ≤ k) : CH A (folM ν k w c) R n := by
  refine hC.scr (fun o ho => folM_o ?_ ?_ ?_) ?_ ?_
  · rintro rfl; exact absurd ho (by decide)
  · rintro rfl; exact absurd ho (by decide)
  · rintro rfl; exact absurd ho (by decide)
  · unfold folM; rw [gi_wr_z (by omega), gi_wr_o (by decide), gi_wr_o (by decide)]
  · unfold folM; rw [gi_wr_o (by decide), gi_wr_o (by decide), gi_wr_o (by decide)]
theorem folS {A : xAs} {ν : xm} {R : xr} {n : Nat} (hC : CH A ν R n) (hI : Inv A) {h : Int} (hh : 0 ≤ h ∧ h ≤ 100) {s : Int × Int × Int} (hs : chOk A s) {k : Nat} (hk : k ≤ 23) : fX3_follow_b17 (j32 s.1) (j32 s.2.1) (j32 s.2.2) (j32 k) ν (j32 h) R = some (if chP A h s = 0 then .inr (.inr (folM ν k s.2.1 (s.2.2 - chP A h s))) else .inl (j32 (chQ A s), j32 (sKeep (A iM_peopleOf (chQ A s)) (cA A (chQ A s)) 8), j32 (chP A h s), j32 ((k + 1 : Nat) : Int), folM ν k s.2.1 (s.2.2 - chP A h s))) := by
  have hmt := hI.mt
  have hp := chP_b hh hs
  have hv := hs.2.2
  have hme := mul_ed hs.2.2 hh
  have e1 : fX3_keptBy (j32 s.1) (j32 s.2.1) ν R = some (j32 (chQ A s)) := eX3_keptBy hC hI hs.1 hs.2.1
  have hq := (sBy_b hI (m := s.1) (x := s.2.1)).1
  have hq2 : -1 ≤ chQ A s ∧ chQ A s < A iM 1 := hq
  have g : ∀ p : Int, chP A h s = p → fX3_follow_j65 (j32 p) R (j32 s.2.1) (j32 s.2.2) (j32 k) ν (j32 (chQ A s)) = some (if p = 0 then .inr (.inr (folM ν k s.2.1 (s.2.2 - p))) else .inl (j32 (chQ A s), j32 (sKeep (A iM_peopleOf (chQ A s)) (cA A (chQ A s)) 8), j32 p, j32 ((k + 1 : Nat) : Int), folM ν k s.2.1 (s.2.2 - p))) := by
    intro p hpp
    rw [hpp] at hp
    unfold fX3_follow_j65
    by_cases c : p = 0
    · simp (disch := omega) only [Bool.false_eq_true, lits, jj, jc, jm, Int.cast_ofNat_Int, j_bi0, j_bi1, not_true, not_false_eq_true, if_true, if_false, xe, xok_some, Sum.elim_inl, Sum.elim_inr, Int.reduceEq, Int.reduceLT, Int.reduceLE, Int.reduceAdd, Int.reduceSub, Int.reduceMul, c]
      rfl
    · have hne : chQ A s ≠ -1 := fun e => by unfold chP at hpp; rw [if_pos e] at hpp; omega
      have h1 := chQ_ok hI hne
      have h2 := eX3_keeperAt (folM_CH hC (k := (k : Int)) (w := s.2.1) (c := s.2.2 - p) (by omega)) hI h1.1 h1.2.2.1
      unfold folM at h2 ⊢
      simp (disch := omega) only [Bool.false_eq_true, lits, jj, jc, jm, Int.cast_ofNat_Int, j_bi0, j_bi1, not_true, not_false_eq_true, if_true, if_false, xe, xok_some, Sum.elim_inl, Sum.elim_inr, Int.reduceEq, Int.reduceLT, Int.reduceLE, Int.reduceAdd, Int.reduceSub, Int.reduceMul, c, h2]
      rfl
  unfold fX3_follow_b17
  simp only [lits]
  rw [if_neg (by rw [j_le (by omega) (by omega)]; omega), if_neg (by rw [j_le (by omega) (by omega)]; omega), e1, xbd_e]
  by_cases c : chQ A s = -1
  · rw [if_pos (by rw [c]; rfl), g 0 (by unfold chP; rw [if_pos c]), show chP A h s = 0 by unfold chP; rw [if_pos c]]
  · rw [if_neg (by rw [show -j32 1 = j32 (-1) from rfl, j_eq (by omega) (by omega)]; exact c), j_mul, j_div (by omega) (by omega), Int.tdiv_eq_ediv_of_nonneg hme.1, g (s.2.2 * h / 100) (by unfold chP; rw [if_neg c]), show chP A h s = s.2.2 * h / 100 by unfold chP; rw [if_neg c]]
theorem folM_g {A : xAs} {h m x v : Int} {ν : xm} {k : Nat} (hI : Inv A) (hh : 0 ≤ h ∧ h ≤ 100) (hs : chOk A (chS A h m x v k)) (hk : k ≤ 23) (hw : ∀ i : Nat, i < k → gi ν iC_meetings_payers i = chWho A h m x v i ∧ gi ν iC_meetings_paid i = chMin A h m x v i) : ∀ i : Nat, i < k + 1 → gi (folM ν k (chS A h m x v k).2.1 (chMin A h m x v k)) iC_meetings_payers i = chWho A h m x v i ∧ gi (folM ν k (chS A h m x v k).2.1 (chMin A h m x v k)) iC_meetings_paid i = chMin A h m x v i := by
  intro i hi
  have hp := chP_b hh hs
  have hx := hs.2.1
  have hv := hs.2.2
  unfold folM
  by_cases c : i = k
  · subst c
    exact ⟨by rw [gi_wr_o (by decide), gi_wr_o (by decide), gi_wr (by omega)], by rw [gi_wr_o (by decide), gi_wr (by unfold chMin; omega)]⟩
  · have h1 := hw i (by omega)
    exact ⟨by rw [gi_wr_o (by decide), gi_wr_o (by decide), gi_wr_z (by omega)]; exact h1.1, by rw [gi_wr_o (by decide), gi_wr_z (by omega), gi_wr_o (by decide)]; exact h1.2⟩
theorem fol_ok {A : xAs} {μ : xm} {R : xr} {n : Nat} (hC : CH A μ R n) (hI : Inv A) {h m x v : Int} (hh : 0 ≤ h ∧ h ≤ 100) {e : Nat} (he : chN A h m x v e) : xok (fX3_follow (j32 m) (j32 x) (j32 v) (j32 h) μ R) (fun ν => CH A ν R n ∧ (∀ o, o ≠ iC_meetings_payers → o ≠ iC_meetings_paid → o ≠ iC_meetings → gi ν o = gi μ o) ∧ gi ν iC_meetings 6 = e + 1 ∧ ∀ i : Nat, i < e + 1 → gi ν iC_meetings_payers i = chWho A h m x v i ∧ gi ν iC_meetings_paid i = chMin A h m x v i) := by
  have hmt := hI.mt
  unfold fX3_follow
  simp (disch := omega) only [Bool.false_eq_true, lits, jj, jc, jm, Int.cast_ofNat_Int, j_bi0, j_bi1, not_true, not_false_eq_true, if_true, if_false, xe, xok_some, Sum.elim_inl, Sum.elim_inr, Int.reduceEq, Int.reduceLT, Int.reduceLE, Int.reduceAdd, Int.reduceSub, Int.reduceMul]
  rw [xok_bd]
  have hC0 : CH A (wr μ iC_meetings 6 0) R n := hC.scr (fun o ho => gi_wr_f (by rintro rfl; exact absurd ho (by decide))) (gi_wr_z (by omega)) (gi_wr_o (by decide))
  refine xok_mono (P := fun r => ∃ ν, r = .inr ν ∧ CH A ν R n ∧ (∀ o, o ≠ iC_meetings_payers → o ≠ iC_meetings_paid → o ≠ iC_meetings → gi ν o = gi μ o) ∧ gi ν iC_meetings 6 = e + 1 ∧ ∀ i : Nat, i < e + 1 → gi ν iC_meetings_payers i = chWho A h m x v i ∧ gi ν iC_meetings_paid i = chMin A h m x v i) ?_ (fun r hr => ?_)
  · refine xok_for (fun k w => w.1 = j32 (chS A h m x v k).1 ∧ w.2.1 = j32 (chS A h m x v k).2.1 ∧ w.2.2.1 = j32 (chS A h m x v k).2.2 ∧ w.2.2.2.1 = j32 k ∧ CH A w.2.2.2.2 R n ∧ (∀ o, o ≠ iC_meetings_payers → o ≠ iC_meetings_paid → o ≠ iC_meetings → gi w.2.2.2.2 o = gi μ o) ∧ ∀ i : Nat, i < k → gi w.2.2.2.2 iC_meetings_payers i = chWho A h m x v i ∧ gi w.2.2.2.2 iC_meetings_paid i = chMin A h m x v i) e (by have := he.1; omega) ⟨rfl, rfl, rfl, rfl, hC0, fun o h1 h2 h3 => gi_wr_f h3, fun i hi => by omega⟩ ?_ ?_
    · intro k w hk hw
      obtain ⟨w1, w2, w3, w4, ν⟩ := w
      obtain ⟨h1, h2, h3, h4, h5, h6, h7⟩ := hw
      simp only at h1 h2 h3 h4 h5 h6 h7
      subst h1; subst h2; subst h3; subst h4
      have hs := he.2.2.2 k (by omega)
      have hk23 : k ≤ 23 := by have := he.1; omega
      show xok (fX3_follow_b17 _ _ _ _ ν (j32 h) R) _
      rw [folS h5 hI hh hs hk23, if_neg (he.2.2.1 k hk), xok_some]
      exact ⟨rfl, rfl, rfl, rfl, folM_CH h5 (by omega), fun o q1 q2 q3 => (folM_o q1 q2 q3).trans (h6 o q1 q2 q3), folM_g hI hh hs hk23 h7⟩
    · intro w hw
      obtain ⟨w1, w2, w3, w4, ν⟩ := w
      obtain ⟨h1, h2, h3, h4, h5, h6, h7⟩ := hw
      simp only at h1 h2 h3 h4 h5 h6 h7
      subst h1; subst h2; subst h3; subst h4
      have hs := he.2.2.2 e (by omega)
      have he23 := he.1
      show xok (fX3_follow_b17 _ _ _ _ ν (j32 h) R) _
      rw [folS h5 hI hh hs he.1, if_pos he.2.1, xok_some]
      refine ⟨_, rfl, folM_CH h5 (by omega), fun o q1 q2 q3 => (folM_o q1 q2 q3).trans (h6 o q1 q2 q3), ?_, folM_g hI hh hs he.1 h7⟩
      unfold folM
      rw [gi_wr (by omega)]
  · obtain ⟨ν, rfl, hν⟩ := hr
    rw [xsm_e1, xok_some]
    exact hν
