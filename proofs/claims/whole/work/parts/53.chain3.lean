/-! chain: the reference's walk -/
def chM (ν : xm) (k w c : Int) : xm := wr (wr (wr ν iM_chainWho k w) iM_chainMinutes k c) iM 34 (k + 1)
theorem chM_o {ν : xm} {k w c : Int} {o : Nat} (h1 : o ≠ iM_chainWho) (h2 : o ≠ iM_chainMinutes) (h3 : o ≠ iM) : gi (chM ν k w c) o = gi ν o := by
  unfold chM; rw [gi_wr_f h3, gi_wr_f h2, gi_wr_f h1]
theorem chM_RH {A : xAs} {ν : xm} (hA : RH A ν) {k w c : Int} : RH A (chM ν k w c) := RH.ws (RH.wo (RH.wo hA rfl (by decide)) rfl (by decide)) (by omega)
theorem chM_LK {ν : xm} {k w c : Int} : LK ν (chM ν k w c) := ((LK.w_ (by decide)).tr (LK.w_ (by decide))).tr (LK.w_f (by omega))
theorem chM_g {A : xAs} {h m x v : Int} {ν : xm} {k : Nat} (hh : 0 ≤ h ∧ h ≤ 100) (hs : chOk A (chS A h m x v k)) (hk : k ≤ 23) (hw : ∀ i : Nat, i < k → gi ν iM_chainWho i = chWho A h m x v i ∧ gi ν iM_chainMinutes i = chMin A h m x v i) : ∀ i : Nat, i < k + 1 → gi (chM ν k (chS A h m x v k).2.1 (chMin A h m x v k)) iM_chainWho i = chWho A h m x v i ∧ gi (chM ν k (chS A h m x v k).2.1 (chMin A h m x v k)) iM_chainMinutes i = chMin A h m x v i := by
  intro i hi
  have hp := chP_b hh hs
  have hx := hs.2.1
  have hv := hs.2.2
  unfold chM
  by_cases c : i = k
  · subst c
    exact ⟨by rw [gi_wr_o (by decide), gi_wr_o (by decide), gi_wr (by omega)], by rw [gi_wr_o (by decide), gi_wr (by unfold chMin; omega)]⟩
  · have h1 := hw i (by omega)
    exact ⟨by rw [gi_wr_o (by decide), gi_wr_o (by decide), gi_wr_z (by omega)]; exact h1.1, by rw [gi_wr_o (by decide), gi_wr_z (by omega), gi_wr_o (by decide)]; exact h1.2⟩
theorem chSt {A : xAs} {ν : xm} (hA : RH A ν) (hI : Inv A) {h : Int} (hh : 0 ≤ h ∧ h ≤ 100) {s : Int × Int × Int} (hs : chOk A s) {k : Nat} (hk : k ≤ 23) (h34 : gi ν iM 34 = k) (μ9 : xm) : fX12_chains_b31 (j32 s.2.2) (j32 s.2.1) (j32 s.1) ν (j32 h, μ9) = some (.inl (j32 (chP A h s), (if chP A h s = 0 then j32 (-1) else j32 (sKeep (A iM_peopleOf (chQ A s)) (cA A (chQ A s)) 8)), j32 (chQ A s), chM ν k s.2.1 (s.2.2 - chP A h s))) := by
  have hmt := hI.mt
  have hp := chP_b hh hs
  have hv := hs.2.2
  have hx := hs.2.1
  have hme := mul_ed hs.2.2 hh
  have e1 : fX12_keptBy (j32 s.1) (j32 s.2.1) ν = some (j32 (chQ A s)) := eX12_keptBy hA hI hs.1 hs.2.1
  have hq := (sBy_b hI (m := s.1) (x := s.2.1)).1
  have hq2 : -1 ≤ chQ A s ∧ chQ A s < A iM 1 := hq
  have g : ∀ p : Int, chP A h s = p → fX12_chains_j65 (j32 p) (j32 s.2.2) (j32 s.2.1) ν (j32 (chQ A s)) = some (.inl (j32 p, (if p = 0 then j32 (-1) else j32 (sKeep (A iM_peopleOf (chQ A s)) (cA A (chQ A s)) 8)), j32 (chQ A s), chM ν k s.2.1 (s.2.2 - p))) := by
    intro p hpp
    rw [hpp] at hp
    unfold fX12_chains_j65
    have t1 : gi (wr ν iM_chainWho k s.2.1) iM 34 = k := by rw [gi_wr_o (by decide)]; exact h34
    have t2 : gi (wr (wr ν iM_chainWho k s.2.1) iM_chainMinutes k (s.2.2 - p)) iM 34 = k := by rw [gi_wr_o (by decide)]; exact t1
    by_cases c : p = 0
    · rw [if_pos c]
      simp (disch := omega) only [Bool.false_eq_true, lits, jj, jc, jm, Int.cast_ofNat_Int, j_bi0, j_bi1, not_true, not_false_eq_true, if_true, if_false, xe, xok_some, Sum.elim_inl, Sum.elim_inr, Int.reduceEq, Int.reduceLT, Int.reduceLE, Int.reduceAdd, Int.reduceSub, Int.reduceMul, h34, t1, t2, show p ≤ 0 by omega]
      rfl
    · have hne : chQ A s ≠ -1 := fun e => by unfold chP at hpp; rw [if_pos e] at hpp; omega
      have h1 := chQ_ok hI hne
      have h2 := eX12_keeperOf (chM_RH hA (k := (k : Int)) (w := s.2.1) (c := s.2.2 - p)) hI h1.1
      rw [if_neg c]
      unfold chM at h2 ⊢
      simp (disch := omega) only [Bool.false_eq_true, lits, jj, jc, jm, Int.cast_ofNat_Int, j_bi0, j_bi1, not_true, not_false_eq_true, if_true, if_false, xe, xok_some, Sum.elim_inl, Sum.elim_inr, Int.reduceEq, Int.reduceLT, Int.reduceLE, Int.reduceAdd, Int.reduceSub, Int.reduceMul, h34, t1, t2, show ¬ p ≤ 0 by omega, h2]
  unfold fX12_chains_b31
  simp only [lits]
  rw [if_neg (by rw [show -j32 1 = j32 (-1) from rfl, j_eq (by omega) (by omega)]; omega), e1, xbd_e]
  by_cases c : chQ A s = -1
  · rw [if_pos (by rw [c]; rfl), g 0 (by unfold chP; rw [if_pos c]), show chP A h s = 0 by unfold chP; rw [if_pos c]]
  · rw [if_neg (by rw [show -j32 1 = j32 (-1) from rfl, j_eq (by omega) (by omega)]; exact c), j_mul, j_div (by omega) (by omega), Int.tdiv_eq_ediv_of_nonneg hme.1, g (s.2.2 * h / 100) (by unfold chP; rw [if_neg c]), show chP A h s = s.2.2 * h / 100 by unfold chP; rw [if_neg c]]
/-- the loop of chains -/
theorem chL {A : xAs} {μ : xm} (hA : RH A μ) (hI : Inv A) {h m x v : Int} (hh : 0 ≤ h ∧ h ≤ 100) {e : Nat} (he : chN A h m x v e) (h34 : gi μ iM 34 = 0) (μ9 : xm) : xok (xloop xfu (fun w => fX12_chains_b31 w.1 w.2.1 w.2.2.1 w.2.2.2 (j32 h, μ9)) (j32 v, j32 x, j32 m, μ)) (fun ν => RH A ν ∧ LK μ ν ∧ (∀ o, o ≠ iM_chainWho → o ≠ iM_chainMinutes → o ≠ iM → gi ν o = gi μ o) ∧ gi ν iM 34 = e + 1 ∧ ∀ i : Nat, i < e + 1 → gi ν iM_chainWho i = chWho A h m x v i ∧ gi ν iM_chainMinutes i = chMin A h m x v i) := by
  refine xok_for (fun k w => (k ≤ e → w.1 = j32 (chS A h m x v k).2.2 ∧ w.2.1 = j32 (chS A h m x v k).2.1 ∧ w.2.2.1 = j32 (chS A h m x v k).1) ∧ (e < k → w.2.1 = j32 (-1)) ∧ gi w.2.2.2 iM 34 = k ∧ RH A w.2.2.2 ∧ LK μ w.2.2.2 ∧ (∀ o, o ≠ iM_chainWho → o ≠ iM_chainMinutes → o ≠ iM → gi w.2.2.2 o = gi μ o) ∧ ∀ i : Nat, i < k → gi w.2.2.2 iM_chainWho i = chWho A h m x v i ∧ gi w.2.2.2 iM_chainMinutes i = chMin A h m x v i) (e + 1) (by have := he.1; omega) ⟨fun _ => ⟨rfl, rfl, rfl⟩, fun h => by omega, h34, hA, LK.rf, fun o _ _ _ => rfl, fun i hi => by omega⟩ ?_ ?_
  · intro k w hk hw
    obtain ⟨w1, w2, w3, ν⟩ := w
    obtain ⟨h1, h2, h3, h4, h5, h6, h7⟩ := hw
    simp only at h1 h2 h3 h4 h5 h6 h7
    obtain ⟨rfl, rfl, rfl⟩ := h1 (by omega)
    have hs := he.2.2.2 k (by omega)
    have hk23 : k ≤ 23 := by have := he.1; omega
    show xok (fX12_chains_b31 _ _ _ ν _) _
    rw [chSt h4 hI hh hs hk23 h3, xok_some]
    refine ⟨fun hke => ?_, fun hke => ?_, ?_, chM_RH h4, h5.tr chM_LK, fun o q1 q2 q3 => (chM_o q1 q2 q3).trans (h6 o q1 q2 q3), chM_g hh hs hk23 h7⟩
    · have hne := he.2.2.1 k (by omega)
      refine ⟨rfl, ?_, rfl⟩
      show (if _ then _ else _) = _
      rw [if_neg hne]; rfl
    · have hee : k = e := by omega
      subst hee
      show (if _ then _ else _) = _
      rw [if_pos he.2.1]
    · show gi (chM ν k _ _) iM 34 = _
      unfold chM
      rw [gi_wr (by omega)]; omega
  · intro w hw
    obtain ⟨w1, w2, w3, ν⟩ := w
    obtain ⟨h1, h2, h3, h4, h5, h6, h7⟩ := hw
    simp only at h1 h2 h3 h4 h5 h6 h7
    have h8 := h2 (by omega)
    subst h8
    show xok (fX12_chains_b31 _ _ _ ν _) _
    unfold fX12_chains_b31
    simp (disch := omega) only [Bool.false_eq_true, lits, jj, jc, jm, Int.cast_ofNat_Int, j_bi0, j_bi1, not_true, not_false_eq_true, if_true, if_false, xe, xok_some, Sum.elim_inl, Sum.elim_inr, Int.reduceEq, Int.reduceLT, Int.reduceLE, Int.reduceAdd, Int.reduceSub, Int.reduceMul, show (-1 : Int32) = j32 (-1) from rfl]
    exact ⟨h4, h5, h6, by rw [h3]; omega, h7⟩
