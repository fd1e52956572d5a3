/-! rest -/
theorem gLp_mono {P : Int} {K : Nat} : ∀ d, (gLp P K).length ≤ (gLp P (K + d)).length
  | 0 => Nat.le_refl _
  | d + 1 => by
    have ih := gLp_mono (P := P) (K := K) d
    rw [← Nat.add_assoc, gLp_s]
    split
    · rw [List.length_append]; omega
    · exact ih
theorem rTp_eq {A : xAs} {m t : Int} {ah : Int → Int} {K : Nat} : ∀ d, (gLp (A iM_peopleOf m) K).length = (gLp (A iM_peopleOf m) (K + d)).length → rTp A m t ah (K + d) = rTp A m t ah K ∧ fTp A m t ah (K + d) = fTp A m t ah K
  | 0, _ => ⟨rfl, rfl⟩
  | d + 1, h => by
    have h1 := gLp_mono (P := A iM_peopleOf m) (K := K) d
    rw [← Nat.add_assoc, gLp_s] at h
    have hn : ¬ inc (A iM_peopleOf m) ((K + d : Nat) : Int) := fun c => by
      rw [if_pos c, List.length_append] at h
      have : ([((K + d : Nat) : Int)] : List Int).length = 1 := rfl
      omega
    rw [if_neg hn] at h
    have ih := rTp_eq (t := t) (ah := ah) d h
    rw [← Nat.add_assoc, rTp_s, fTp_s, if_neg hn, if_neg (fun h => hn h.1)]
    exact ih
theorem rTp_eq2 {A : xAs} {m t : Int} {ah : Int → Int} {K K' : Nat} (h : (gLp (A iM_peopleOf m) K).length = (gLp (A iM_peopleOf m) K').length) : rTp A m t ah K' = rTp A m t ah K ∧ fTp A m t ah K' = fTp A m t ah K := by
  rcases Nat.le_total K K' with c | c
  · obtain ⟨d, rfl⟩ := Nat.exists_eq_add_of_le c
    exact rTp_eq d h
  · obtain ⟨d, rfl⟩ := Nat.exists_eq_add_of_le c
    have := rTp_eq (t := t) (ah := ah) d h.symm
    exact ⟨this.1.symm, this.2.symm⟩
theorem rt69 {A : xAs} {ν : xm} (hA : RH A ν) (hI : Inv A) {m t : Int} {ah : Int → Int} (hm : 0 ≤ m ∧ m < A iM 1) (h4 : pc (A iM_peopleOf m) ≤ 4) (ht : 0 ≤ t ∧ t ≤ 99) (hah : ahB ah) (hS : RS (gLp (A iM_peopleOf m) 8) ah ν) : ∃ ν', xloop xfu (fun v => fX12_rest_b69 v.1 v.2.1 v.2.2 (j32 m) (j32 t)) (j32 0, j32 0, ν) = some (j32 (fTp A m t ah 8), ν') ∧ RS (gLp (A iM_peopleOf m) 8) (rTp A m t ah 8) ν' ∧ frX ν ν' := by
  have hP := hI.peopleOf m hm.1 hm.2
  have hlen := gLp_len hP
  have key : xok (xloop xfu (fun v => fX12_rest_b69 v.1 v.2.1 v.2.2 (j32 m) (j32 t)) (j32 0, j32 0, ν)) (fun r => r.1 = j32 (fTp A m t ah 8) ∧ RS (gLp (A iM_peopleOf m) 8) (rTp A m t ah 8) r.2 ∧ frX ν r.2) := by
    refine xok_for (fun i s => s.2.1 = j32 i ∧ (∀ K, (gLp (A iM_peopleOf m) K).length = i → s.1 = j32 (fTp A m t ah K) ∧ RS (gLp (A iM_peopleOf m) 8) (rTp A m t ah K) s.2.2) ∧ frX ν s.2.2) (gLp (A iM_peopleOf m) 8).length (by omega) ⟨rfl, fun K hK => ?_, frX.rf⟩ ?_ ?_
    · have := rTp_eq2 (t := t) (ah := ah) (K := 0) (K' := K) (m := m) (A := A) hK.symm
      rw [this.1, this.2]
      exact ⟨rfl, hS⟩
    · intro i s hi hs
      obtain ⟨s1, s2, σ⟩ := s
      obtain ⟨g1, g2, g3⟩ := hs
      simp only at g1 g2 g3
      subst g1
      obtain ⟨k, k1, k2, k3⟩ := gLp_ix 8 i hi
      obtain ⟨h1, h2⟩ := g2 k k3
      subst h1
      have hf := fTp_01 (A := A) (m := m) (t := t) (ah := ah) k
      obtain ⟨ν', r1, r2, r3⟩ := chg_ok (g3.RH hA) hI hm h4 ht k2 (rTp_b hah k) h2
      rw [k3] at r1
      have e1 : rTp A m t ah (k + 1) = up1 (rTp A m t ah k) k (nAf A m t (rTp A m t ah k) k) := by rw [rTp_s, if_pos k2]
      have e2 : fTp A m t ah (k + 1) = if nAf A m t (rTp A m t ah k) k = rTp A m t ah k k then fTp A m t ah k else 1 := by
        rw [fTp_s]
        by_cases c : nAf A m t (rTp A m t ah k) k = rTp A m t ah k k
        · rw [if_pos c, if_neg (fun h => h.2 c)]
        · rw [if_neg c, if_pos ⟨k2, c⟩]
      have el : (gLp (A iM_peopleOf m) (k + 1)).length = i + 1 := by rw [gLp_s, if_pos k2, List.length_append, k3]; rfl
      have st : fX12_rest_b69 (j32 (fTp A m t ah k)) (j32 i) σ (j32 m) (j32 t) = some (.inl (j32 (fTp A m t ah (k + 1)), j32 ((i : Int) + 1), ν')) := by
        rw [e2]
        have hgl := (g2 k k3).2.1
        unfold fX12_rest_b69
        simp only [lits]
        rw [j_rd, show gi σ iM ((61 : Nat) : Int) = (gLp (A iM_peopleOf m) 8).length from hgl, if_neg (by rw [j_le (by omega) (by omega)]; omega), r1, xbd_e]
        by_cases c : nAf A m t (rTp A m t ah k) k = rTp A m t ah k k
        · rw [if_pos c, if_pos c]
          show (if j32 0 = j32 0 then _ else _) = _
          rw [if_pos rfl]
          rcases hf with q | q
          · rw [q, if_pos rfl, xlt_e, j_add]
          · rw [q, if_neg (by rw [j_eq (by omega) (by omega)]; omega), xlt_e, j_add]
        · rw [if_neg c, if_neg c]
          show (if j32 1 = j32 0 then _ else _) = _
          rw [if_neg (by rw [j_eq (by omega) (by omega)]; omega), xlt_e, j_add]
      show xok (fX12_rest_b69 (j32 (fTp A m t ah k)) (j32 i) σ _ _) _
      rw [st, xok_some]
      refine ⟨rfl, fun K hK => ?_, g3.tr r3⟩
      have := rTp_eq2 (t := t) (ah := ah) (K := k + 1) (K' := K) (m := m) (A := A) (by rw [el, hK])
      rw [this.1, this.2, e1]
      exact ⟨rfl, r2⟩
    · intro s hs
      obtain ⟨s1, s2, σ⟩ := s
      obtain ⟨g1, g2, g3⟩ := hs
      simp only at g1 g2 g3
      subst g1
      obtain ⟨h1, h2⟩ := g2 8 rfl
      subst h1
      show xok (fX12_rest_b69 _ (j32 (gLp (A iM_peopleOf m) 8).length) σ _ _) _
      unfold fX12_rest_b69
      simp (disch := omega) only [Bool.false_eq_true, lits, jj, jc, jm, Int.cast_ofNat_Int, j_bi0, j_bi1, not_true, not_false_eq_true, if_true, if_false, xe, xok_some, Sum.elim_inl, Sum.elim_inr, Int.reduceEq, Int.reduceLT, Int.reduceLE, Int.reduceAdd, Int.reduceSub, Int.reduceMul, h2.1, Int.le_refl]
      exact ⟨by first | rfl | trivial, h2, g3⟩
  obtain ⟨r, r1, r2, r3, r4⟩ := key
  exact ⟨r.2, by rw [r1, ← r2], r3, r4⟩
theorem rt126 {P : Int} {ah : Int → Int} {ν ν0 : xm} {x : Int32} (hS : RS (gLp P 8) ah ν) (hG : (gLp P 8).length ≤ 4) {k : Nat} (hk : inc P k) : xloop xfu (fun v => fX12_rest_b126 v (j32 k) (x, ν)) (j32 0) = some (.inr (j32 (ah k), ν)) := by
  obtain ⟨a1, a2, a3⟩ := gLp_at hk
  have hSi := hS.2 _ a2
  rw [a1] at hSi
  have hk8 := hk.2.1
  refine xloop_for (fun i : Nat => j32 i) (gLp P k).length (by omega) rfl ?_ ?_
  · intro i hi
    have h1 := hS.2 i (by omega)
    have h2 := a3 i (by omega) (by omega)
    show fX12_rest_b126 (j32 i) (j32 k) (x, ν) = _
    have b1 := gi_lo ν iM_goer i
    have b2 := gi_hi ν iM_goer i
    unfold fX12_rest_b126
    simp only [lits]
    rw [j_rd, show gi ν iM ((61 : Nat) : Int) = (gLp P 8).length from hS.1, if_neg (by rw [j_le (by omega) (by omega)]; omega), j_gI (by omega), xbd_e, if_neg (by rw [j_eq (by omega) (by omega), h1.1]; exact h2), xlt_e, j_add]
    rfl
  · show fX12_rest_b126 (j32 (gLp P k).length) (j32 k) (x, ν) = _
    unfold fX12_rest_b126
    simp only [lits]
    rw [j_rd, show gi ν iM ((61 : Nat) : Int) = (gLp P 8).length from hS.1, if_neg (by rw [j_le (by omega) (by omega)]; omega), j_gI (by omega), xbd_e, hSi.1, if_pos rfl, j_gI (by omega), xbd_e, hSi.2]
theorem rrest_ok {A : xAs} {ν : xm} (hA : RH A ν) (hI : Inv A) {m t w : Int} (hm : 0 ≤ m ∧ m < A iM 1) (h4 : pc (A iM_peopleOf m) ≤ 4) (ht : 0 ≤ t ∧ t ≤ 99) (hw : w = -1 ∨ inc (A iM_peopleOf m) w) {N : Nat} (hN : atR A m t N) : ∃ ν', fX12_rest_j48 (j32 m) (j32 t) (j32 w) ν = some (j32 (if N < 30 then (if w = -1 then (N : Int) + 1 else rUp A m t (N + 1) w) else -2), ν') ∧ frX ν ν' := by
  have hP := hI.peopleOf m hm.1 hm.2
  have hlen := gLp_len hP
  obtain ⟨ν0, l1, l2, l3⟩ := lays_ok hA hI hm h4
  obtain ⟨n1, n2⟩ := hN
  have key : xok (xloop xfu (fun v => fX12_rest_b56 v.1 v.2 (j32 m) (j32 t) (j32 w)) (j32 1, ν0)) (fun r => ∃ ν', frX ν ν' ∧ r = (if N < 30 then .inr (j32 (if w = -1 then (N : Int) + 1 else rUp A m t (N + 1) w), ν') else .inl ν')) := by
    refine xok_for (fun k s => s.1 = j32 ((k : Int) + 1) ∧ RS (gLp (A iM_peopleOf m) 8) (rUp A m t k) s.2 ∧ frX ν s.2) N (by omega) ⟨rfl, l2, l3⟩ ?_ ?_
    · intro k s hk hs
      obtain ⟨s1, σ⟩ := s
      obtain ⟨g1, g2, g3⟩ := hs
      simp only at g1 g2 g3
      subst g1
      obtain ⟨ν', r1, r2, r3⟩ := rt69 (g3.RH hA) hI hm h4 ht (rUp_b k) g2
      have hf := fTp_01 (A := A) (m := m) (t := t) (ah := rUp A m t k) 8
      have hne := n1 k hk
      show xok (fX12_rest_b56 (j32 ((k : Int) + 1)) σ _ _ _) _
      unfold fX12_rest_b56
      simp only [lits] at r1 ⊢
      rw [if_neg (by rw [j_lt (by omega) (by omega)]; omega), r1, xbd_e]
      show xok (if j32 (fTp A m t (rUp A m t k) 8) = j32 0 then _ else xlt (j32 ((k : Int) + 1) + j32 1) fun x27 => some (Sum.inl (x27, ν'))) _
      rw [if_neg (by rw [j_eq (by omega) (by omega)]; exact hne), xlt_e, j_add, xok_some]
      exact ⟨rfl, r2, g3.tr r3⟩
    · intro s hs
      obtain ⟨s1, σ⟩ := s
      obtain ⟨g1, g2, g3⟩ := hs
      simp only at g1 g2 g3
      subst g1
      show xok (fX12_rest_b56 (j32 ((N : Int) + 1)) σ _ _ _) _
      rcases n2 with ⟨n3, n4⟩ | rfl
      · obtain ⟨ν', r1, r2, r3⟩ := rt69 (g3.RH hA) hI hm h4 ht (rUp_b N) g2
        unfold fX12_rest_b56
        simp only [lits] at r1 ⊢
        rw [if_neg (by rw [j_lt (by omega) (by omega)]; omega), r1, xbd_e, n4]
        show xok (if j32 0 = j32 0 then (if j32 w = -j32 1 then some (Sum.inr (Sum.inr (j32 ((N : Int) + 1), ν'))) else xbd (xloop xfu (fun v => fX12_rest_b126 v (j32 w) (j32 0, ν')) (j32 0)) fun q23 => xsm q23 (fun q24 => xlt (j32 ((N : Int) + 1) + j32 1) fun x26 => some (Sum.inl (x26, ν'))) (fun q25 => some (Sum.inr (Sum.inr q25)))) else xlt (j32 ((N : Int) + 1) + j32 1) fun x27 => some (Sum.inl (x27, ν'))) _
        rw [if_pos rfl]
        rcases hw with rfl | hw
        · rw [if_pos (show j32 (-1) = -j32 1 from rfl), xok_some]
          exact ⟨ν', g3.tr r3, by rw [if_pos n3, if_pos rfl]⟩
        · obtain ⟨k, rfl⟩ := nat_of hw.1
          have q := rt126 (ν0 := ν') (x := j32 0) r2 (by omega) hw
          have hw8 := hw.2.1
          rw [if_neg (by rw [show -j32 1 = j32 (-1) from rfl, j_eq (by omega) (by omega)]; omega), q, xbd_e, xsm_e1, xok_some]
          exact ⟨ν', g3.tr r3, by rw [if_pos n3, if_neg (by omega)]; rfl⟩
      · unfold fX12_rest_b56
        simp only [lits]
        rw [if_pos (by rw [j_lt (by omega) (by omega)]; omega), xok_some]
        exact ⟨σ, g3, by rw [if_neg (by omega)]⟩
  obtain ⟨r, r1, ν', r2, r3⟩ := key
  refine ⟨ν', ?_, r2⟩
  unfold fX12_rest_j48
  simp only [lits] at r1 ⊢
  rw [l1, xbd_e, r1, xbd_e, r3]
  by_cases c : N < 30
  · rw [if_pos c, if_pos c, xsm_e1]
  · rw [if_neg c, if_neg c, xsm_e0]
    rfl
theorem s_rest {A : xAs} {μ : xm} {R : xr} {n : Nat} (hA : RH A μ) (hC : CH A μ R n) (hI : Inv A) (a1 a2 a3 : Int32) : ∃ q, fX11_rest a1 a2 a3 μ R = some q ∧ ∃ q2, fX12_rest a1 a2 a3 q.2.1 = some q2 ∧ q2.1 = q.1 ∧ LK μ q2.2 ∧ q.2.2 iC_reader 1 = R iC_reader 1 ∧ RH A q2.2 ∧ CH A q2.2 q.2.2 n := by
  obtain ⟨m, rfl, hm⟩ := j32_ex a1
  obtain ⟨t, rfl, ht⟩ := j32_ex a2
  obtain ⟨w, rfl, hw⟩ := j32_ex a3
  have hmt := hI.mt
  have f1 := eX3_find hC hI hm
  have f2 := eX11_within ht (a := 0) (b := 99) (by omega) (by omega)
  have f3 := eX12_isMeeting hA hI hm
  have f4 := eX12_in ht (a := 0) (b := 99) (by omega) (by omega)
  have no : fX11_rest (j32 m) (j32 t) (j32 w) μ R = some (j32 (-3), μ, R) → fX12_rest (j32 m) (j32 t) (j32 w) μ = some (j32 (-3), μ) → ∃ q, fX11_rest (j32 m) (j32 t) (j32 w) μ R = some q ∧ ∃ q2, fX12_rest (j32 m) (j32 t) (j32 w) q.2.1 = some q2 ∧ q2.1 = q.1 ∧ LK μ q2.2 ∧ q.2.2 iC_reader 1 = R iC_reader 1 ∧ RH A q2.2 ∧ CH A q2.2 q.2.2 n := fun h1 h2 => ⟨_, h1, _, h2, rfl, LK.rf, rfl, hA, hC⟩
  by_cases c1 : 0 ≤ m ∧ m < A iM 1
  · rw [if_pos c1] at f1
    have hP := hI.peopleOf m c1.1 c1.2
    have hpc := pc_b (A iM_peopleOf m)
    have f5 := eC_many hC hI c1
    have f6 := eC_includes hC hI c1 hw
    have f7 : gi μ iM_peopleOf m = A iM_peopleOf m := by rw [RH.at hA (by decide)]
    have f8 := eX12_bits hP
    have f9 := eX12_isOf hA hI hm hw
    rw [show bi (isOf A m w) = bi (inc (A iM_peopleOf m) w) by unfold bi; simp only [isOf_inc c1]] at f9
    by_cases c2 : 0 ≤ t ∧ t ≤ 99
    · by_cases c3 : pc (A iM_peopleOf m) ≤ 4
      · by_cases c4 : w = -1 ∨ inc (A iM_peopleOf m) w
        · obtain ⟨N, hN⟩ := atR_ex (A := A) (m := m) (t := t)
          obtain ⟨ν, R', r1, r2, ⟨a', c', r3⟩, r4, r5⟩ := crest_ok hC hI c1 c3 c2 hN
          have hA1 : RH A ν := RH.keep hA (fun o p q => r5 o (by omega))
          have k1 : LK μ ν := LK.of (fun o p => r5 o (by omega))
          obtain ⟨ρ, u1, u2⟩ := rrest_ok hA1 hI c1 c3 c2 c4 hN
          have uo := u2.o
          have g3 := eX12_isMeeting hA1 hI hm
          have g7 : gi ν iM_peopleOf m = A iM_peopleOf m := by rw [RH.at hA1 (by decide)]
          have g9 := eX12_isOf hA1 hI hm hw
          rw [show bi (isOf A m w) = bi (inc (A iM_peopleOf m) w) by unfold bi; simp only [isOf_inc c1]] at g9
          have j54 : fX11_rest_j54 (j32 t) (j32 w) μ R (oM m) = some (j32 (if N < 30 then (if w = -1 then (N : Int) + 1 else rUp A m t (N + 1) w) else -2), ν, R') := by
            unfold fX11_rest_j54
            rw [r1, xbd_e]
            by_cases d1 : w = -1
            · rw [if_pos (by rw [d1]; rfl), if_pos d1]
            · have hwi := c4.resolve_left d1
              rw [if_neg (by rw [show (-1 : Int32) = j32 (-1) from rfl, j_eq (by omega) (by omega)]; exact d1), if_neg d1]
              by_cases d2 : N < 30
              · have e := r2 d2 w ⟨hwi.1, hwi.2.1⟩
                rw [if_pos d2, if_pos d2]
                show (if j32 ((N : Int) + 1) = -2 then _ else xbd (fX6_aheadOf (j32 w) ν) fun q6 => some (q6, ν, R')) = _
                rw [if_neg (by rw [show (-2 : Int32) = j32 (-2) from rfl, j_eq (by omega) (by omega)]; omega)]
                have hw1 := hwi.1
                have hw2 := hwi.2.1
                unfold fX6_aheadOf
                simp (disch := omega) only [Bool.false_eq_true, lits, jj, jc, jm, Int.cast_ofNat_Int, j_bi0, j_bi1, not_true, not_false_eq_true, if_true, if_false, xe, xok_some, Sum.elim_inl, Sum.elim_inr, Int.reduceEq, Int.reduceLT, Int.reduceLE, Int.reduceAdd, Int.reduceSub, Int.reduceMul, show ¬ w < 0 by omega, show ¬ 8 ≤ w by omega, e]
              · rw [if_neg d2, if_neg d2]
                rfl
          refine ⟨(j32 (if N < 30 then (if w = -1 then (N : Int) + 1 else rUp A m t (N + 1) w) else -2), ν, R'), ?_, (j32 (if N < 30 then (if w = -1 then (N : Int) + 1 else rUp A m t (N + 1) w) else -2), ρ), ?_, rfl, k1.tr uo.2, r3.2.2.2 3 1 (by omega), u2.RH hA1, r4.ref uo.1⟩
          · unfold fX11_rest
            by_cases d1 : w = -1
            · subst d1
              simp (disch := omega) only [Bool.false_eq_true, lits, jj, jc, jm, Int.cast_ofNat_Int, j_bi0, j_bi1, not_true, not_false_eq_true, if_true, if_false, xe, xok_some, Sum.elim_inl, Sum.elim_inr, Int.reduceEq, Int.reduceLT, Int.reduceLE, Int.reduceAdd, Int.reduceSub, Int.reduceMul, f1, f2, eq_true c2, f5, c3]
              exact j54
            · have hwi := c4.resolve_left d1
              simp (disch := omega) only [Bool.false_eq_true, lits, jj, jc, jm, Int.cast_ofNat_Int, j_bi0, j_bi1, not_true, not_false_eq_true, if_true, if_false, xe, xok_some, Sum.elim_inl, Sum.elim_inr, Int.reduceEq, Int.reduceLT, Int.reduceLE, Int.reduceAdd, Int.reduceSub, Int.reduceMul, f1, f2, eq_true c2, f5, c3, d1, f6, eq_true hwi]
              rw [if_neg d1] at j54
              exact j54
          · unfold fX12_rest
            by_cases d1 : w = -1
            · subst d1
              simp (disch := omega) only [Bool.false_eq_true, lits, jj, jc, jm, Int.cast_ofNat_Int, j_bi0, j_bi1, not_true, not_false_eq_true, if_true, if_false, xe, xok_some, Sum.elim_inl, Sum.elim_inr, Int.reduceEq, Int.reduceLT, Int.reduceLE, Int.reduceAdd, Int.reduceSub, Int.reduceMul, g3, eq_true c1, g7, f8, show ¬ 4 < pc (A iM_peopleOf m) by omega, f4, eq_true c2]
              exact u1
            · have hwi := c4.resolve_left d1
              simp (disch := omega) only [Bool.false_eq_true, lits, jj, jc, jm, Int.cast_ofNat_Int, j_bi0, j_bi1, not_true, not_false_eq_true, if_true, if_false, xe, xok_some, Sum.elim_inl, Sum.elim_inr, Int.reduceEq, Int.reduceLT, Int.reduceLE, Int.reduceAdd, Int.reduceSub, Int.reduceMul, g3, eq_true c1, g7, f8, show ¬ 4 < pc (A iM_peopleOf m) by omega, f4, eq_true c2, d1, g9, eq_true hwi]
              rw [if_neg d1] at u1
              exact u1
        · have d1 : w ≠ -1 := fun e => c4 (Or.inl e)
          have d2 : ¬ inc (A iM_peopleOf m) w := fun e => c4 (Or.inr e)
          refine no ?_ ?_
          · unfold fX11_rest
            simp (disch := omega) only [Bool.false_eq_true, lits, jj, jc, jm, Int.cast_ofNat_Int, j_bi0, j_bi1, not_true, not_false_eq_true, if_true, if_false, xe, xok_some, Sum.elim_inl, Sum.elim_inr, Int.reduceEq, Int.reduceLT, Int.reduceLE, Int.reduceAdd, Int.reduceSub, Int.reduceMul, f1, f2, eq_true c2, f5, c3, d1, f6, eq_false d2]
          · unfold fX12_rest
            simp (disch := omega) only [Bool.false_eq_true, lits, jj, jc, jm, Int.cast_ofNat_Int, j_bi0, j_bi1, not_true, not_false_eq_true, if_true, if_false, xe, xok_some, Sum.elim_inl, Sum.elim_inr, Int.reduceEq, Int.reduceLT, Int.reduceLE, Int.reduceAdd, Int.reduceSub, Int.reduceMul, f3, eq_true c1, f7, f8, show ¬ 4 < pc (A iM_peopleOf m) by omega, f4, eq_true c2, d1, f9, eq_false d2]
      · refine no ?_ ?_
        · unfold fX11_rest
          simp (disch := omega) only [Bool.false_eq_true, lits, jj, jc, jm, Int.cast_ofNat_Int, j_bi0, j_bi1, not_true, not_false_eq_true, if_true, if_false, xe, xok_some, Sum.elim_inl, Sum.elim_inr, Int.reduceEq, Int.reduceLT, Int.reduceLE, Int.reduceAdd, Int.reduceSub, Int.reduceMul, f1, f2, eq_true c2, f5, c3]
        · unfold fX12_rest
          simp (disch := omega) only [Bool.false_eq_true, lits, jj, jc, jm, Int.cast_ofNat_Int, j_bi0, j_bi1, not_true, not_false_eq_true, if_true, if_false, xe, xok_some, Sum.elim_inl, Sum.elim_inr, Int.reduceEq, Int.reduceLT, Int.reduceLE, Int.reduceAdd, Int.reduceSub, Int.reduceMul, f3, eq_true c1, f7, f8, show 4 < pc (A iM_peopleOf m) by omega]
    · refine no ?_ ?_
      · unfold fX11_rest
        simp (disch := omega) only [Bool.false_eq_true, lits, jj, jc, jm, Int.cast_ofNat_Int, j_bi0, j_bi1, not_true, not_false_eq_true, if_true, if_false, xe, xok_some, Sum.elim_inl, Sum.elim_inr, Int.reduceEq, Int.reduceLT, Int.reduceLE, Int.reduceAdd, Int.reduceSub, Int.reduceMul, f1, f2, eq_false c2]
      · unfold fX12_rest
        by_cases c3 : 4 < pc (A iM_peopleOf m)
        · simp (disch := omega) only [Bool.false_eq_true, lits, jj, jc, jm, Int.cast_ofNat_Int, j_bi0, j_bi1, not_true, not_false_eq_true, if_true, if_false, xe, xok_some, Sum.elim_inl, Sum.elim_inr, Int.reduceEq, Int.reduceLT, Int.reduceLE, Int.reduceAdd, Int.reduceSub, Int.reduceMul, f3, eq_true c1, f7, f8, c3]
        · simp (disch := omega) only [Bool.false_eq_true, lits, jj, jc, jm, Int.cast_ofNat_Int, j_bi0, j_bi1, not_true, not_false_eq_true, if_true, if_false, xe, xok_some, Sum.elim_inl, Sum.elim_inr, Int.reduceEq, Int.reduceLT, Int.reduceLE, Int.reduceAdd, Int.reduceSub, Int.reduceMul, f3, eq_true c1, f7, f8, c3, f4, eq_false c2]
  · rw [if_neg c1] at f1
    refine no ?_ ?_
    · unfold fX11_rest
      simp (disch := omega) only [Bool.false_eq_true, lits, jj, jc, jm, Int.cast_ofNat_Int, j_bi0, j_bi1, not_true, not_false_eq_true, if_true, if_false, xe, xok_some, Sum.elim_inl, Sum.elim_inr, Int.reduceEq, Int.reduceLT, Int.reduceLE, Int.reduceAdd, Int.reduceSub, Int.reduceMul, f1]
    · unfold fX12_rest
      simp (disch := omega) only [Bool.false_eq_true, lits, jj, jc, jm, Int.cast_ofNat_Int, j_bi0, j_bi1, not_true, not_false_eq_true, if_true, if_false, xe, xok_some, Sum.elim_inl, Sum.elim_inr, Int.reduceEq, Int.reduceLT, Int.reduceLE, Int.reduceAdd, Int.reduceSub, Int.reduceMul, f3, eq_false c1]
