/-! what holds between two calls -/
def Jx (μ : xm) (R : xr) (n : Nat) : Prop := ∃ A V, RH A μ ∧ CH A μ R n ∧ Inv A ∧ Law V μ R
theorem Jx_st {V : Int → (Nat → Int) → Int} {μ μ' : xm} {R : xr} {n : Nat} (hL : Law V μ R) (h : xStp μ R n μ') : Jx μ' R n := by
  obtain ⟨k, A, hA, hC, hI⟩ := h
  exact ⟨A, V, hA, hC, hI, hL.keep k rfl⟩
theorem Jx_F : ∀ μ R n, Jx μ R n → xFin R n ∧ ∃ k, n = 107 + 2 * k := fun μ R n ⟨A, V, hA, hC, hI, hL⟩ => ⟨hC.fin, _, hC.n⟩
theorem lwS_J (h5 : lwS_5 Jx) : lwS Jx := by
  refine ⟨?_, ?_, ?_, ?_, ?_, h5, ?_, ?_, ?_, ?_, ?_, ?_, ?_, ?_, ?_, ?_, ?_, ?_, ?_, ?_, ?_, ?_, ?_, ?_, ?_, ?_, ?_, ?_, ?_, ?_, ?_, ?_, ?_, ?_, ?_⟩
  · intro μ R n a1 ⟨A, V, hA, hC, hI, hL⟩
    obtain ⟨q, h1, q2, h2, h3, h4⟩ := s_now hA hC hI a1
    exact ⟨q, h1, q2, h2, h3, Jx_st hL h4⟩
  · intro μ R n a1 a2 a3 ⟨A, V, hA, hC, hI, hL⟩
    obtain ⟨q, h1, q2, h2, h3, h4⟩ := s_worth hA hC hI a1 a2 a3
    exact ⟨q, h1, q2, h2, h3, Jx_st hL h4⟩
  · intro μ R n a1 a2 a3 ⟨A, V, hA, hC, hI, hL⟩
    obtain ⟨q, h1, q2, h2, h3, h4, h5, A', h6, h7, h8⟩ := s_meeting hA hC hI a1 a2 a3
    exact ⟨q, h1, q2, h2, h3, A', V, h6, h7, h8, hL.keep h4 h5⟩
  · intro μ R n a1 a2 a3 ⟨A, V, hA, hC, hI, hL⟩
    obtain ⟨q, h1, q2, h2, h3, h4⟩ := s_came hA hC hI a1 a2 a3
    exact ⟨q, h1, q2, h2, h3, Jx_st hL h4⟩
  · intro μ R n a1 a2 a3 a4 a5 ⟨A, V, hA, hC, hI, hL⟩
    obtain ⟨q, h1, q2, h2, h3, h4⟩ := s_feed hA hC hI a1 a2 a3 a4 a5
    exact ⟨q, h1, q2, h2, h3, Jx_st hL h4⟩
  · intro μ R n a1 hJ
    obtain ⟨A, V, hA, hC, hI, hL⟩ := id hJ
    obtain ⟨q, h1, h2⟩ := s_begins hA hC hI a1
    exact ⟨q, h1, q, h2, rfl, hJ⟩
  · intro μ R n a1 a2 a3 hJ
    obtain ⟨A, V, hA, hC, hI, hL⟩ := id hJ
    obtain ⟨q, h1, h2⟩ := s_keeps hA hC hI a1 a2 a3
    exact ⟨q, h1, q, h2, rfl, hJ⟩
  · intro μ R n a1 a2 a3 hJ
    obtain ⟨A, V, hA, hC, hI, hL⟩ := id hJ
    obtain ⟨q, h1, h2⟩ := s_kept hA hC hI a1 a2 a3
    exact ⟨q, h1, q, h2, rfl, hJ⟩
  · intro μ R n a1 a2 a3 a4 ⟨A, V, hA, hC, hI, hL⟩
    obtain ⟨q, h1, q2, h2, h3, h4⟩ := s_owes hL hA hC hI a1 a2 a3 a4
    exact ⟨q, h1, q2, h2, h3, Jx_st hL h4⟩
  · intro μ R n a1 a2 a3 a4 ⟨A, V, hA, hC, hI, hL⟩
    obtain ⟨q, h1, q2, h2, h3, h4⟩ := s_chain hL hA hC hI a1 a2 a3 a4
    exact ⟨q, h1, q2, h2, h3, Jx_st hL h4⟩
  · intro μ R n a1 ⟨A, V, hA, hC, hI, hL⟩
    obtain ⟨q, h1, q2, h2, h3, h4⟩ := s_settle hL hA hC hI a1
    exact ⟨q, h1, q2, h2, h3, Jx_st hL h4⟩
  · intro μ R n a1 a2 hJ
    obtain ⟨A, V, hA, hC, hI, hL⟩ := id hJ
    obtain ⟨q, h1, h2⟩ := s_noteIs hA hC hI a1 a2
    exact ⟨q, h1, q, h2, rfl, hJ⟩
  · intro μ R n a1 a2 ⟨A, V, hA, hC, hI, hL⟩
    obtain ⟨q, h1, q2, h2, h3, h4⟩ := s_hand hA hC hI a1 a2
    exact ⟨q, h1, q2, h2, h3, Jx_st hL h4⟩
  · intro μ R n a1 a2 ⟨A, V, hA, hC, hI, hL⟩
    obtain ⟨q, h1, q2, h2, h3, h4⟩ := s_cut hA hC hI a1 a2
    exact ⟨q, h1, q2, h2, h3, Jx_st hL h4⟩
  · intro μ R n a1 a2 a3 ⟨A, V, hA, hC, hI, hL⟩
    obtain ⟨q, h1, q2, h2, h3, h4⟩ := s_take hA hC hI a1 a2 a3
    exact ⟨q, h1, q2, h2, h3, Jx_st hL h4⟩
  · intro μ R n a1 a2 hJ
    obtain ⟨A, V, hA, hC, hI, hL⟩ := id hJ
    obtain ⟨q, h1, h2⟩ := s_owed hA hC hI a1 a2
    exact ⟨q, h1, q, h2, rfl, hJ⟩
  · intro μ R n a1 a2 ⟨A, V, hA, hC, hI, hL⟩
    obtain ⟨q, h1, q2, h2, h3, h4⟩ := s_called hA hC hI a1 a2
    exact ⟨q, h1, q2, h2, h3, Jx_st hL h4⟩
  · intro μ R n ⟨A, V, hA, hC, hI, hL⟩
    obtain ⟨q, h1, q2, h2, h3, h4⟩ := s_round hA hC hI
    exact ⟨q, h1, q2, h2, h3, Jx_st hL h4⟩
  · intro μ R n ⟨A, V, hA, hC, hI, hL⟩
    obtain ⟨q, h1, q2, h2, h3, h4⟩ := s_takings hA hC hI
    exact ⟨q, h1, q2, h2, h3, Jx_st hL h4⟩
  · intro μ R n a1 a2 a3 ⟨A, V, hA, hC, hI, hL⟩
    obtain ⟨q, h1, q2, h2, h3, h4⟩ := s_end hA hC hI a1 a2 a3
    exact ⟨q, h1, q2, h2, h3, Jx_st hL h4⟩
  · intro μ R n a1 a2 a3 ⟨A, V, hA, hC, hI, hL⟩
    obtain ⟨q, h1, q2, h2, h3, h4⟩ := s_bridge hA hC hI a1 a2 a3
    exact ⟨q, h1, q2, h2, h3, Jx_st hL h4⟩
  · intro μ R n a1 a2 ⟨A, V, hA, hC, hI, hL⟩
    obtain ⟨q, h1, q2, h2, h3, h4⟩ := s_crosses hA hC hI a1 a2
    exact ⟨q, h1, q2, h2, h3, Jx_st hL h4⟩
  · intro μ R n a1 a2 a3 hJ
    obtain ⟨A, V, hA, hC, hI, hL⟩ := id hJ
    obtain ⟨q, h1, h2⟩ := s_lateIf hA hC hI a1 a2 a3
    exact ⟨q, h1, q, h2, rfl, hJ⟩
  · intro μ R n a1 a2 a3 ⟨A, V, hA, hC, hI, hL⟩
    obtain ⟨q, h1, q2, h2, h3, h4⟩ := s_hang hA hC hI a1 a2 a3
    exact ⟨q, h1, q2, h2, h3, Jx_st hL h4⟩
  · intro μ R n a1 a2 a3 a4 hJ
    obtain ⟨A, V, hA, hC, hI, hL⟩ := id hJ
    obtain ⟨q, h1, h2⟩ := s_cost hA hC hI a1 a2 a3 a4
    exact ⟨q, h1, q, h2, rfl, hJ⟩
  · intro μ R n a1 a2 a3 hJ
    obtain ⟨A, V, hA, hC, hI, hL⟩ := id hJ
    obtain ⟨q, h1, h2⟩ := s_out hA hC hI a1 a2 a3
    exact ⟨q, h1, q, h2, rfl, hJ⟩
  · intro μ R n a1 a2 a3 a4 a5 a6 hJ
    obtain ⟨A, V, hA, hC, hI, hL⟩ := id hJ
    obtain ⟨q, h1, h2⟩ := s_two hA hC hI a1 a2 a3 a4 a5 a6
    exact ⟨q, h1, q, h2, rfl, hJ⟩
  · intro μ R n a1 a2 a3 a4 a5 hJ
    obtain ⟨A, V, hA, hC, hI, hL⟩ := id hJ
    obtain ⟨q, h1, h2⟩ := s_outTwo hA hC hI a1 a2 a3 a4 a5
    exact ⟨q, h1, q, h2, rfl, hJ⟩
  · intro μ R n a1 a2 a3 ⟨A, V, hA, hC, hI, hL⟩
    obtain ⟨q, h1, q2, h2, h3, h4, h5, h6, h7⟩ := s_rest hA hC hI a1 a2 a3
    exact ⟨q, h1, q2, h2, h3, A, V, h6, h7, hI, hL.keep h4 h5⟩
  · intro μ R n hJ
    obtain ⟨A, V, hA, hC, hI, hL⟩ := id hJ
    obtain ⟨q, h1, h2⟩ := s_lost hA hC hI
    exact ⟨q, h1, q, h2, rfl, hJ⟩
  · intro μ R n a1 ⟨A, V, hA, hC, hI, hL⟩
    obtain ⟨q, h1, q2, h2, h3, h4⟩ := s_seed hA hC hI a1
    exact ⟨q, h1, q2, h2, h3, Jx_st hL h4⟩
  · intro μ R n a1 a2 ⟨A, V, hA, hC, hI, hL⟩
    obtain ⟨q, h1, q2, h2, h3, h4⟩ := s_draw hA hC hI a1 a2
    exact ⟨q, h1, q2, h2, h3, Jx_st hL h4⟩
  · intro μ R n a1 ⟨A, V, hA, hC, hI, hL⟩
    obtain ⟨q, h1, q2, h2, h3, h4⟩ := s_check hA hC hI a1
    exact ⟨q, h1, q2, h2, h3, Jx_st hL h4⟩
  · intro μ R n a1 hJ
    obtain ⟨A, V, hA, hC, hI, hL⟩ := id hJ
    have hcl : fX1_clauses μ R = some (j32 (A iM 20)) := by
      obtain ⟨⟨o, o1, o2, o3, o4⟩, _⟩ := hL
      have e : gi μ iM 20 = A iM 20 := (RH.sc hA).2.2.2.2.2.1
      unfold fX1_clauses fX0_length
      rw [o1, xbd_e, xbd_e, j_rd]
      show some (j32 (gi μ o 6)) = _
      rw [o3, e]
    obtain ⟨q, h1, h2⟩ := s_count hA hC hI hcl a1
    exact ⟨q, h1, q, h2, rfl, hJ⟩
theorem all_of {n : Nat} {f : Nat → Bool} (h : ((List.range n).all f) = true) {z : Int} (h1 : 0 ≤ z) (h2 : z < n) : ∃ k : Nat, z = k ∧ f k = true := by
  obtain ⟨k, rfl⟩ := nat_of h1
  exact ⟨k, rfl, List.all_eq_true.mp h k (List.mem_range.mpr (by omega))⟩
theorem start_fin : xFin Q0.2 107 := by
  refine ⟨Nat.le_refl _, fun q hq => ?_, fun k hk => by omega, fun q hq a ha => ?_, fun i a ha => ?_⟩
  · have := List.all_eq_true.mp q0_f q hq
    exact eq_of_beq this
  · obtain ⟨r1, r2, r3, r4⟩ := q0_R
    simp only [xdynl, List.mem_cons, List.not_mem_nil, or_false] at hq
    rcases hq with rfl | rfl | rfl | rfl
    · have e : a = 5 := Option.some.inj (ha.symm.trans r3)
      exact ⟨Or.inl e, Nat.le_refl _⟩
    · have e : a = 12 := Option.some.inj (ha.symm.trans r4)
      exact ⟨Or.inr e, Nat.le_refl _⟩
    · have e : a = 52 := Option.some.inj (ha.symm.trans r1)
      exact ⟨Or.inl e, Nat.le_refl _⟩
    · have e : a = 55 := Option.some.inj (ha.symm.trans r2)
      exact ⟨Or.inr (Or.inl e), Nat.le_refl _⟩
  · rw [q0_24R i] at ha; cases ha
theorem st_192 {z : Int} (h1 : 0 ≤ z) (h2 : z < 192) : A0 iC_people_worths z = 1 ∧ A0 iM_worthOf z = 1 ∧ A0 iC_people_given z = 0 ∧ A0 iM_gaveIn z = 0 ∧ A0 iC_people_taken z = 0 ∧ A0 iM_tookIn z = 0 := by
  obtain ⟨k, rfl, h⟩ := all_of q0_192 h1 h2
  simp only [Bool.and_eq_true, beq_iff_eq] at h
  exact ⟨h.1.1.1.1.1, h.1.1.1.1.2, h.1.1.1.2, h.1.1.2, h.1.2, h.2⟩
theorem st_400 {z : Int} (h1 : 0 ≤ z) (h2 : z < 400) : A0 iC_tape_bytes z = 0 ∧ A0 iM_tape z = 0 := by
  obtain ⟨k, rfl, h⟩ := all_of q0_400 h1 h2
  simp only [Bool.and_eq_true, beq_iff_eq] at h
  exact h
theorem st_8 {z : Int} (h1 : 0 ≤ z) (h2 : z < 8) : A0 iC_ways_told z = 0 ∧ A0 iM_endMany z = 0 ∧ A0 iC_ways_minutes (5 * z) = 0 ∧ A0 iC_ways_weights (5 * z) = 1 ∧ A0 iC_ways_allWeights z = 1 ∧ A0 iC_ways_crossing z = 0 := by
  obtain ⟨k, rfl, h⟩ := all_of q0_8 h1 h2
  simp only [Bool.and_eq_true, beq_iff_eq] at h
  exact ⟨h.1.1.1.1.1, h.1.1.1.1.2, h.1.1.1.2, h.1.1.2, h.1.2, h.2⟩
theorem st_24 {z : Int} (h1 : 0 ≤ z) (h2 : z < 24) : A0 iM_isSettled z = 0 := by
  obtain ⟨k, rfl, h⟩ := all_of q0_24 h1 h2
  exact eq_of_beq h
theorem start_Inv : Inv A0 := by
  obtain ⟨s0, s1, s2, s3, s11, s20, s37, s53, s54, s55, s56⟩ := q0_s
  refine ⟨by omega, by omega, by omega, by omega, by omega, by omega, by omega, fun z a b => ?_, fun m a b => by omega, fun m a b => by omega, fun m a b => by omega, fun m p a b => by omega, fun m a b => by omega, fun m p a b => by omega, fun z a b => ?_, fun i a b => by omega, fun i a b => by omega, fun i a b => by omega, fun i a b => by omega, fun i a b => by omega, fun i a b => by omega, fun z a b => ?_, fun z a b => ?_, fun p a b => ?_, fun p e a b c d => ?_, fun p e a b c d => ?_, by omega, fun m a b => st_24 (by omega) b⟩
  · have := st_192 a b; omega
  · have := st_400 a b; omega
  · have := st_192 a b; omega
  · have := st_192 a b; omega
  · have := st_8 a b; omega
  · have := st_8 a b; omega
  · have := st_8 a b; omega
theorem start_CH : CH A0 Q0.1 Q0.2 107 := by
  obtain ⟨s0, s1, s2, s3, s11, s20, s37, s53, s54, s55, s56⟩ := q0_s
  obtain ⟨c1, c2, c3, c4, c5, c6, c7, c8, c9, c10⟩ := q0_c
  obtain ⟨r1, r2, r3, r4⟩ := q0_R
  have en : ∀ p, 0 ≤ p → p < 8 → wEnds A0 p = 1 := fun p a b => by unfold wEnds; rw [if_pos (st_8 a b).2.1]
  have ew : ∀ p e, 0 ≤ p → p < 8 → wWt A0 p e = 1 := fun p e a b => by unfold wWt; rw [if_pos (st_8 a b).2.1]
  refine ⟨start_fin, by rw [s1]; rfl, c1.trans s0.symm, c2.trans s11.symm, fun z a b => (st_400 a b).1.trans (st_400 a b).2.symm, fun z a b => (st_192 a b).1.trans (st_192 a b).2.1.symm, fun z a b => (st_192 a b).2.2.1.trans (st_192 a b).2.2.2.1.symm, fun z a b => (st_192 a b).2.2.2.2.1.trans (st_192 a b).2.2.2.2.2.symm, c3.trans s1.symm, fun m a b => by omega, fun m a b => by omega, fun m a b => by omega, fun m a b => by omega, fun m a b => by omega, fun m p a b => by omega, c4.trans s37.symm, fun i a b => by omega, fun i a b => by omega, fun i a b => by omega, fun i a b => by omega, fun i a b => by omega, fun p a b => (st_8 a b).1.trans (st_8 a b).2.1.symm, fun p e a b c d => ?_, fun p e a b c d => ?_, fun p a b => ?_, fun p a b => ?_, c5.trans s53.symm, c6.trans s54.symm, c7.trans s55.symm, c8.trans s2.symm, c9, ?_, ?_, ⟨?_, ?_, ⟨52, r1⟩, 55, r2⟩, ⟨⟨5, r3⟩, 12, r4⟩, ?_⟩
  · rw [en p a b] at d
    rw [show e = 0 by omega, Int.add_zero]
    show A0 iC_ways_minutes (5 * p) = _
    unfold wMin
    rw [if_pos (st_8 a b).2.1]
    exact (st_8 a b).2.2.1
  · rw [en p a b] at d
    rw [show e = 0 by omega, Int.add_zero, ew p 0 a b]
    exact (st_8 a b).2.2.2.1
  · unfold wAll
    rw [en p a b]
    show A0 iC_ways_allWeights p = 0 + wWt A0 p ((0 : Nat) : Int)
    rw [ew p _ a b]
    exact (st_8 a b).2.2.2.2.1
  · rw [s56]
    show A0 iC_ways_crossing p = _
    rw [(st_8 a b).2.2.2.2.2]
    unfold bitI
    rw [Int.zero_ediv]; rfl
  · rw [r1, r2]; decide
  · rw [r3, r4]; decide
  · rw [r1]; decide
  · rw [r2]; decide
  · rw [s3, s1]; rfl
theorem start_Law : Law (fun _ _ => 0) Q0.1 Q0.2 := by
  obtain ⟨s0, s1, s2, s3, s11, s20, s37, s53, s54, s55, s56⟩ := q0_s
  obtain ⟨c1, c2, c3, c4, c5, c6, c7, c8, c9, c10⟩ := q0_c
  obtain ⟨r1, r2, r3, r4⟩ := q0_R
  refine ⟨⟨5, r3, Or.inl rfl, c10.trans s20.symm, fun μ' F h1 h2 L b hl => ?_⟩, fun μ' F h1 h2 h3 L b hl => ?_, fun L b F hl => ?_⟩
  · have e : gi μ' 5 6 = 0 := by rw [h1 5 (by omega) (by omega)]; exact c10
    refine ⟨μ', ?_, rfl⟩
    unfold fX0_amount
    have lp : xloop xfu (fun v => fX0_amount_b3 v.1 v.2 5 (j32 L) (j32 b) iC_meetings_facts) (j32 0, μ') = some (.inl μ') := by
      refine xloop_for (fun _ => (j32 0, μ')) 0 (by omega) rfl (fun k hk => by omega) ?_
      show fX0_amount_b3 (j32 0) μ' 5 _ _ _ = _
      unfold fX0_amount_b3
      simp (disch := omega) only [Bool.false_eq_true, lits, jj, jc, jm, Int.cast_ofNat_Int, j_bi0, j_bi1, not_true, not_false_eq_true, if_true, if_false, xe, xok_some, Sum.elim_inl, Sum.elim_inr, Int.reduceEq, Int.reduceLT, Int.reduceLE, Int.reduceAdd, Int.reduceSub, Int.reduceMul, e]
    simp only [lits]
    rw [lp, xbd_e, xsm_e0]
  · have e : gi μ' iM 20 = 0 := by rw [h2]; exact s20
    refine ⟨μ', ?_, fun _ _ => rfl⟩
    unfold fX12_byLaw
    have lp : xloop xfu (fun v => fX12_byLaw_b2 v.1 v.2 (j32 L) (j32 b)) (j32 0, μ') = some (.inl μ') := by
      refine xloop_for (fun _ => (j32 0, μ')) 0 (by omega) rfl (fun k hk => by omega) ?_
      show fX12_byLaw_b2 (j32 0) μ' _ _ = _
      unfold fX12_byLaw_b2
      simp (disch := omega) only [Bool.false_eq_true, lits, jj, jc, jm, Int.cast_ofNat_Int, j_bi0, j_bi1, not_true, not_false_eq_true, if_true, if_false, xe, xok_some, Sum.elim_inl, Sum.elim_inr, Int.reduceEq, Int.reduceLT, Int.reduceLE, Int.reduceAdd, Int.reduceSub, Int.reduceMul, e]
    simp only [lits]
    rw [lp, xbd_e, xsm_e0]
  · show (0 : Int) ≤ 0 ∧ (0 : Int) ≤ b
    rcases hl with h | h | h <;> omega
theorem start_J : ∃ q, xq0 = some q ∧ Jx q.1 q.2 107 := ⟨Q0, Q0_eq, A0, fun _ _ => 0, ⟨rfl, rfl, rfl, rfl, rfl, rfl, rfl, rfl, rfl, rfl, rfl, rfl, rfl, rfl, rfl, rfl, rfl, rfl, rfl, rfl, rfl, rfl, rfl, rfl, rfl, rfl, rfl, rfl⟩, start_CH, start_Inv, start_Law⟩
