/-! meeting -/
theorem gi_z0 {μ : xm} {o a : Nat} {z : Int} : gi (xz0I μ o) a z = if a = o then 0 else gi μ a z := by
  unfold gi xz0I
  dsimp only
  by_cases e : a = o
  · rw [if_pos e, if_pos e]; rfl
  · rw [if_neg e, if_neg e]
theorem gi_z0J {μ : xm} {o a : Nat} {z : Int} : gi (xz0J μ o) a z = gi μ a z := rfl
theorem j_sR {R : xr} {o len : Nat} {z : Int} {x : Nat} (h : 0 ≤ z ∧ z < len ∧ len ≤ 2147483647) : xsR R o len (j32 z) x = some (xup R o z.toNat (some x)) := by
  unfold xsR
  rw [if_pos (j_in h), j_nat h.1 (by omega)]
/-- the class makes a meeting -/
theorem eX3_add {A : xAs} {μ : xm} {R : xr} {n : Nat} (hC : CH A μ R n) (hI : Inv A) {d m P : Int} (hd : 0 ≤ d ∧ d ≤ 99) (hm : 0 ≤ m ∧ m ≤ 1439) (hP : 0 ≤ P ∧ P < 256) (hk : A iM 1 < 24) : ∃ μ1 R1, fX3_add (j32 d) (j32 m) (j32 P) μ R n = some (j32 (A iM 1), μ1, R1, n + 2) ∧ (∀ o, o < n → o ≠ iC_meetings → gi μ1 o = gi μ o) ∧ (∀ z, 0 ≤ z → z ≠ 5 → gi μ1 iC_meetings z = gi μ iC_meetings z) ∧ gi μ1 iC_meetings 5 = A iM 1 + 1 ∧ gi μ1 n 0 = d ∧ gi μ1 n 1 = m ∧ gi μ1 n 2 = P ∧ gi μ1 n 4 = 0 ∧ (∀ z, 0 ≤ z → z < 8 → gi μ1 (n + 1) z = -1) ∧ xFin R1 (n + 2) ∧ (∀ a j, a < n → ¬ (a = iC_meetings_list ∧ j = (A iM 1).toNat) → R1 a j = R a j) ∧ R1 iC_meetings_list (A iM 1).toNat = some n := by
  have h1 := hI.mt
  have hn := hC.n
  have hk2 : ∃ k, n = 107 + 2 * k := ⟨_, hn⟩
  have e0 := hC.mt
  have hxk : (xkd (n + 1)).2 = 8 := by rw [xkd_m1 hk2]
  obtain ⟨μa, hμa⟩ : ∃ x, wr (wr (wr (xz0I (xz0I (xz0J μ n) n) (n + 1)) n 0 d) n 1 m) n 2 P = x := ⟨_, rfl⟩
  obtain ⟨μb, hμb⟩ : ∃ x, fw μa (n + 1) (-1) 8 = x := ⟨_, rfl⟩
  have f1 : fX2_init n (j32 d) (j32 m) (j32 P) (xz0I (xz0J μ n) n) (xz0R R n) = some (μb, xup (xz0R R n) n 3 (some (n + 1))) := by
    unfold fX2_init
    simp only [lits, jj]
    simp (disch := omega) only [Bool.false_eq_true, lits, jj, jc, jm, Int.cast_ofNat_Int, j_bi0, j_bi1, not_true, not_false_eq_true, if_true, if_false, xe, xok_some, Sum.elim_inl, Sum.elim_inr, Int.reduceEq, Int.reduceLT, Int.reduceLE, Int.reduceAdd, Int.reduceSub, Int.reduceMul, hμa, eJ7_fill hxk (by omega), hμb]
  have g0 : ∀ o, o < n → gi μb o = gi μ o := by
    intro o ho
    rw [← hμb, fw_o (by omega), ← hμa, gi_wr_f (by omega), gi_wr_f (by omega), gi_wr_f (by omega)]
    funext z
    rw [gi_z0, if_neg (by omega), gi_z0, if_neg (by omega), gi_z0J]
  have hi := keep_X2_init f1
  have hF := hC.fin
  have hF1 : xFin (xup (xz0R R n) n 3 (some (n + 1))) (n + 2) := xFin_grow hF hk2 (fun a ha => by rw [xup_ne (Nat.ne_of_lt ha), xz0R_ne (Nat.ne_of_lt ha)]) xup_self
  have hx : xIs 2 n (n + 2) := by obtain ⟨k, rfl⟩ := hk2; exact ⟨k, rfl, Nat.le_refl _⟩
  have e1 : gi μb iC_meetings 5 = A iM 1 := by rw [g0 iC_meetings (by show 23 < n; omega)]; exact e0
  refine ⟨wr μb iC_meetings 5 (A iM 1 + 1), xup (xup (xz0R R n) n 3 (some (n + 1))) iC_meetings_list (A iM 1).toNat (some n), ?_, ?_, ?_, ?_, ?_, ?_, ?_, ?_, ?_, ?_, ?_, ?_⟩
  · unfold fX3_add
    simp (disch := omega) only [Bool.false_eq_true, lits, jj, jc, jm, Int.cast_ofNat_Int, j_bi0, j_bi1, not_true, not_false_eq_true, if_true, if_false, xe, xok_some, Sum.elim_inl, Sum.elim_inr, Int.reduceEq, Int.reduceLT, Int.reduceLE, Int.reduceAdd, Int.reduceSub, Int.reduceMul, e0, show ¬ A iM 1 < 0 by omega, hk, f1, j_sR, e1]
    rw [gi_wr (by omega), show A iM 1 + 1 - 1 = A iM 1 by omega]
  · intro o ho h2; rw [gi_wr_f h2, g0 o ho]
  · intro z hz h2; rw [gi_wr_z (by omega), g0 iC_meetings (by show 23 < n; omega)]
  · exact gi_wr (by omega)
  · rw [gi_wr_o (by show n ≠ 23; omega), ← hμb, fw_o (by omega), ← hμa, gi_wr_z (by omega), gi_wr_z (by omega), gi_wr (by omega)]
  · rw [gi_wr_o (by show n ≠ 23; omega), ← hμb, fw_o (by omega), ← hμa, gi_wr_z (by omega), gi_wr (by omega)]
  · rw [gi_wr_o (by show n ≠ 23; omega), ← hμb, fw_o (by omega), ← hμa, gi_wr (by omega)]
  · rw [gi_wr_o (by show n ≠ 23; omega), ← hμb, fw_o (by omega), ← hμa, gi_wr_z (by omega), gi_wr_z (by omega), gi_wr_z (by omega), gi_z0, if_neg (by omega), gi_z0, if_pos rfl]
  · intro z hz hz2
    rw [gi_wr_o (by show n + 1 ≠ 23; omega), ← hμb, fw_in (by omega) 8 z hz (by omega)]
  · exact xFin_list hF1 hx
  · intro a j ha hne
    rw [xup_lo (by by_cases e : a = iC_meetings_list; exact Or.inr (fun q => hne ⟨e, q⟩); exact Or.inl e), xup_ne (Nat.ne_of_lt ha), xz0R_ne (Nat.ne_of_lt ha)]
  · exact xup_self
theorem meet_CH {A A' : xAs} {μ μ1 : xm} {R R1 : xr} {n : Nat} (hC : CH A μ R n) (hI : Inv A) {d m P : Int} (g1 : ∀ o, o < n → o < 61 → o ≠ iC_meetings → gi μ1 o = gi μ o) (g1' : ∀ o, 107 ≤ o → o < n → gi μ1 o = gi μ o) (g2 : gi μ1 iC_meetings 5 = A iM 1 + 1) (q0 : gi μ1 n 0 = d) (q1 : gi μ1 n 1 = m) (q2 : gi μ1 n 2 = P) (q4 : gi μ1 n 4 = 0) (qc : ∀ z, 0 ≤ z → z < 8 → gi μ1 (n + 1) z = -1) (hF : xFin R1 (n + 2)) (r1 : ∀ a j, a < n → ¬ (a = iC_meetings_list ∧ j = (A iM 1).toNat) → R1 a j = R a j) (r2 : R1 iC_meetings_list (A iM 1).toNat = some n)
    (hA : ∀ o, o ≠ iM_dayOf → o ≠ iM_minuteOf → o ≠ iM_peopleOf → o ≠ iM_cameAt → o ≠ iM → A' o = A o) (hAs : ∀ k, 0 ≤ k → k ≠ 1 → A' iM k = A iM k) (a1 : A' iM 1 = A iM 1 + 1) (a2 : ∀ q, 0 ≤ q → A' iM_dayOf q = if q = A iM 1 then d else A iM_dayOf q) (a3 : ∀ q, 0 ≤ q → A' iM_minuteOf q = if q = A iM 1 then m else A iM_minuteOf q) (a4 : ∀ q, 0 ≤ q → A' iM_peopleOf q = if q = A iM 1 then P else A iM_peopleOf q) (a5 : ∀ q p, 0 ≤ q → 0 ≤ p → p < 8 → A' iM_cameAt (8 * q + p) = if q = A iM 1 then -1 else A iM_cameAt (8 * q + p)) (hk : A iM 1 < 24) : CH A' μ1 R1 (n + 2) := by
  have h1 := hI.mt
  have hn := hC.n
  have hoM : oM (A iM 1) = n := by unfold oM; omega
  have hlt : ∀ q, 0 ≤ q → q < A iM 1 → oM q + 1 < n := fun q h2 h3 => by unfold oM; omega
  have wE : wEnds A' = wEnds A := by funext p; unfold wEnds; rw [hA iM_endMany (by decide) (by decide) (by decide) (by decide) (by decide)]
  have wW : wWt A' = wWt A := by funext p e; unfold wWt; rw [hA iM_endMany (by decide) (by decide) (by decide) (by decide) (by decide), hA iM_endWeight (by decide) (by decide) (by decide) (by decide) (by decide)]
  have wL : wAll A' = wAll A := by funext p; unfold wAll; rw [wW, wE]
  have wM : wMin A' = wMin A := by funext p e; unfold wMin; rw [hA iM_endMany (by decide) (by decide) (by decide) (by decide) (by decide), hA iM_endMinutes (by decide) (by decide) (by decide) (by decide) (by decide)]
  have sS : ∀ q, A' iM_isSettled q = A iM_isSettled q := fun q => by rw [hA iM_isSettled (by decide) (by decide) (by decide) (by decide) (by decide)]
  exact ⟨hF,
    (by rw [a1]; omega),
    (by have h := hC.now; simp only [g1 iC (by unfold iC; omega) (by decide) (by decide), hAs 0 (by decide) (by decide)]; exact h),
    (by have h := hC.taped; simp only [g1 iC_tape (by unfold iC_tape; omega) (by decide) (by decide), hAs 11 (by decide) (by decide)]; exact h),
    (by have h := hC.tape; simp only [g1 iC_tape_bytes (by unfold iC_tape_bytes; omega) (by decide) (by decide), hA iM_tape (by decide) (by decide) (by decide) (by decide) (by decide)]; exact h),
    (by have h := hC.worths; simp only [g1 iC_people_worths (by unfold iC_people_worths; omega) (by decide) (by decide), hA iM_worthOf (by decide) (by decide) (by decide) (by decide) (by decide)]; exact h),
    (by have h := hC.given; simp only [g1 iC_people_given (by unfold iC_people_given; omega) (by decide) (by decide), hA iM_gaveIn (by decide) (by decide) (by decide) (by decide) (by decide)]; exact h),
    (by have h := hC.taken; simp only [g1 iC_people_taken (by unfold iC_people_taken; omega) (by decide) (by decide), hA iM_tookIn (by decide) (by decide) (by decide) (by decide) (by decide)]; exact h),
    (by rw [g2, a1]),
    (fun q h2 h3 => by
    rw [a1] at h3
    by_cases e : q = A iM 1
    · rw [e, r2, hoM]
    · rw [r1 _ _ (by show 24 < n; omega) (fun h => e (by omega))]; exact hC.list q h2 (by omega)),
    (fun q h2 h3 => by
    rw [a1] at h3
    rw [a2 q h2]
    by_cases e : q = A iM 1
    · rw [if_pos e, e, hoM, q0]
    · rw [if_neg e, g1' _ (oM_hi q) (by have := hlt q h2 (by omega); omega)]; exact hC.day q h2 (by omega)),
    (fun q h2 h3 => by
    rw [a1] at h3
    rw [a3 q h2]
    by_cases e : q = A iM 1
    · rw [if_pos e, e, hoM, q1]
    · rw [if_neg e, g1' _ (oM_hi q) (by have := hlt q h2 (by omega); omega)]; exact hC.minute q h2 (by omega)),
    (fun q h2 h3 => by
    rw [a1] at h3
    rw [a4 q h2]
    by_cases e : q = A iM 1
    · rw [if_pos e, e, hoM, q2]
    · rw [if_neg e, g1' _ (oM_hi q) (by have := hlt q h2 (by omega); omega)]; exact hC.people q h2 (by omega)),
    (fun q h2 h3 => by
    rw [a1] at h3
    rw [sS]
    by_cases e : q = A iM 1
    · rw [e, hoM, q4, hI.fresh _ (Int.le_refl _) hk]
    · rw [g1' _ (oM_hi q) (by have := hlt q h2 (by omega); omega)]; exact hC.settled q h2 (by omega)),
    (fun q p h2 h3 h4 h5 => by
    rw [a1] at h3
    rw [a5 q p h2 h4 h5]
    by_cases e : q = A iM 1
    · rw [if_pos e, e, hoM]; exact qc p h4 h5
    · rw [if_neg e, g1' _ (oM1_hi q) (hlt q h2 (by omega))]; exact hC.came q p h2 (by omega) h4 h5),
    (by have h := hC.notes; simp only [g1 iC_notes (by unfold iC_notes; omega) (by decide) (by decide), hAs 37 (by decide) (by decide)]; exact h),
    (by have h := hC.owers; simp only [g1 iC_notes_owers (by unfold iC_notes_owers; omega) (by decide) (by decide), hAs 37 (by decide) (by decide), hA iM_owesIt (by decide) (by decide) (by decide) (by decide) (by decide)]; exact h),
    (by have h := hC.holders; simp only [g1 iC_notes_holders (by unfold iC_notes_holders; omega) (by decide) (by decide), hAs 37 (by decide) (by decide), hA iM_hasIt (by decide) (by decide) (by decide) (by decide) (by decide)]; exact h),
    (by have h := hC.minutes; simp only [g1 iC_notes_minutes (by unfold iC_notes_minutes; omega) (by decide) (by decide), hAs 37 (by decide) (by decide), hA iM_leftOf (by decide) (by decide) (by decide) (by decide) (by decide)]; exact h),
    (by have h := hC.made; simp only [g1 iC_notes_made (by unfold iC_notes_made; omega) (by decide) (by decide), hAs 37 (by decide) (by decide), hA iM_madeOn (by decide) (by decide) (by decide) (by decide) (by decide)]; exact h),
    (by have h := hC.lapses; simp only [g1 iC_notes_lapses (by unfold iC_notes_lapses; omega) (by decide) (by decide), hAs 37 (by decide) (by decide), hA iM_lapseOf (by decide) (by decide) (by decide) (by decide) (by decide)]; exact h),
    (by have h := hC.told; simp only [g1 iC_ways_told (by unfold iC_ways_told; omega) (by decide) (by decide), hA iM_endMany (by decide) (by decide) (by decide) (by decide) (by decide)]; exact h),
    (by have h := hC.wmin; simp only [g1 iC_ways_minutes (by unfold iC_ways_minutes; omega) (by decide) (by decide), wE, wM]; exact h),
    (by have h := hC.wwt; simp only [g1 iC_ways_weights (by unfold iC_ways_weights; omega) (by decide) (by decide), wE, wW]; exact h),
    (by have h := hC.wall; simp only [g1 iC_ways_allWeights (by unfold iC_ways_allWeights; omega) (by decide) (by decide), wL]; exact h),
    (by have h := hC.cross; simp only [g1 iC_ways_crossing (by unfold iC_ways_crossing; omega) (by decide) (by decide), hAs 56 (by decide) (by decide)]; exact h),
    (by have h := hC.shut; simp only [g1 iC_ways (by unfold iC_ways; omega) (by decide) (by decide), hAs 53 (by decide) (by decide)]; exact h),
    (by have h := hC.all; simp only [g1 iC_ways (by unfold iC_ways; omega) (by decide) (by decide), hAs 54 (by decide) (by decide)]; exact h),
    (by have h := hC.more; simp only [g1 iC_ways (by unfold iC_ways; omega) (by decide) (by decide), hAs 55 (by decide) (by decide)]; exact h),
    (by have h := hC.drawn; simp only [g1 iC_ways (by unfold iC_ways; omega) (by decide) (by decide), hAs 2 (by decide) (by decide)]; exact h),
    (by have h := hC.clear; simp only [g1 iC_striking_clear (by unfold iC_striking_clear; omega) (by decide) (by decide)]; exact h),
    (by have h := hC.rest; simp only [r1 iC_rest 4 (by unfold iC_rest; omega) (fun h => absurd h.1 (by decide)), r1 iC_rest 5 (by unfold iC_rest; omega) (fun h => absurd h.1 (by decide))]; exact h),
    (by have h := hC.reader; simp only [r1 iC_reader 1 (by unfold iC_reader; omega) (fun h => absurd h.1 (by decide)), r1 iC_reader 2 (by unfold iC_reader; omega) (fun h => absurd h.1 (by decide))]; exact h),
    (by have h := hC.lasts; simp only [r1 iC_rest 4 (by unfold iC_rest; omega) (fun h => absurd h.1 (by decide)), r1 iC_rest 5 (by unfold iC_rest; omega) (fun h => absurd h.1 (by decide))]; exact h),
    (by have h := hC.laws; simp only [r1 iC_reader 1 (by unfold iC_reader; omega) (fun h => absurd h.1 (by decide)), r1 iC_reader 2 (by unfold iC_reader; omega) (fun h => absurd h.1 (by decide))]; exact h),
    (by
    rw [hAs 3 (by decide) (by decide), a1, show (A iM 1 + 1).toNat = (A iM 1).toNat + 1 by omega, sumTo_s]
    rw [sumTo_c (g := fun m => A iM_isSettled m) (fun z h2 h3 => sS z), sS, hC.settledMany]
    have := hI.fresh (((A iM 1).toNat : Nat) : Int) (by omega) (by omega)
    omega)⟩
theorem Inv.u_meet {A A' : xAs} (hI : Inv A) (hA : ∀ o, o ≠ iM_dayOf → o ≠ iM_minuteOf → o ≠ iM_peopleOf → o ≠ iM_cameAt → o ≠ iM → A' o = A o) (hAs : ∀ k, 0 ≤ k → k ≠ 1 → A' iM k = A iM k) (h_mt : 0 ≤ A' iM 1 ∧ A' iM 1 ≤ 24) (h_dayOf : ∀ m, 0 ≤ m → m < A' iM 1 → 0 ≤ A' iM_dayOf m ∧ A' iM_dayOf m ≤ 99) (h_minuteOf : ∀ m, 0 ≤ m → m < A' iM 1 → 0 ≤ A' iM_minuteOf m ∧ A' iM_minuteOf m ≤ 1439) (h_peopleOf : ∀ m, 0 ≤ m → m < A' iM 1 → 0 ≤ A' iM_peopleOf m ∧ A' iM_peopleOf m < 256) (h_cameAt : ∀ m p, 0 ≤ m → m < A' iM 1 → 0 ≤ p → p < 8 → -1 ≤ A' iM_cameAt (8 * m + p) ∧ A' iM_cameAt (8 * m + p) ≤ 1439 ∧ (bitI (A' iM_peopleOf m) p ≠ 1 → A' iM_cameAt (8 * m + p) = -1)) (h_isSettled : ∀ m, 0 ≤ m → m < A' iM 1 → A' iM_isSettled m = 0 ∨ A' iM_isSettled m = 1) (h_settledCame : ∀ m p, 0 ≤ m → m < A' iM 1 → A' iM_isSettled m = 1 → inc (A' iM_peopleOf m) p → A' iM_cameAt (8 * m + p) ≠ -1) (h_fresh : ∀ m, A' iM 1 ≤ m → m < 24 → A' iM_isSettled m = 0) : Inv A' := by
  refine ⟨(by have h := hI.now; simp only [hAs 0 (by decide) (by decide)]; exact h), h_mt, (by have h := hI.x0; simp only [hAs 2 (by decide) (by decide)]; exact h), (by have h := hI.taped; simp only [hAs 11 (by decide) (by decide)]; exact h), (by have h := hI.notes; simp only [hAs 37 (by decide) (by decide)]; exact h), (by have h := hI.bridge; simp only [hAs 53 (by decide) (by decide), hAs 54 (by decide) (by decide), hAs 55 (by decide) (by decide)]; exact h), (by have h := hI.crossing; simp only [hAs 56 (by decide) (by decide)]; exact h), (by have h := hI.worthOf; simp only [hA iM_worthOf (by decide) (by decide) (by decide) (by decide) (by decide)]; exact h), h_dayOf, h_minuteOf, h_peopleOf, h_cameAt, h_isSettled, h_settledCame, (by have h := hI.tape; simp only [hA iM_tape (by decide) (by decide) (by decide) (by decide) (by decide)]; exact h), (by have h := hI.owesIt; simp only [hAs 37 (by decide) (by decide), hA iM_owesIt (by decide) (by decide) (by decide) (by decide) (by decide)]; exact h), (by have h := hI.hasIt; simp only [hA iM_hasIt (by decide) (by decide) (by decide) (by decide) (by decide), hAs 37 (by decide) (by decide)]; exact h), (by have h := hI.leftOf; simp only [hAs 37 (by decide) (by decide), hA iM_leftOf (by decide) (by decide) (by decide) (by decide) (by decide)]; exact h), (by have h := hI.madeOn; simp only [hAs 37 (by decide) (by decide), hA iM_madeOn (by decide) (by decide) (by decide) (by decide) (by decide)]; exact h), (by have h := hI.lapseOf; simp only [hAs 37 (by decide) (by decide), hA iM_lapseOf (by decide) (by decide) (by decide) (by decide) (by decide)]; exact h), (by have h := hI.own; simp only [hA iM_hasIt (by decide) (by decide) (by decide) (by decide) (by decide), hAs 37 (by decide) (by decide), hA iM_leftOf (by decide) (by decide) (by decide) (by decide) (by decide), hA iM_owesIt (by decide) (by decide) (by decide) (by decide) (by decide)]; exact h), (by have h := hI.tookIn; simp only [hA iM_tookIn (by decide) (by decide) (by decide) (by decide) (by decide)]; exact h), (by have h := hI.gaveIn; simp only [hA iM_gaveIn (by decide) (by decide) (by decide) (by decide) (by decide)]; exact h), (by have h := hI.endMany; simp only [hA iM_endMany (by decide) (by decide) (by decide) (by decide) (by decide)]; exact h), (by have h := hI.endMinutes; simp only [hA iM_endMany (by decide) (by decide) (by decide) (by decide) (by decide), hA iM_endMinutes (by decide) (by decide) (by decide) (by decide) (by decide)]; exact h), (by have h := hI.endWeight; simp only [hA iM_endMany (by decide) (by decide) (by decide) (by decide) (by decide), hA iM_endWeight (by decide) (by decide) (by decide) (by decide) (by decide)]; exact h), (by have h := hI.clauses; simp only [hAs 20 (by decide) (by decide)]; exact h), h_fresh⟩
/-- and the reference -/
def ms (μ : xm) (k : Int) : Nat → xm
  | 0 => μ
  | i + 1 => wr (ms μ k i) iM_cameAt (8 * k + i) (-1)
theorem ms_o {μ : xm} {k : Int} {o : Nat} (h : o ≠ iM_cameAt) : ∀ i, gi (ms μ k i) o = gi μ o
  | 0 => rfl
  | i + 1 => (gi_wr_f h).trans (ms_o h i)
theorem ms_in {μ : xm} {k : Int} (hk : 0 ≤ k) : ∀ (i : Nat) (z : Int), 0 ≤ z → gi (ms μ k i) iM_cameAt z = if 8 * k ≤ z ∧ z < 8 * k + i then -1 else gi μ iM_cameAt z
  | 0, z, h1 => by rw [if_neg (by omega)]; rfl
  | i + 1, z, h1 => by
    show gi (wr (ms μ k i) iM_cameAt (8 * k + i) (-1)) iM_cameAt z = _
    rw [gi_wr_if (by omega) (by omega), ms_in hk i z h1]
    by_cases e : z = 8 * k + i
    · rw [if_pos e, if_pos (by omega)]
    · rw [if_neg e]
      by_cases e2 : 8 * k ≤ z ∧ z < 8 * k + i
      · rw [if_pos e2, if_pos (by omega)]
      · rw [if_neg e2, if_neg (by omega)]
theorem s_meeting {A : xAs} {μ : xm} {R : xr} {n : Nat} (hA : RH A μ) (hC : CH A μ R n) (hI : Inv A) (a1 a2 a3 : Int32) : ∃ q, fX11_meeting a1 a2 a3 μ R n = some q ∧ ∃ q2, fX12_meeting a1 a2 a3 q.2.1 = some q2 ∧ q2.1 = q.1 ∧ LK μ q2.2 ∧ q.2.2.1 iC_reader 1 = R iC_reader 1 ∧ ∃ A', RH A' q2.2 ∧ CH A' q2.2 q.2.2.1 q.2.2.2 ∧ Inv A' := by
  obtain ⟨d, rfl, hd⟩ := j32_ex a1
  obtain ⟨m, rfl, hm⟩ := j32_ex a2
  obtain ⟨P, rfl, hP⟩ := j32_ex a3
  have h1 := hI.mt
  have hn := hC.n
  unfold fX11_meeting fX12_meeting
  simp only [lits]
  rw [eX11_within hd (by omega) (by omega), eX12_in hd (by omega) (by omega), eX11_within hm (by omega) (by omega), eX12_in hm (by omega) (by omega), eX11_within hP (by omega) (by omega), eX12_in hP (by omega) (by omega)]
  have rej : ∀ x : Option (Int32 × xm × xr × Nat), ∀ y : Option (Int32 × xm), x = some (j32 (-1), μ, R, n) → y = some (j32 (-1), μ) → x = some (j32 (-1), μ, R, n) ∧ y = some (j32 (-1), μ) := fun x y h2 h3 => ⟨h2, h3⟩
  by_cases c1 : 0 ≤ d ∧ d ≤ 99
  · by_cases c2 : 0 ≤ m ∧ m ≤ 1439
    · by_cases c3 : 0 ≤ P ∧ P ≤ 255
      · have hP2 : 0 ≤ P ∧ P < 256 := by omega
        have hb := pc_b P
        by_cases c4 : pc P < 2
        · refine ⟨(j32 (-1), μ, R, n), ?_, (j32 (-1), μ), ?_, rfl, LK.rf, rfl, A, hA, hC, hI⟩
          · by_cases c5 : 1 ≤ P ∧ P ≤ 255
            · simp (disch := omega) only [Bool.false_eq_true, lits, jj, jc, jm, Int.cast_ofNat_Int, j_bi0, j_bi1, not_true, not_false_eq_true, if_true, if_false, xe, xok_some, Sum.elim_inl, Sum.elim_inr, Int.reduceEq, Int.reduceLT, Int.reduceLE, Int.reduceAdd, Int.reduceSub, Int.reduceMul, eq_true c1, eq_true c2, eq_true c5, eJ6_bitCount hP2, show ¬ 2 ≤ pc P by omega]
            · simp (disch := omega) only [Bool.false_eq_true, lits, jj, jc, jm, Int.cast_ofNat_Int, j_bi0, j_bi1, not_true, not_false_eq_true, if_true, if_false, xe, xok_some, Sum.elim_inl, Sum.elim_inr, Int.reduceEq, Int.reduceLT, Int.reduceLE, Int.reduceAdd, Int.reduceSub, Int.reduceMul, eq_true c1, eq_true c2, eq_false c5]
          · simp (disch := omega) only [Bool.false_eq_true, lits, jj, jc, jm, Int.cast_ofNat_Int, j_bi0, j_bi1, not_true, not_false_eq_true, if_true, if_false, xe, xok_some, Sum.elim_inl, Sum.elim_inr, Int.reduceEq, Int.reduceLT, Int.reduceLE, Int.reduceAdd, Int.reduceSub, Int.reduceMul, eq_true c1, eq_true c2, eq_true c3, eX12_bits hP2, c4]
        · have c5 : 1 ≤ P ∧ P ≤ 255 := by
            refine ⟨Classical.byContradiction fun h => ?_, c3.2⟩
            have h0 : P = 0 := by omega
            rw [h0] at c4; exact c4 (by decide)
          by_cases c6 : A iM 1 = 24
          · refine ⟨(j32 (-1), μ, R, n), ?_, (j32 (-1), μ), ?_, rfl, LK.rf, rfl, A, hA, hC, hI⟩
            · simp (disch := omega) only [Bool.false_eq_true, lits, jj, jc, jm, Int.cast_ofNat_Int, j_bi0, j_bi1, not_true, not_false_eq_true, if_true, if_false, xe, xok_some, Sum.elim_inl, Sum.elim_inr, Int.reduceEq, Int.reduceLT, Int.reduceLE, Int.reduceAdd, Int.reduceSub, Int.reduceMul, eq_true c1, eq_true c2, eq_true c5, eJ6_bitCount hP2, show 2 ≤ pc P by omega, fX3_add, hC.mt, show ¬ A iM 1 < 0 by omega, show ¬ A iM 1 < 24 by omega]
            · simp (disch := omega) only [Bool.false_eq_true, lits, jj, jc, jm, Int.cast_ofNat_Int, j_bi0, j_bi1, not_true, not_false_eq_true, if_true, if_false, xe, xok_some, Sum.elim_inl, Sum.elim_inr, Int.reduceEq, Int.reduceLT, Int.reduceLE, Int.reduceAdd, Int.reduceSub, Int.reduceMul, eq_true c1, eq_true c2, eq_true c3, eX12_bits hP2, c4, hA, c6]
          · have hk : A iM 1 < 24 := by omega
            obtain ⟨μ1, R1, f1, g1, g1z, g2, q0, q1, q2, q4, qc, hF, r1, r2⟩ := eX3_add hC hI c1 c2 hP2 hk
            have hA1 : RH A μ1 := RH.keep hA (fun o h1 h2 => g1 o (by omega) (by show o ≠ 23; omega))
            have x1 : gi μ1 iM 1 = A iM 1 := (RH.sc hA1).2.1
            obtain ⟨k, hkk⟩ : ∃ k, A iM 1 = k := ⟨_, rfl⟩
            rw [hkk] at x1
            obtain ⟨ν, hν⟩ : ∃ ν, wr (wr (wr μ1 iM_dayOf k d) iM_minuteOf k m) iM_peopleOf k P = ν := ⟨_, rfl⟩
            have n1 : ∀ o, o ≠ iM_dayOf → o ≠ iM_minuteOf → o ≠ iM_peopleOf → gi ν o = gi μ1 o := fun o h1 h2 h3 => by
              rw [← hν, gi_wr_f h3, gi_wr_f h2, gi_wr_f h1]
            have x2 : ∀ i, gi (ms ν k i) iM 1 = k := fun i => by rw [ms_o (by decide), n1 _ (by decide) (by decide) (by decide), x1]
            have f2 : xloop xfu (fun v => fX12_meeting_b84 v.1 v.2) (j32 0, ν) = some (ms ν k 8) := by
              refine xloop_for (fun i => (j32 i, ms ν k i)) 8 (by decide) rfl ?_ ?_
              · intro i hi
                show fX12_meeting_b84 _ _ = _
                unfold fX12_meeting_b84
                simp (disch := omega) only [Bool.false_eq_true, lits, jj, jc, jm, Int.cast_ofNat_Int, j_bi0, j_bi1, not_true, not_false_eq_true, if_true, if_false, xe, xok_some, Sum.elim_inl, Sum.elim_inr, Int.reduceEq, Int.reduceLT, Int.reduceLE, Int.reduceAdd, Int.reduceSub, Int.reduceMul, show ¬ 8 ≤ (i : Int) by omega, x2]
                rfl
              · show fX12_meeting_b84 _ _ = _
                unfold fX12_meeting_b84
                simp (disch := omega) only [Bool.false_eq_true, lits, jj, jc, jm, Int.cast_ofNat_Int, j_bi0, j_bi1, not_true, not_false_eq_true, if_true, if_false, xe, xok_some, Sum.elim_inl, Sum.elim_inr, Int.reduceEq, Int.reduceLT, Int.reduceLE, Int.reduceAdd, Int.reduceSub, Int.reduceMul, Int.le_refl]
            obtain ⟨μ2, hμ2⟩ : ∃ x, wr (ms ν k 8) iM 1 (k + 1) = x := ⟨_, rfl⟩
            have x3 : gi μ2 iM 1 = k + 1 := by rw [← hμ2, gi_wr (by omega)]
            have n2 : ∀ o, o ≠ iM_dayOf → o ≠ iM_minuteOf → o ≠ iM_peopleOf → o ≠ iM_cameAt → o ≠ iM → gi μ2 o = gi μ1 o := fun o h1 h2 h3 h4 h5 => by
              rw [← hμ2, gi_wr_f h5, ms_o h4, n1 o h1 h2 h3]
            have n3 : ∀ z, 0 ≤ z → z ≠ 1 → gi μ2 iM z = gi μ1 iM z := fun z h1 h2 => by
              rw [← hμ2, gi_wr_z (by omega), ms_o (by decide), n1 _ (by decide) (by decide) (by decide)]
            refine ⟨(j32 k, μ1, R1, n + 2), ?_, (j32 k, μ2), ?_, rfl, ?_, ?_, fun o => if o = iM_dayOf ∨ o = iM_minuteOf ∨ o = iM_peopleOf ∨ o = iM_cameAt then gi μ2 o else up A iM 1 (k + 1) o, ?_, ?_, ?_⟩
            · rw [hkk] at f1
              simp (disch := omega) only [Bool.false_eq_true, lits, jj, jc, jm, Int.cast_ofNat_Int, j_bi0, j_bi1, not_true, not_false_eq_true, if_true, if_false, xe, xok_some, Sum.elim_inl, Sum.elim_inr, Int.reduceEq, Int.reduceLT, Int.reduceLE, Int.reduceAdd, Int.reduceSub, Int.reduceMul, eq_true c1, eq_true c2, eq_true c5, eJ6_bitCount hP2, show 2 ≤ pc P by omega, f1]
            · have y1 : gi (wr μ1 iM_dayOf k d) iM 1 = k := by rw [gi_wr_o (by decide), x1]
              have y2 : gi (wr (wr μ1 iM_dayOf k d) iM_minuteOf k m) iM 1 = k := by rw [gi_wr_o (by decide), y1]
              simp (disch := omega) only [Bool.false_eq_true, lits, jj, jc, jm, Int.cast_ofNat_Int, j_bi0, j_bi1, not_true, not_false_eq_true, if_true, if_false, xe, xok_some, Sum.elim_inl, Sum.elim_inr, Int.reduceEq, Int.reduceLT, Int.reduceLE, Int.reduceAdd, Int.reduceSub, Int.reduceMul, eq_true c1, eq_true c2, eq_true c3, eX12_bits hP2, c4, x1, show ¬ k = 24 by omega, y1, y2, hν, f2, x2, hμ2, x3]
              rw [show k + 1 - 1 = k by omega]
            · refine ⟨fun o ho => ?_, ?_⟩
              · rw [n2 o (by show o ≠ 63; omega) (by show o ≠ 64; omega) (by show o ≠ 65; omega) (by show o ≠ 66; omega) (by show o ≠ 61; omega), g1 o (by omega) (by show o ≠ 23; omega)]
              · rw [n3 _ (by decide) (by decide), g1 iM (by show 61 < n; omega) (by decide)]
            · exact r1 iC_reader 1 (by show 3 < n; omega) (fun h => absurd h.1 (by decide))
            · refine RH.mk (fun o ho => ?_) ?_
              · have hR : 61 ≤ o := rper_lo ho
                by_cases e : o = iM_dayOf ∨ o = iM_minuteOf ∨ o = iM_peopleOf ∨ o = iM_cameAt
                · rw [if_pos e]
                · rw [if_neg e]
                  have e4 : o ≠ iM := fun q => by rw [q] at ho; cases ho
                  rw [n2 o (fun q => e (Or.inl q)) (fun q => e (Or.inr (Or.inl q))) (fun q => e (Or.inr (Or.inr (Or.inl q)))) (fun q => e (Or.inr (Or.inr (Or.inr q)))) e4, up_o e4]
                  exact RH.at hA1 ho
              · rw [if_neg (by decide)]
                have hs := RH.sc hA1
                simp (disch := first | omega | decide) only [up_z, up_n, n3, x3, hs, and_self]
            · refine meet_CH hC hI (d := d) (m := m) (P := P) (fun o h1 h2 h3 => ?_) (fun o h1 h2 => ?_) ?_ ?_ ?_ ?_ ?_ ?_ hF r1 r2 (fun o h1 h2 h3 h4 h5 => ?_) (fun z hz h2 => ?_) ?_ ?_ ?_ ?_ ?_ hk
              · rw [n2 o (by show o ≠ 63; omega) (by show o ≠ 64; omega) (by show o ≠ 65; omega) (by show o ≠ 66; omega) (by show o ≠ 61; omega), g1 o h1 h3]
              · rw [n2 o (by show o ≠ 63; omega) (by show o ≠ 64; omega) (by show o ≠ 65; omega) (by show o ≠ 66; omega) (by show o ≠ 61; omega), g1 o h2 (by show o ≠ 23; omega)]
              · rw [n2 _ (by decide) (by decide) (by decide) (by decide) (by decide), g2]
              · rw [n2 n (by show n ≠ 63; omega) (by show n ≠ 64; omega) (by show n ≠ 65; omega) (by show n ≠ 66; omega) (by show n ≠ 61; omega), q0]
              · rw [n2 n (by show n ≠ 63; omega) (by show n ≠ 64; omega) (by show n ≠ 65; omega) (by show n ≠ 66; omega) (by show n ≠ 61; omega), q1]
              · rw [n2 n (by show n ≠ 63; omega) (by show n ≠ 64; omega) (by show n ≠ 65; omega) (by show n ≠ 66; omega) (by show n ≠ 61; omega), q2]
              · rw [n2 n (by show n ≠ 63; omega) (by show n ≠ 64; omega) (by show n ≠ 65; omega) (by show n ≠ 66; omega) (by show n ≠ 61; omega), q4]
              · intro z h1 h2; rw [n2 (n + 1) (by show n + 1 ≠ 63; omega) (by show n + 1 ≠ 64; omega) (by show n + 1 ≠ 65; omega) (by show n + 1 ≠ 66; omega) (by show n + 1 ≠ 61; omega), qc z h1 h2]
              · rw [if_neg (by rintro (q | q | q | q); exact h1 q; exact h2 q; exact h3 q; exact h4 q), up_o h5]
              · rw [if_neg (by decide), up_n (by omega)]
              · rw [if_neg (by decide), up_z, hkk]
              · intro q hq
                rw [if_pos (by decide), ← hμ2, gi_wr_o (by decide), ms_o (by decide), ← hν, gi_wr_o (by decide), gi_wr_o (by decide), gi_wr_if (by omega) (by omega), hkk, RH.at hA1 rfl]
              · intro q hq
                rw [if_pos (by decide), ← hμ2, gi_wr_o (by decide), ms_o (by decide), ← hν, gi_wr_o (by decide), gi_wr_if (by omega) (by omega), gi_wr_o (by decide), hkk, RH.at hA1 rfl]
              · intro q hq
                rw [if_pos (by decide), ← hμ2, gi_wr_o (by decide), ms_o (by decide), ← hν, gi_wr_if (by omega) (by omega), gi_wr_o (by decide), gi_wr_o (by decide), hkk, RH.at hA1 rfl]
              · intro q p h2 h3 h4
                rw [if_pos (by decide), ← hμ2, gi_wr_o (by decide), ms_in (by omega) 8 _ (by omega), n1 _ (by decide) (by decide) (by decide), RH.at hA1 rfl, hkk]
                by_cases e : q = k
                · rw [if_pos e, if_pos (by omega)]
                · rw [if_neg e, if_neg (by omega)]
            · have b1 : ∀ q, 0 ≤ q → (if iM_dayOf = iM_dayOf ∨ iM_dayOf = iM_minuteOf ∨ iM_dayOf = iM_peopleOf ∨ iM_dayOf = iM_cameAt then gi μ2 iM_dayOf else up A iM 1 (k + 1) iM_dayOf) q = if q = k then d else A iM_dayOf q := by
                intro q hq
                rw [if_pos (by decide), ← hμ2, gi_wr_o (by decide), ms_o (by decide), ← hν, gi_wr_o (by decide), gi_wr_o (by decide), gi_wr_if (by omega) (by omega), RH.at hA1 rfl]
              have b2 : ∀ q, 0 ≤ q → (if iM_minuteOf = iM_dayOf ∨ iM_minuteOf = iM_minuteOf ∨ iM_minuteOf = iM_peopleOf ∨ iM_minuteOf = iM_cameAt then gi μ2 iM_minuteOf else up A iM 1 (k + 1) iM_minuteOf) q = if q = k then m else A iM_minuteOf q := by
                intro q hq
                rw [if_pos (by decide), ← hμ2, gi_wr_o (by decide), ms_o (by decide), ← hν, gi_wr_o (by decide), gi_wr_if (by omega) (by omega), gi_wr_o (by decide), RH.at hA1 rfl]
              have b3 : ∀ q, 0 ≤ q → (if iM_peopleOf = iM_dayOf ∨ iM_peopleOf = iM_minuteOf ∨ iM_peopleOf = iM_peopleOf ∨ iM_peopleOf = iM_cameAt then gi μ2 iM_peopleOf else up A iM 1 (k + 1) iM_peopleOf) q = if q = k then P else A iM_peopleOf q := by
                intro q hq
                rw [if_pos (by decide), ← hμ2, gi_wr_o (by decide), ms_o (by decide), ← hν, gi_wr_if (by omega) (by omega), gi_wr_o (by decide), gi_wr_o (by decide), RH.at hA1 rfl]
              have b4 : ∀ q p, 0 ≤ q → 0 ≤ p → p < 8 → (if iM_cameAt = iM_dayOf ∨ iM_cameAt = iM_minuteOf ∨ iM_cameAt = iM_peopleOf ∨ iM_cameAt = iM_cameAt then gi μ2 iM_cameAt else up A iM 1 (k + 1) iM_cameAt) (8 * q + p) = if q = k then -1 else A iM_cameAt (8 * q + p) := by
                intro q p h2 h3 h4
                rw [if_pos (by decide), ← hμ2, gi_wr_o (by decide), ms_in (by omega) 8 _ (by omega), n1 _ (by decide) (by decide) (by decide), RH.at hA1 rfl]
                by_cases e : q = k
                · rw [if_pos e, if_pos (by omega)]
                · rw [if_neg e, if_neg (by omega)]
              have b5 : (if iM = iM_dayOf ∨ iM = iM_minuteOf ∨ iM = iM_peopleOf ∨ iM = iM_cameAt then gi μ2 iM else up A iM 1 (k + 1) iM) 1 = k + 1 := by rw [if_neg (by decide), up_z]
              have b6 : ∀ q, (if iM_isSettled = iM_dayOf ∨ iM_isSettled = iM_minuteOf ∨ iM_isSettled = iM_peopleOf ∨ iM_isSettled = iM_cameAt then gi μ2 iM_isSettled else up A iM 1 (k + 1) iM_isSettled) q = A iM_isSettled q := fun q => by rw [if_neg (by decide), up_o (by decide)]
              refine hI.u_meet (fun o h1 h2 h3 h4 h5 => ?_) (fun z hz h2 => ?_) ?_ ?_ ?_ ?_ ?_ ?_ ?_ ?_
              · rw [if_neg (by rintro (q | q | q | q); exact h1 q; exact h2 q; exact h3 q; exact h4 q), up_o h5]
              · rw [if_neg (by decide), up_n (by omega)]
              · rw [b5]; omega
              · intro q h2 h3; rw [b5] at h3; rw [b1 q h2]; split
                · exact c1
                · exact hI.dayOf q h2 (by omega)
              · intro q h2 h3; rw [b5] at h3; rw [b2 q h2]; split
                · exact c2
                · exact hI.minuteOf q h2 (by omega)
              · intro q h2 h3; rw [b5] at h3; rw [b3 q h2]; split
                · exact hP2
                · exact hI.peopleOf q h2 (by omega)
              · intro q p h2 h3 h4 h5; rw [b5] at h3; rw [b4 q p h2 h4 h5, b3 q h2]
                by_cases e : q = k
                · rw [if_pos e, if_pos e]; exact ⟨by omega, by omega, fun _ => rfl⟩
                · rw [if_neg e, if_neg e]; exact hI.cameAt q p h2 (by omega) h4 h5
              · intro q h2 h3; rw [b5] at h3; rw [b6]
                by_cases e : q = k
                · exact Or.inl (hI.fresh q (by omega) (by omega))
                · exact hI.isSettled q h2 (by omega)
              · intro q p h2 h3 h4 h5; rw [b5] at h3; rw [b6] at h4; rw [b3 q h2] at h5
                by_cases e : q = k
                · rw [hI.fresh q (by omega) (by omega)] at h4; omega
                · rw [if_neg e] at h5
                  rw [b4 q p h2 h5.1 h5.2.1, if_neg e]; exact hI.settledCame q p h2 (by omega) h4 h5
              · intro q h2 h3; rw [b5] at h2; rw [b6]; exact hI.fresh q (by omega) h3
      · refine ⟨(j32 (-1), μ, R, n), ?_, (j32 (-1), μ), ?_, rfl, LK.rf, rfl, A, hA, hC, hI⟩
        · simp (disch := omega) only [Bool.false_eq_true, lits, jj, jc, jm, Int.cast_ofNat_Int, j_bi0, j_bi1, not_true, not_false_eq_true, if_true, if_false, xe, xok_some, Sum.elim_inl, Sum.elim_inr, Int.reduceEq, Int.reduceLT, Int.reduceLE, Int.reduceAdd, Int.reduceSub, Int.reduceMul, eq_true c1, eq_true c2, eq_false (show ¬ (1 ≤ P ∧ P ≤ 255) by omega)]
        · simp (disch := omega) only [Bool.false_eq_true, lits, jj, jc, jm, Int.cast_ofNat_Int, j_bi0, j_bi1, not_true, not_false_eq_true, if_true, if_false, xe, xok_some, Sum.elim_inl, Sum.elim_inr, Int.reduceEq, Int.reduceLT, Int.reduceLE, Int.reduceAdd, Int.reduceSub, Int.reduceMul, eq_true c1, eq_true c2, eq_false c3]
    · refine ⟨(j32 (-1), μ, R, n), ?_, (j32 (-1), μ), ?_, rfl, LK.rf, rfl, A, hA, hC, hI⟩
      · simp (disch := omega) only [Bool.false_eq_true, lits, jj, jc, jm, Int.cast_ofNat_Int, j_bi0, j_bi1, not_true, not_false_eq_true, if_true, if_false, xe, xok_some, Sum.elim_inl, Sum.elim_inr, Int.reduceEq, Int.reduceLT, Int.reduceLE, Int.reduceAdd, Int.reduceSub, Int.reduceMul, eq_true c1, eq_false c2]
      · simp (disch := omega) only [Bool.false_eq_true, lits, jj, jc, jm, Int.cast_ofNat_Int, j_bi0, j_bi1, not_true, not_false_eq_true, if_true, if_false, xe, xok_some, Sum.elim_inl, Sum.elim_inr, Int.reduceEq, Int.reduceLT, Int.reduceLE, Int.reduceAdd, Int.reduceSub, Int.reduceMul, eq_true c1, eq_false c2]
  · refine ⟨(j32 (-1), μ, R, n), ?_, (j32 (-1), μ), ?_, rfl, LK.rf, rfl, A, hA, hC, hI⟩
    · simp (disch := omega) only [Bool.false_eq_true, lits, jj, jc, jm, Int.cast_ofNat_Int, j_bi0, j_bi1, not_true, not_false_eq_true, if_true, if_false, xe, xok_some, Sum.elim_inl, Sum.elim_inr, Int.reduceEq, Int.reduceLT, Int.reduceLE, Int.reduceAdd, Int.reduceSub, Int.reduceMul, eq_false c1]
    · simp (disch := omega) only [Bool.false_eq_true, lits, jj, jc, jm, Int.cast_ofNat_Int, j_bi0, j_bi1, not_true, not_false_eq_true, if_true, if_false, xe, xok_some, Sum.elim_inl, Sum.elim_inr, Int.reduceEq, Int.reduceLT, Int.reduceLE, Int.reduceAdd, Int.reduceSub, Int.reduceMul, eq_false c1]
