/-! law: both sides -/
theorem gi_nw {μ ν : xm} {a : Nat} (h : ∀ z, 0 ≤ z → gi ν a z = gi μ a z) : gi ν a = gi μ a := gi_nn h
theorem law_RH {A : xAs} {μ ν : xm} (hA : RH A μ) (h : FrR μ ν) : RH (up (up A iM 11 0) iM 20 (gi ν iM 20)) ν := by
  obtain ⟨s0, s1, s2, s3, s11, s20, s37, s53, s54, s55, s56⟩ := RH.sc hA
  have sc : ∀ k, 0 ≤ k → ¬(11 ≤ k ∧ k ≤ 20) → gi μ iM k = A iM k → gi ν iM k = up (up A iM 11 0) iM 20 (gi ν iM 20) iM k := fun k k0 k1 e => by
    rw [up_n (by omega), up_n (by omega), h.1 iM k k0 (by omega) (by decide)]; exact e
  refine RH.mk (fun o ho => ?_) ⟨sc 0 (by omega) (by omega) s0, sc 1 (by omega) (by omega) s1, sc 2 (by omega) (by omega) s2, sc 3 (by omega) (by omega) s3, ?_, ?_, sc 37 (by omega) (by omega) s37, sc 53 (by omega) (by omega) s53, sc 54 (by omega) (by omega) s54, sc 55 (by omega) (by omega) s55, sc 56 (by omega) (by omega) s56⟩
  · have n1 : o ≠ iM := by rintro rfl; exact absurd ho (by decide)
    have n2 : ¬(69 ≤ o ∧ o ≤ 79) := by
      intro c
      have : o = 69 ∨ o = 70 ∨ o = 71 ∨ o = 72 ∨ o = 73 ∨ o = 74 ∨ o = 75 ∨ o = 76 ∨ o = 77 ∨ o = 78 ∨ o = 79 := by omega
      rcases this with rfl | rfl | rfl | rfl | rfl | rfl | rfl | rfl | rfl | rfl | rfl <;> exact absurd ho (by decide)
    rw [up_o n1, up_o n1, ← RH.at hA ho]
    exact gi_nw fun z z0 => h.1 o z z0 (fun c => n1 c.1) n2
  · rw [up_n (by omega), up_z]; exact h.2
  · rw [up_z]
theorem cmen_dec : ∀ x : Fin 107, cmen x.val = true → ¬(3 ≤ x.val ∧ x.val ≤ 17 ∧ x.val ≠ 11) ∧ x.val ≠ 61 ∧ ¬(69 ≤ x.val ∧ x.val ≤ 79) := by decide +kernel
theorem cmen_no {x : Nat} (h : cmen x = true) : ¬(3 ≤ x ∧ x ≤ 17 ∧ x ≠ 11) ∧ x ≠ 61 ∧ ¬(69 ≤ x ∧ x ≤ 79) := by
  by_cases c : x < 107
  · exact cmen_dec ⟨x, c⟩ h
  · omega
theorem law_CH {A : xAs} {μ ν ω : xm} {R : xr} {n o : Nat} (hC : CH A μ R n) (ho : o = 5 ∨ o = 12) (h1 : FrC o μ ν) (h2 : ∀ z, 0 ≤ z → z ≠ 1 → gi ν iC_tape z = gi μ iC_tape z) (h3 : FrR ν ω) {L : Int} : CH (up (up A iM 11 0) iM 20 L) ω R n := by
  have c1 : CH (up A iM 11 0) (wr μ iC_tape 1 0) R n := by
    refine hC.u_feed (fun a q1 q2 q3 => gi_wr_f q2) (fun z z0 z1 => gi_wr_z (by omega)) (fun a q1 q2 => up_o q2) (fun k k0 k1 => up_n (by omega)) ?_ (fun z z0 z1 => ?_)
    · rw [gi_wr (by omega), up_z]
    · rw [gi_wr_f (by decide), up_o (by decide)]; exact hC.tape z z0 z1
  have e3 : ∀ a, a ≠ iM → ¬(69 ≤ a ∧ a ≤ 79) → gi ω a = gi ν a := fun a q1 q2 => gi_nw fun z z0 => h3.1 a z z0 (fun c => q1 c.1) q2
  have c2 : CH (up A iM 11 0) ω R n := by
    have hh : ∀ a, a ≠ iM → ¬(69 ≤ a ∧ a ≤ 79) → ¬(3 ≤ a ∧ a ≤ 17 ∧ a ≠ 11) → gi ω a = gi (wr μ iC_tape 1 0) a := fun a q1 q2 q3 => by
      rw [e3 a q1 q2]
      by_cases c : a = iC_tape
      · subst c
        refine gi_nw fun z z0 => ?_
        by_cases d : z = 1
        · subst d
          rw [gi_wr (by omega)]; exact h1.2.2
        · rw [gi_wr_z (by omega)]; exact h2 z z0 d
      · rw [gi_wr_f c]
        exact h1.2.1 a c (by show a ≠ 3; omega) (by show a ≠ 4; omega) (by omega)
    refine c1.scr (fun a ha => ?_) ?_ ?_
    · obtain ⟨q1, q2, q3⟩ := cmen_no ha
      exact hh a q2 q3 q1
    · rw [hh iC_meetings (by decide) (by decide) (by decide)]
    · rw [hh iC_striking_clear (by decide) (by decide) (by decide)]
  exact c2.u_cl (fun _ _ => rfl) (fun a q => up_o q) (fun k k0 k1 => up_n (by omega))
theorem law_swap {A : xAs} {ν : xm} {R : xr} {n o o1 : Nat} (hC : CH A ν R n) (r1 : R iC_reader 1 = some o1) (r2 : R iC_reader 2 = some o) : CH A ν (xup (xup R iC_reader 1 (some o)) iC_reader 2 (some o1)) n := by
  have f1 : xFin (xup (xup R iC_reader 1 (some o)) iC_reader 2 (some o1)) n := dw_3_2 (dw_3_1 hC.fin (dy_3_2 hC.fin o r2) rfl) (dy_3_1 hC.fin o1 r1) rfl
  have a1 : xup (xup R iC_reader 1 (some o)) iC_reader 2 (some o1) iC_reader 1 = some o := by rw [xup_nek (by decide), xup_self]
  have a2 : xup (xup R iC_reader 1 (some o)) iC_reader 2 (some o1) iC_reader 2 = some o1 := xup_self
  have q4 : ∀ i k, i ≠ iC_reader → xup (xup R iC_reader 1 (some o)) iC_reader 2 (some o1) i k = R i k := fun i k h => by rw [xup_ne h, xup_ne h]
  have hne := hC.reader
  obtain ⟨h1, h2, h3, h4, h5, h6, h7, h8, h9, h10, h11, h12, h13, h14, h15, h16, h17, h18, h19, h20, h21, h22, h23, h24, h25, h26, h27, h28, h29, h30, h31, h32, h33, h34, h35, h36⟩ := hC
  refine ⟨f1, h2, h3, h4, h5, h6, h7, h8, h9, fun m a b => by rw [q4 _ _ (by decide)]; exact h10 m a b, h11, h12, h13, h14, h15, h16, h17, h18, h19, h20, h21, h22, h23, h24, h25, h26, h27, h28, h29, h30, h31, ?_, ?_, ?_, ⟨⟨o, a1⟩, o1, a2⟩, h36⟩
  · rw [q4 _ _ (by decide), q4 _ _ (by decide)]; exact h32
  · rw [a1, a2]
    rw [r1, r2] at hne
    exact fun e => hne e.symm
  · rw [q4 _ _ (by decide), q4 _ _ (by decide)]; exact h34
theorem law_Inv {A : xAs} (hI : Inv A) {L : Int} (hL : 0 ≤ L ∧ L ≤ 14) : Inv (up (up A iM 11 0) iM 20 L) := by
  have i1 : Inv (up A iM 11 0) := by
    refine hI.u_feed (fun a q1 q2 => up_o q2) (fun k k0 k1 => up_n (by omega)) ?_ (fun z z0 z1 => ?_)
    · rw [up_z]; omega
    · rw [up_o (by decide)]; exact hI.tape z z0 z1
  exact i1.u_cl (fun a q => up_o q) (fun k k0 k1 => up_n (by omega)) (by rw [up_z]; exact hL)
theorem valL_b {L b : Int} (F : Nat → Int) (hb : 0 ≤ b) : ∀ ls : List Cl, 0 ≤ valL L b F ls ∧ valL L b F ls ≤ b
  | [] => ⟨Int.le_refl _, hb⟩
  | c :: r => by
    have ih := valL_b (L := L) F hb r
    unfold valL
    split
    · split
      · exact ⟨Int.le_refl _, hb⟩
      · omega
    · exact ih
theorem lwS_5_J : lwS_5 Jx := by
  intro μ R n a1 ⟨A, V, hA, hC, hI, hL⟩
  obtain ⟨N, rfl, hNb⟩ := j32_ex a1
  have htp := hI.taped
  have hcl := hI.clauses
  have htl := hC.taped
  have e11 : gi μ iM 11 = A iM 11 := (RH.sc hA).2.2.2.2.1
  have e20 : gi μ iM 20 = A iM 20 := (RH.sc hA).2.2.2.2.2.1
  by_cases c : (1 ≤ N ∧ N ≤ 200) ∧ N ≤ A iM 11
  · obtain ⟨⟨o1, r1⟩, o, r2⟩ := hC.laws
    have hne := hC.reader
    have ho : o = 5 ∨ o = 12 := (dy_3_2 hC.fin o r2).1
    have ho1 : o1 = 5 ∨ o1 = 12 := (dy_3_1 hC.fin o1 r1).1
    have hoo : o1 ≠ o := fun e => hne (by rw [r1, r2, e])
    obtain ⟨ans, ν, R', k1, k2, k3, k4⟩ := cread hC hI.tape r1 r2 ho hoo c.1 c.2
    have hA2 : RH A ν := RH.keep hA (fun a q1 q2 => k2.2.1 a (by show a ≠ 1; omega) (by show a ≠ 3; omega) (by show a ≠ 4; omega) (by omega))
    obtain ⟨ans2, ω, m1, m2, m3⟩ := rlaw hA2 hI.tape c.1 c.2
    have hRH := law_RH hA2 m2
    have hCH := law_CH (L := gi ω iM 20) hC ho k2 k3 m2
    have eo : ∀ a, a ≠ iM → ¬(69 ≤ a ∧ a ≤ 79) → gi ω a = gi ν a := fun a q1 q2 => gi_nw fun z z0 => m2.1 a z z0 (fun c => q1 c.1) q2
    have em : ∀ a, 61 ≤ a → a < 107 → gi ν a = gi μ a := fun a q1 q2 => k2.2.1 a (by show a ≠ 1; omega) (by show a ≠ 3; omega) (by show a ≠ 4; omega) (by omega)
    refine ⟨_, k1, _, m1, ?_⟩
    generalize pAll (sgT (fun z => bT (A iM_tape z)) N) N = pr at k4 m3
    cases pr with
    | inl ev =>
      obtain ⟨p1, p2⟩ := k4
      obtain ⟨p3, p4, p5⟩ := m3
      have w20 : gi ω iM 20 = A iM 20 := by rw [p5, em iM (by decide) (by decide)]; exact e20
      subst p2
      refine ⟨p3.trans p1.symm, _, V, hRH, hCH, law_Inv hI (by rw [w20]; exact hcl), ?_⟩
      obtain ⟨⟨o', l1, l2, l3, l4⟩, l5, l6⟩ := hL
      have hoe : o' = o1 := Option.some.inj (l1.symm.trans r1)
      subst hoe
      have ecur : ∀ j, o' ≤ j → j ≤ o' + 5 → gi ω j = gi μ j := fun j j0 j1 => by
        rw [eo j (by show j ≠ 61; omega) (by omega)]
        exact k2.2.1 j (by show j ≠ 1; omega) (by show j ≠ 3; omega) (by show j ≠ 4; omega) (by omega)
      refine ⟨⟨o', l1, l2, ?_, fun μ' F q1 q2 => l4 μ' F (fun j j0 j1 => (q1 j j0 j1).trans (ecur j j0 j1)) q2⟩, fun μ' F q1 q2 q3 => l5 μ' F (fun j j0 j1 => (q1 j j0 j1).trans ((p4 j j0 j1).trans (em j (by omega) (by omega)))) (q2.trans (w20.trans e20.symm)) q3, l6⟩
      rw [ecur o' (by omega) (by omega), w20, l3, e20]
    | inr ev =>
      obtain ⟨p1, p2, p3⟩ := k4
      obtain ⟨p4, p5⟩ := m3
      have w20 : gi ω iM 20 = ev.2.length := p5.1
      have wl := p5.2.1
      subst p3
      refine ⟨p4.trans p1.symm, _, fun L F => valL L (if L = 111 then 1440 else 100) F ev.2, hRH, law_swap hCH r1 r2, law_Inv hI (by rw [w20]; omega), ⟨o, ?_, ho, ?_, fun μ' F q1 q2 L b hl => ?_⟩, fun μ' F q1 q2 q3 L b hl => ?_, fun L b F hl => ?_⟩
      · show xup (xup R iC_reader 1 (some o)) iC_reader 2 (some o1) iC_reader 1 = some o
        rw [xup_nek (by decide), xup_self]
      · show gi ω o 6 = gi ω iM 20
        rw [w20, eo o (by show o ≠ 61; omega) (by omega)]; exact p2.1
      · have hl2 : (if L = 111 then (1440 : Int) else 100) = b := by
          rcases hl with ⟨h1, h2⟩ | ⟨h1, h2⟩ | ⟨h1, h2⟩
          · rw [if_pos h1, h2]
          · rw [if_neg (by omega), h2]
          · rw [if_neg (by omega), h2]
        show ∃ ν', fX0_amount o (j32 L) (j32 b) iC_meetings_facts μ' = some (j32 (valL L (if L = 111 then 1440 else 100) F ev.2), ν') ∧ gi ν' = gi μ'
        rw [hl2]
        exact amount_ok (p2.gi fun j j0 j1 => (q1 j j0 j1).trans (eo j (by show j ≠ 61; omega) (by omega))) q2 hl
      · have hl2 : (if L = 111 then (1440 : Int) else 100) = b := by
          rcases hl with ⟨h1, h2⟩ | ⟨h1, h2⟩ | ⟨h1, h2⟩
          · rw [if_pos h1, h2]
          · rw [if_neg (by omega), h2]
          · rw [if_neg (by omega), h2]
        show ∃ ν', fX12_byLaw (j32 L) (j32 b) μ' = some (j32 (valL L (if L = 111 then 1440 else 100) F ev.2), ν') ∧ _
        rw [hl2]
        exact byLaw_ok (p5.gi q1 q2) q3 hl
      · have hl2 : (if L = 111 then (1440 : Int) else 100) = b := by
          rcases hl with ⟨h1, h2⟩ | ⟨h1, h2⟩ | ⟨h1, h2⟩
          · rw [if_pos h1, h2]
          · rw [if_neg (by omega), h2]
          · rw [if_neg (by omega), h2]
        show 0 ≤ valL L (if L = 111 then 1440 else 100) F ev.2 ∧ valL L (if L = 111 then 1440 else 100) F ev.2 ≤ b
        rw [hl2]
        exact valL_b F (by rcases hl with ⟨h1, h2⟩ | ⟨h1, h2⟩ | ⟨h1, h2⟩ <;> omega) ev.2
  · refine ⟨(-1, μ, R), ?_, (-1, μ), ?_, rfl, A, V, hA, hC, hI, hL⟩
    · unfold fX11_law fX11_within
      by_cases c1 : N < 1
      · rw [if_pos (show j32 N < 1 from (j_lt (b := 1) (by omega) (by omega)).mpr c1), xbd_e, if_pos rfl]
      · rw [if_neg (show ¬ j32 N < 1 from fun d => c1 ((j_lt (b := 1) (by omega) (by omega)).mp d))]
        by_cases c2 : 200 < N
        · rw [if_pos (show 200 < j32 N from (j_lt (a := 200) (by omega) (by omega)).mpr c2), xbd_e, if_pos rfl]
        · rw [if_neg (show ¬ 200 < j32 N from fun d => c2 ((j_lt (a := 200) (by omega) (by omega)).mp d)), xbd_e, if_neg (by decide)]
          unfold fX9_length
          rw [xbd_e, j_rd, show gi μ iC_tape ((1 : Nat) : Int) = A iM 11 from htl, if_neg (fun d => by have := (j_le (by omega) (by omega)).mp d; omega)]
    · show fX12_law (j32 N) μ = _
      unfold fX12_law fX12_in
      by_cases c1 : N < 1
      · rw [if_pos (show j32 N < 1 from (j_lt (b := 1) (by omega) (by omega)).mpr c1), xbd_e, if_pos rfl]
      · rw [if_neg (show ¬ j32 N < 1 from fun d => c1 ((j_lt (b := 1) (by omega) (by omega)).mp d))]
        by_cases c2 : 200 < N
        · rw [if_pos (show 200 < j32 N from (j_lt (a := 200) (by omega) (by omega)).mpr c2), xbd_e, if_pos rfl]
        · rw [if_neg (show ¬ 200 < j32 N from fun d => c2 ((j_lt (a := 200) (by omega) (by omega)).mp d)), xbd_e, if_neg (by decide)]
          rw [j_rd, show gi μ iM ((11 : Nat) : Int) = A iM 11 from e11, if_neg (fun d => by have := (j_le (by omega) (by omega)).mp d; omega)]
