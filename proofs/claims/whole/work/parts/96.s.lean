/-! a law read is kept, the plain model -/
theorem r_copy1 {μ : xm} {s : Int} (h16 : gi μ iM 16 = s) (hs : 0 ≤ s ∧ s ≤ 200) : xok (xloop xfu (fun v => fX12_law_b110 v.1 v.2) (0, μ)) (fun ν => (∀ a, a ≠ iM_codes → gi ν a = gi μ a) ∧ ∀ z, 0 ≤ z → z < s → gi ν iM_codes z = gi μ iM_said z) := by
  refine xok_for (fun k a => a.1 = j32 k ∧ (∀ b, b ≠ iM_codes → gi a.2 b = gi μ b) ∧ ∀ z : Int, 0 ≤ z → z < (k : Int) → gi a.2 iM_codes z = gi μ iM_said z) s.toNat (by omega) ⟨rfl, fun _ _ => rfl, fun z a b => by omega⟩ ?_ ?_
  · rintro k ⟨x, τ⟩ hk ⟨a1, a3, a4⟩
    simp only at a1 a3 a4
    subst a1
    have b1 : ¬ s ≤ (k : Int) := by omega
    have g16 : gi τ iM 16 = s := by rw [a3 _ (by decide)]; exact h16
    have gs : gi τ iM_said k = gi μ iM_said k := by rw [a3 _ (by decide)]
    have lo := gi_lo μ iM_said k
    have hi := gi_hi μ iM_said k
    have e : fX12_law_b110 (j32 k) τ = some (.inl (j32 (k + 1), wr τ iM_codes k (gi μ iM_said k))) := by
      unfold fX12_law_b110
      simp (disch := omega) only [Bool.false_eq_true, lits, jj, jc, jm, Int.cast_ofNat_Int, j_bi0, j_bi1, not_true, not_false_eq_true, if_true, if_false, xe, xok_some, Sum.elim_inl, Sum.elim_inr, Int.reduceEq, Int.reduceLT, Int.reduceLE, Int.reduceAdd, Int.reduceSub, Int.reduceMul, g16, b1, gs]
    show xok (fX12_law_b110 (j32 k) τ) _
    rw [e, xok_some]
    refine ⟨rfl, fun b hb => by rw [gi_wr_f hb]; exact a3 b hb, fun z z0 z1 => ?_⟩
    show gi (wr τ iM_codes k _) iM_codes z = _
    by_cases c : z = k
    · rw [c, gi_wr (by omega)]
    · rw [gi_wr_z ⟨by omega, z0, c⟩]; exact a4 z z0 (by omega)
  · rintro ⟨x, τ⟩ ⟨a1, a3, a4⟩
    simp only at a1 a3 a4
    subst a1
    have b1 : s ≤ ((s.toNat : Nat) : Int) := by omega
    have g16 : gi τ iM 16 = s := by rw [a3 _ (by decide)]; exact h16
    have e : fX12_law_b110 (j32 ((s.toNat : Nat) : Int)) τ = some (.inr τ) := by
      unfold fX12_law_b110
      simp (disch := omega) only [Bool.false_eq_true, lits, jj, jc, jm, Int.cast_ofNat_Int, j_bi0, j_bi1, not_true, not_false_eq_true, if_true, if_false, xe, xok_some, Sum.elim_inl, Sum.elim_inr, Int.reduceEq, Int.reduceLT, Int.reduceLE, Int.reduceAdd, Int.reduceSub, Int.reduceMul, g16, b1]
    show xok (fX12_law_b110 (j32 ((s.toNat : Nat) : Int)) τ) _
    rw [e, xok_some]
    exact ⟨a3, fun z z0 z1 => a4 z z0 (by omega)⟩
def cp4 (μ : xm) (z : Int) (τ : xm) : xm := wr (wr (wr (wr τ iM_letterOf z (gi μ iM_saidLetter z)) iM_codeFrom z (gi μ iM_saidFrom z)) iM_codeHalf z (gi μ iM_saidHalf z)) iM_codeTo z (gi μ iM_saidTo z)
theorem r_copy2 {μ : xm} {m : Nat} (h18 : gi μ iM 18 = m) (hm : m ≤ 14) : xok (xloop xfu (fun v => fX12_law_b138 v.1 v.2) (0, μ)) (fun ν => (∀ a, ¬(76 ≤ a ∧ a ≤ 79) → gi ν a = gi μ a) ∧ ∀ z : Int, 0 ≤ z → z < m → gi ν iM_letterOf z = gi μ iM_saidLetter z ∧ gi ν iM_codeFrom z = gi μ iM_saidFrom z ∧ gi ν iM_codeHalf z = gi μ iM_saidHalf z ∧ gi ν iM_codeTo z = gi μ iM_saidTo z) := by
  refine xok_for (fun k a => a.1 = j32 k ∧ (∀ b, ¬(76 ≤ b ∧ b ≤ 79) → gi a.2 b = gi μ b) ∧ ∀ z : Int, 0 ≤ z → z < (k : Int) → gi a.2 iM_letterOf z = gi μ iM_saidLetter z ∧ gi a.2 iM_codeFrom z = gi μ iM_saidFrom z ∧ gi a.2 iM_codeHalf z = gi μ iM_saidHalf z ∧ gi a.2 iM_codeTo z = gi μ iM_saidTo z) m (by omega) ⟨rfl, fun _ _ => rfl, fun z a b => by omega⟩ ?_ ?_
  · rintro k ⟨x, τ⟩ hk ⟨a1, a3, a4⟩
    simp only at a1 a3 a4
    subst a1
    have b1 : ¬ (m : Int) ≤ (k : Int) := by omega
    have g18 : gi τ iM 18 = m := by rw [a3 _ (by decide)]; exact h18
    have g1 : gi τ iM_saidLetter = gi μ iM_saidLetter := a3 _ (by decide)
    have g2 : gi τ iM_saidFrom = gi μ iM_saidFrom := a3 _ (by decide)
    have g3 : gi τ iM_saidHalf = gi μ iM_saidHalf := a3 _ (by decide)
    have g4 : gi τ iM_saidTo = gi μ iM_saidTo := a3 _ (by decide)
    have hg : ∀ a z, -2147483648 ≤ gi μ a z ∧ gi μ a z < 2147483648 := fun a z => ⟨gi_lo μ a z, gi_hi μ a z⟩
    have e : fX12_law_b138 (j32 k) τ = some (.inl (j32 (k + 1), cp4 μ k τ)) := by
      unfold fX12_law_b138
      simp (disch := omega) only [Bool.false_eq_true, lits, jj, jc, jm, Int.cast_ofNat_Int, j_bi0, j_bi1, not_true, not_false_eq_true, if_true, if_false, xe, xok_some, Sum.elim_inl, Sum.elim_inr, Int.reduceEq, Int.reduceLT, Int.reduceLE, Int.reduceAdd, Int.reduceSub, Int.reduceMul, g18, b1, g1]
      rw [gi_wr_f (show iM_saidFrom ≠ iM_letterOf by decide), gi_wr_f (show iM_saidHalf ≠ iM_codeFrom by decide), gi_wr_f (show iM_saidHalf ≠ iM_letterOf by decide), gi_wr_f (show iM_saidTo ≠ iM_codeHalf by decide), gi_wr_f (show iM_saidTo ≠ iM_codeFrom by decide), gi_wr_f (show iM_saidTo ≠ iM_letterOf by decide), g2, g3, g4]
      rfl
    show xok (fX12_law_b138 (j32 k) τ) _
    rw [e, xok_some]
    refine ⟨rfl, fun b hb => ?_, fun z z0 z1 => ?_⟩
    · show gi (cp4 μ k τ) b = _
      have q1 : b ≠ iM_letterOf := by rintro rfl; exact hb (by decide)
      have q2 : b ≠ iM_codeFrom := by rintro rfl; exact hb (by decide)
      have q3 : b ≠ iM_codeHalf := by rintro rfl; exact hb (by decide)
      have q4 : b ≠ iM_codeTo := by rintro rfl; exact hb (by decide)
      unfold cp4
      rw [gi_wr_f q4, gi_wr_f q3, gi_wr_f q2, gi_wr_f q1]; exact a3 b hb
    · show gi (cp4 μ k τ) iM_letterOf z = _ ∧ gi (cp4 μ k τ) iM_codeFrom z = _ ∧ gi (cp4 μ k τ) iM_codeHalf z = _ ∧ gi (cp4 μ k τ) iM_codeTo z = _
      have w1 : gi (cp4 μ k τ) iM_letterOf z = if z = k then gi μ iM_saidLetter k else gi τ iM_letterOf z := by
        unfold cp4
        rw [gi_wr_o (by decide), gi_wr_o (by decide), gi_wr_o (by decide), gi_wr_if (by omega) (hg _ _)]
      have w2 : gi (cp4 μ k τ) iM_codeFrom z = if z = k then gi μ iM_saidFrom k else gi τ iM_codeFrom z := by
        unfold cp4
        rw [gi_wr_o (by decide), gi_wr_o (by decide), gi_wr_if (by omega) (hg _ _), gi_wr_o (by decide)]
      have w3 : gi (cp4 μ k τ) iM_codeHalf z = if z = k then gi μ iM_saidHalf k else gi τ iM_codeHalf z := by
        unfold cp4
        rw [gi_wr_o (by decide), gi_wr_if (by omega) (hg _ _), gi_wr_o (by decide), gi_wr_o (by decide)]
      have w4 : gi (cp4 μ k τ) iM_codeTo z = if z = k then gi μ iM_saidTo k else gi τ iM_codeTo z := by
        unfold cp4
        rw [gi_wr_if (by omega) (hg _ _), gi_wr_o (by decide), gi_wr_o (by decide), gi_wr_o (by decide)]
      rw [w1, w2, w3, w4]
      by_cases c : z = k
      · rw [if_pos c, if_pos c, if_pos c, if_pos c, c]; exact ⟨rfl, rfl, rfl, rfl⟩
      · rw [if_neg c, if_neg c, if_neg c, if_neg c]; exact a4 z z0 (by omega)
  · rintro ⟨x, τ⟩ ⟨a1, a3, a4⟩
    simp only at a1 a3 a4
    subst a1
    have b1 : (m : Int) ≤ (m : Int) := Int.le_refl _
    have g18 : gi τ iM 18 = m := by rw [a3 _ (by decide)]; exact h18
    have e : fX12_law_b138 (j32 m) τ = some (.inr τ) := by
      unfold fX12_law_b138
      simp (disch := omega) only [Bool.false_eq_true, lits, jj, jc, jm, Int.cast_ofNat_Int, j_bi0, j_bi1, not_true, not_false_eq_true, if_true, if_false, xe, xok_some, Sum.elim_inl, Sum.elim_inr, Int.reduceEq, Int.reduceLT, Int.reduceLE, Int.reduceAdd, Int.reduceSub, Int.reduceMul, g18, b1]
    show xok (fX12_law_b138 (j32 m) τ) _
    rw [e, xok_some]
    exact ⟨a3, a4⟩
/-- what the plain model's reading of a law writes -/
def FrR (μ ν : xm) : Prop := (∀ (a : Nat) (z : Int), 0 ≤ z → ¬(a = iM ∧ 11 ≤ z ∧ z ≤ 20) → ¬(69 ≤ a ∧ a ≤ 79) → gi ν a z = gi μ a z) ∧ gi ν iM 11 = 0
theorem rlaw {A : xAs} {μ : xm} (hA : RH A μ) (ht : ∀ z, 0 ≤ z → z < 400 → -128 ≤ A iM_tape z ∧ A iM_tape z ≤ 127) {N : Int} (hN : 1 ≤ N ∧ N ≤ 200) (hN2 : N ≤ A iM 11) : ∃ ans ν, fX12_law (j32 N) μ = some (ans, ν) ∧ FrR μ ν ∧ match pAll (sgT (fun z => bT (A iM_tape z)) N) N with
    | .inl e => ans = j32 (-1000 * e.1 - e.2) ∧ (∀ a, 75 ≤ a → a ≤ 79 → gi ν a = gi μ a) ∧ gi ν iM 20 = gi μ iM 20
    | .inr x => ans = j32 x.2.length ∧ LayR ν x.2 := by
  have e11 : gi μ iM 11 = A iM 11 := (RH.sc hA).2.2.2.2.1
  have hhi := gi_hi μ iM 11
  rw [e11] at hhi
  obtain ⟨κ, hκ⟩ : ∃ κ, κ = wr (wr (wr (wr μ iM 12 0) iM 13 N) iM 16 0) iM 18 0 := ⟨_, rfl⟩
  have fκ : ∀ a, a ≠ iM → gi κ a = gi μ a := fun a h => by rw [hκ, gi_wr_f h, gi_wr_f h, gi_wr_f h, gi_wr_f h]
  have hB : ROK κ (fun z => bT (A iM_tape z)) N := by
    refine ⟨?_, by omega, fun z z0 z1 => ?_⟩
    · rw [hκ, gi_wr_z (by omega), gi_wr_z (by omega), gi_wr (by omega)]
    · have hb := byt (ht z z0 (by omega))
      rw [fκ _ (by decide), RH.at hA (o := iM_tape) rfl]
      exact ⟨hb.2.2.1, hb.1, hb.2.1⟩
  have hK : KRw κ N 0 [] κ := by
    refine ⟨RLw.rf, ?_, by omega, 0, ?_, by omega, ?_, by decide, fun i h => absurd h (Nat.not_lt_zero _)⟩
    · rw [hκ, gi_wr_z (by omega), gi_wr_z (by omega), gi_wr_z (by omega), gi_wr (by omega)]
    · rw [hκ, gi_wr_z (by omega), gi_wr (by omega)]
    · rw [hκ, gi_wr (by omega)]; rfl
  generalize hT : (fun z => bT (A iM_tape z)) = T at *
  have hmain : xok (xbd (fX12_readsClause κ) fun q6 => xloop xfu bdW (q6.1, q6.2)) (KW κ N (pAll (sgT T N) N)) := by
    obtain ⟨v, r1, r2⟩ := rcla hB hK
    rw [r1, xbd_e]
    unfold pAll
    rw [show (([] : List Cl).length : Int) = 0 from rfl] at r2
    cases hr : pCla (sgT T N) 0 0 with
    | inl ev =>
      rw [hr] at r2
      exact w_endF r2 999999
    | inr ev =>
      obtain ⟨q, cl⟩ := ev
      rw [hr] at r2
      obtain ⟨v1, v2⟩ := v
      obtain ⟨r3, r4, r5⟩ := r2
      have h' : v1 = j32 1 := r3
      subst h'
      exact r_loopW hB 14 q [cl] v2 rfl r5 999985
  obtain ⟨v, m1, m2⟩ := hmain
  have eE : fX12_law (j32 N) μ = (xlt (xpI v.2 iM 11 0) fun μ13 => if v.1 = 0 then (some (μ13.1 iM 14, μ13)) else (xlt (xpI μ13 iM 20 (μ13.1 iM 18)) fun μ14 => xbd (xloop xfu (fun v => fX12_law_b110 v.1 v.2) (0, μ14)) fun q21 => xbd (xloop xfu (fun v => fX12_law_b138 v.1 v.2) (0, q21)) fun q34 => some (q34.1 iM 18, q34))) := by
    have e1 : fX12_in (j32 N) 1 200 = some (j32 1) := by
      unfold fX12_in
      rw [if_neg (show ¬ j32 N < 1 from fun d => by have := (j_lt (b := 1) (by omega) (by omega)).mp d; omega), if_neg (show ¬ 200 < j32 N from fun d => by have := (j_lt (a := 200) (by omega) (by omega)).mp d; omega)]; rfl
    obtain ⟨ρ, r1, r2⟩ := xbd_some m1
    unfold fX12_law
    rw [e1, xbd_e, if_neg (show ¬ j32 1 = 0 from by decide), j_rd μ iM 11, show gi μ iM ((11 : Nat) : Int) = A iM 11 from e11, if_pos ((j_le (by omega) (by omega)).mpr hN2), xlt_e, xlt_e, xlt_e, xlt_e, show xpI (xpI (xpI (xpI μ iM 12 0) iM 13 (j32 N)) iM 16 0) iM 18 0 = κ from hκ.symm, r1, xbd_e, r2, xbd_e]
  rw [eE, xlt_e]
  obtain ⟨v1, v2⟩ := v
  have fr : ∀ ν, RLw κ ν → ∀ ω, (∀ (a : Nat) (z : Int), 0 ≤ z → ¬(a = iM ∧ (z = 11 ∨ z = 20)) → ¬(75 ≤ a ∧ a ≤ 79) → gi ω a z = gi ν a z) → gi ω iM 11 = 0 → FrR μ ω := by
    intro ν h ω hω h11
    refine ⟨fun a z z0 c1 c2 => ?_, h11⟩
    rw [hω a z z0 (by omega) (by omega), h a z z0 (by omega) (by omega)]
    by_cases c : a = iM
    · subst c
      rw [hκ, gi_wr_z (by omega), gi_wr_z (by omega), gi_wr_z (by omega), gi_wr_z (by omega)]
    · rw [fκ a c]
  generalize pAll (sgT T N) N = pr at m2 ⊢
  cases pr with
  | inl ev =>
    obtain ⟨h1, d1, d2⟩ := m2
    have h' : v1 = j32 0 := h1
    subst h'
    have d1' : RLw κ v2 := d1
    have d2' : gi v2 iM 14 = -1000 * ev.1 - ev.2 := d2
    rw [if_pos (show (j32 0, v2).1 = 0 from rfl)]
    refine ⟨_, wr v2 iM 11 0, rfl, fr v2 d1' _ (fun a z z0 c1 c2 => ?_) (gi_wr (by omega)), ?_, fun a a0 a1 => ?_, ?_⟩
    · by_cases c : a = iM
      · subst c
        rw [gi_wr_z (by omega)]
      · rw [gi_wr_o c]
    · rw [j_rd]
      show j32 (gi (wr v2 iM 11 0) iM 14) = _
      rw [gi_wr_z (by omega), d2']
    · have na : a ≠ iM := by show a ≠ 61; omega
      rw [gi_wr_f na]
      refine gi_nn fun z z0 => ?_
      rw [d1' a z z0 (by omega) (by omega), fκ a na]
    · rw [gi_wr_z (by omega), d1' iM 20 (by omega) (by omega) (by decide), hκ, gi_wr_z (by omega), gi_wr_z (by omega), gi_wr_z (by omega), gi_wr_z (by omega)]
  | inr ev =>
    obtain ⟨h1, hL, h12, hp, s, h16, hs, h18, hln, hcl⟩ := m2
    have h' : v1 = j32 1 := h1
    subst h'
    simp only at hL h12 h16 h18 hcl
    rw [if_neg (show ¬ (j32 1, v2).1 = 0 from (by decide : ¬ j32 1 = 0))]
    obtain ⟨π, hπ⟩ : ∃ π, π = wr (wr v2 iM 11 0) iM 20 ev.2.length := ⟨_, rfl⟩
    have e18 : gi (wr v2 iM 11 0) iM ((18 : Nat) : Int) = ev.2.length := by
      show gi (wr v2 iM 11 0) iM 18 = _
      rw [gi_wr_z (by omega)]; exact h18
    have p18 : gi π iM 18 = ev.2.length := by rw [hπ, gi_wr_z (by omega), gi_wr_z (by omega)]; exact h18
    have p16 : gi π iM 16 = s := by rw [hπ, gi_wr_z (by omega), gi_wr_z (by omega)]; exact h16
    have fπ : ∀ a, a ≠ iM → gi π a = gi v2 a := fun a h => by rw [hπ, gi_wr_f h, gi_wr_f h]
    obtain ⟨ν, n1, n2, n3⟩ := r_copy1 p16 (by omega)
    obtain ⟨ω, o1, o2, o3⟩ := r_copy2 (μ := ν) (m := ev.2.length) (by rw [n2 iM (by decide)]; exact p18) hln
    rw [show xpI (j32 1, v2).2 iM 11 0 = wr v2 iM 11 0 from rfl, xlt_e, j_rd (wr v2 iM 11 0) iM 18, e18, show xpI (wr v2 iM 11 0) iM 20 (j32 ev.2.length) = π from hπ.symm, n1, xbd_e, o1, xbd_e]
    have w20 : gi ω iM 20 = ev.2.length := by rw [o2 iM (by decide), n2 iM (by decide), hπ, gi_wr (by omega)]
    have wcd : ∀ z, 0 ≤ z → z < s → gi ω iM_codes z = gi v2 iM_said z := fun z z0 z1 => by
      rw [o2 iM_codes (by decide), n3 z z0 z1, fπ _ (by decide)]
    refine ⟨_, ω, rfl, fr v2 hL _ (fun a z z0 c1 c2 => ?_) ?_, ?_, w20, hln, fun i hi => ?_⟩
    · rw [o2 a (by omega), n2 a (by show a ≠ 75; omega)]
      by_cases c : a = iM
      · subst c
        rw [hπ, gi_wr_z (by omega), gi_wr_z (by omega)]
      · rw [fπ a c]
    · rw [o2 iM (by decide), n2 iM (by decide), hπ, gi_wr_z (by omega), gi_wr (by omega)]
    · rw [j_rd]
      show j32 (gi ω iM 18) = _
      rw [o2 iM (by decide), n2 iM (by decide), p18]
    · obtain ⟨y1, y2, y3, y4⟩ := hcl i hi
      obtain ⟨z1, z2, z3, z4⟩ := o3 i (by omega) (by omega)
      rw [z1, z2, z3, z4, n2 iM_saidLetter (by decide), n2 iM_saidFrom (by decide), n2 iM_saidHalf (by decide), n2 iM_saidTo (by decide), fπ iM_saidLetter (by decide), fπ iM_saidFrom (by decide), fπ iM_saidHalf (by decide), fπ iM_saidTo (by decide)]
      exact ⟨y1, y2.keep wcd (by have := y3.2.1; omega), y3.keep wcd y4, by omega⟩
