/-! how the program reads a factor, and so any sum -/
theorem csum {B : xm} {R : xr} {o : Nat} {T : Int → Int} {N u op : Int} (hB : BOK B R o T N) {rd : Int32 → xm → xr → Option xm} {Fc : Int → Int → Rs Ph} (hu : 1 ≤ u) (hG : GoodR id B R o N rd Fc op u) : GoodR id B R o N (fX1_readSum rd) (pSum (sgT T N) Fc) op (u + 2) := by
  intro p s μ h hs hsp hp
  unfold fX1_readSum pSum
  obtain ⟨ρ, r1, r2⟩ := hG p s μ h hs hsp hp
  rw [r1, xbd_e]
  cases hr : Fc op p with
  | inl ev =>
    rw [hr] at r2
    exact xok_bd.mpr (d_loopS hB r2 rd op _ _ 999999)
  | inr ev =>
    rw [hr] at r2
    obtain ⟨s3, g1, g2, g3, g4, g5, g6⟩ := r2
    refine xok_bd.mpr ?_
    exact e_loopS hB hs hsp (by omega) hu hG 200 ev.1 (-1) none ev.2 ρ (by omega) ⟨g5, g4, rfl, s3, g1, g2, g3, g6.mono (by omega)⟩ 999799
theorem dsum {B : xm} {R : xr} {o : Nat} {T : Int → Int} {N op : Int} (hB : BOK B R o T N) {rd : Int32 → xm → xr → Option xm} (hD : DeadR B R o rd op) : DeadR B R o (fX1_readSum rd) op := by
  intro f q μ h
  unfold fX1_readSum
  obtain ⟨ρ, r1, r2⟩ := hD f q μ h
  rw [r1, xbd_e]
  exact xok_bd.mpr (d_loopS hB r2 rd op _ _ 999999)
theorem dfac {B : xm} {R : xr} {o : Nat} (g : Int32 → xm → xr → Option xm) (op : Int) : DeadR B R o (fX1_readFactor g) op := by
  intro f q μ h
  unfold fX1_readFactor
  rw [d_sign h, xbd_e, if_neg (by decide), show fX1_isDigit (j32 (-1)) = some 0 from by decide, xbd_e, if_pos rfl, show fX0_isFact (j32 (-1)) = some 0 from by decide, xbd_e, if_pos rfl, d_stop h, xbd_e]
  exact xok_some.mpr h
abbrev bdN (v : Int32 × Int32 × xm) : Option ((Int32 × Int32 × xm) ⊕ (Int32 × xm)) := fX1_readFactor_b48 v.1 v.2.1 v.2.2
theorem e_numL {B : xm} {R : xr} {o : Nat} {T : Int → Int} {N s : Int} {c : Int → Int} (hB : BOK B R o T N) : ∀ (k : Nat) (v p : Int) (μ : xm), k ≤ 5 → CS B o p s μ → gi μ (o + 5) = c → 0 ≤ p → p ≤ N → 0 ≤ v → (v + 1) * 10 ^ k ≤ 100000 → ∀ n, xok (xloop (n + k + 1) bdN (j32 v, j32 (5 - k), μ)) (fun q => q.1 = j32 (numV (sgT T N) k v p).1 ∧ CS B o (numV (sgT T N) k v p).2 s q.2 ∧ gi q.2 (o + 5) = c ∧ p ≤ (numV (sgT T N) k v p).2 ∧ (numV (sgT T N) k v p).2 ≤ N ∧ 0 ≤ (numV (sgT T N) k v p).1 ∧ (numV (sgT T N) k v p).1 ≤ 99999) := by
  intro k
  induction k with
  | zero =>
    intro v p μ hk h hc h0 hp hv hl n
    have e : bdN (j32 v, j32 (5 - (0 : Nat)), μ) = some (.inr (j32 v, μ)) := by
      show fX1_readFactor_b48 (j32 v) (j32 (5 - (0 : Nat))) μ = _
      unfold fX1_readFactor_b48
      rw [if_pos (by decide)]
    unfold xloop
    rw [e]
    exact xok_some.mpr ⟨rfl, h, hc, Int.le_refl _, hp, hv, by show v ≤ 99999; omega⟩
  | succ k ih =>
    intro v p μ hk h hc h0 hp hv hl n
    have hN := hB.2.2.2.1
    have hsg := sgT_b hB p
    have isg := e_sign hB h (by omega)
    have idg := e_isDg (c := sgT T N p) (by omega)
    have h10 : (10 : Int) ^ (k + 1) = 10 ^ k * 10 := Int.pow_succ _ _
    have hm : (0 : Int) < 10 ^ k := Int.pow_pos (by omega)
    have hvv : v + 1 ≤ 100000 := by
      have h1 : (v + 1) * 1 ≤ (v + 1) * 10 ^ (k + 1) := Int.mul_le_mul_of_nonneg_left (by omega) (by omega)
      omega
    rw [show n + (k + 1) + 1 = (n + k + 1) + 1 by omega]
    obtain ⟨i, hi⟩ : ∃ i : Int, i = 5 - ((k + 1 : Nat) : Int) := ⟨_, rfl⟩
    have hi1 : 5 - (k : Int) = i + 1 := by omega
    rw [← hi]
    rw [hi1] at ih
    have i5 : ¬ 5 ≤ i := by omega
    unfold xloop numV
    by_cases d : isDg (sgT T N p)
    · have hpN := hsg.2.2 (by unfold isDg at d; omega)
      rw [bi, if_pos d] at idg
      have e : bdN (j32 v, j32 i, μ) = some (.inl (j32 (v * 10 + sgT T N p - 48), j32 (i + 1), wr μ iC_reader 4 (p + 1))) := by
        show fX1_readFactor_b48 (j32 v) (j32 i) μ = _
        unfold fX1_readFactor_b48
        simp (disch := omega) only [Bool.false_eq_true, lits, jj, jc, jm, Int.cast_ofNat_Int, j_bi0, j_bi1, not_true, not_false_eq_true, if_true, if_false, xe, xok_some, Sum.elim_inl, Sum.elim_inr, Int.reduceEq, Int.reduceLT, Int.reduceLE, Int.reduceAdd, Int.reduceSub, Int.reduceMul, isg, idg, i5, h.2.1]
      rw [e]
      simp only [if_pos d]
      obtain ⟨w1, w2⟩ := CS.go hB h hpN
      have d2 : 48 ≤ sgT T N p ∧ sgT T N p ≤ 57 := d
      refine xok_mono (ih (v * 10 + sgT T N p - 48) (p + 1) _ (by omega) w1 (w2.trans hc) (by omega) (by omega) (by omega) ?_ n) ?_
      · have h1 : (v * 10 + sgT T N p - 48 + 1) * 10 ^ k ≤ ((v + 1) * 10) * 10 ^ k := Int.mul_le_mul_of_nonneg_right (by omega) (by omega)
        have h2 : ((v + 1) * 10) * 10 ^ k = (v + 1) * (10 ^ k * 10) := by rw [Int.mul_assoc, Int.mul_comm 10]
        rw [h10] at hl
        omega
      · rintro q ⟨a1, a2, a3, a4, a5, a6, a7⟩
        exact ⟨a1, a2, a3, by omega, a5, a6, a7⟩
    · rw [bi, if_neg d] at idg
      have e : bdN (j32 v, j32 i, μ) = some (.inr (j32 v, μ)) := by
        show fX1_readFactor_b48 (j32 v) (j32 i) μ = _
        unfold fX1_readFactor_b48
        simp (disch := omega) only [Bool.false_eq_true, lits, jj, jc, jm, Int.cast_ofNat_Int, j_bi0, j_bi1, not_true, not_false_eq_true, if_true, if_false, xe, xok_some, Sum.elim_inl, Sum.elim_inr, Int.reduceEq, Int.reduceLT, Int.reduceLE, Int.reduceAdd, Int.reduceSub, Int.reduceMul, isg, idg, i5]
      rw [e]
      simp only [if_neg d]
      exact xok_some.mpr ⟨rfl, h, hc, Int.le_refl _, hp, hv, by show v ≤ 99999; omega⟩
theorem isF_none {c : Int} (h : -1 ≤ c ∧ c ≤ 255) (hf : fcI c = none) : fX0_isFact (j32 c) = some (j32 0) := by
  unfold fcI at hf
  have hn : ¬(c = 97 ∨ c = 98 ∨ c = 100 ∨ c = 103 ∨ c = 104 ∨ c = 107 ∨ c = 110 ∨ c = 114 ∨ c = 118 ∨ c = 119 ∨ c = 120 ∨ c = 121) := by
    intro hc
    rcases hc with rfl | rfl | rfl | rfl | rfl | rfl | rfl | rfl | rfl | rfl | rfl | rfl <;> cases hf
  unfold fX0_isFact
  simp (disch := omega) only [Bool.false_eq_true, lits, jj, jc, jm, Int.cast_ofNat_Int, j_bi0, j_bi1, not_true, not_false_eq_true, if_true, if_false, xe, xok_some, Sum.elim_inl, Sum.elim_inr, Int.reduceEq, Int.reduceLT, Int.reduceLE, Int.reduceAdd, Int.reduceSub, Int.reduceMul]
  rw [if_neg hn]
theorem isF_some {c : Int} {i : Nat} (hf : fcI c = some i) : fX0_isFact (j32 c) = some (j32 1) ∧ 97 ≤ c ∧ c ≤ 121 := by
  unfold fcI at hf
  repeat' split at hf
  all_goals first | (cases hf; subst_vars; exact ⟨by decide, by decide, by decide⟩) | cases hf
