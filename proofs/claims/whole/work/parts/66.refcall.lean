/-! called: the reference -/
def frV (μ ν : xm) : Prop := ∀ o, o ≠ iM_liveFrom → o ≠ iM_isUsed → gi ν o = gi μ o
theorem frV.rf {μ : xm} : frV μ μ := fun _ _ _ => rfl
theorem frV.tr {μ ν ρ : xm} (h1 : frV μ ν) (h2 : frV ν ρ) : frV μ ρ := fun o a b => (h2 o a b).trans (h1 o a b)
theorem frV.RH {A : xAs} {μ ν : xm} (h : frV μ ν) (hA : RH A μ) : RH A ν :=
  RH.mk (fun o ho => (h o (by rintro rfl; exact absurd ho (by decide)) (by rintro rfl; exact absurd ho (by decide))).trans (RH.at hA ho)) (by rw [h iM (by decide) (by decide)]; exact RH.sc hA)
theorem aLive_now {A : xAs} {i d e : Int} (h : aLive A i d) (he : e ≤ d) : aLive A i e := ⟨h.1, h.2.imp id (fun h => by omega)⟩
/-- what is live on a day -/
theorem rc68 {A : xAs} {μ ν : xm} (hA : RH A μ) (hI : Inv A) {y d : Int} (hy : 0 ≤ y ∧ y < 8) (hd : 0 ≤ d ∧ d ≤ 6) (hf : frV μ ν) (h0 : gi ν iM_liveFrom d = 0) : xok (xloop xfu (fun v => fX12_called_b68 v.1 v.2 (j32 y) (j32 d)) (j32 0, ν)) (fun ν' => frV μ ν' ∧ gi ν' iM_liveFrom d = FF A y d ∧ (∀ z, 0 ≤ z → z ≠ d → gi ν' iM_liveFrom z = gi ν iM_liveFrom z)) := by
  have h37 := hI.notes
  have hn := hI.now
  refine xok_for (fun k s => s.1 = j32 k ∧ frV μ s.2 ∧ gi s.2 iM_liveFrom d = sumTo (owT A (-1) y (A iM 0 + d)) k ∧ (∀ z, 0 ≤ z → z ≠ d → gi s.2 iM_liveFrom z = gi ν iM_liveFrom z)) (A iM 37).toNat (by omega) ⟨rfl, hf, h0, fun _ _ _ => rfl⟩ ?_ ?_
  · intro k s hk hs
    obtain ⟨s1, σ⟩ := s
    obtain ⟨g1, g2, g3, g4⟩ := hs
    simp only at g1 g2 g3 g4
    subst g1
    have hA2 := g2.RH hA
    have hN : isN A k := ⟨by omega, by omega⟩
    have b1 := hI.hasIt k hN.1 hN.2
    have b3 := hI.leftOf k hN.1 hN.2
    have hS := owS_b hI (x := -1) (y := y) (d := A iM 0 + d) (k := k) (by omega)
    have e0 : gi σ iM 0 = A iM 0 := (RH.sc hA2).1
    have e37 : gi σ iM 37 = A iM 37 := (RH.sc hA2).2.2.2.2.2.2.1
    have e1 : gi σ iM_hasIt k = A iM_hasIt k := by rw [RH.at hA2 (by decide)]
    have e2 : gi σ iM_leftOf k = A iM_leftOf k := by rw [RH.at hA2 (by decide)]
    have eL := eX12_isLive hA2 hI (i := k) (by omega)
    have eO := eX12_isLiveOn hA2 hI hN (d := A iM 0 + d) (by omega)
    obtain ⟨S, hSe⟩ : ∃ S, sumTo (owT A (-1) y (A iM 0 + d)) k = S := ⟨_, rfl⟩
    rw [hSe] at g3 hS
    have fin : ∀ v : Int, v = owT A (-1) y (A iM 0 + d) k → fX12_called_b68 (j32 k) σ (j32 y) (j32 d) = some (.inl (j32 ((k : Int) + 1), wr σ iM_liveFrom d (S + v))) → xok (fX12_called_b68 (j32 k) σ (j32 y) (j32 d)) (Sum.elim (fun s => s.1 = j32 ((k + 1 : Nat) : Int) ∧ frV μ s.2 ∧ gi s.2 iM_liveFrom d = sumTo (owT A (-1) y (A iM 0 + d)) (k + 1) ∧ (∀ z, 0 ≤ z → z ≠ d → gi s.2 iM_liveFrom z = gi ν iM_liveFrom z)) (fun ν' => frV μ ν' ∧ gi ν' iM_liveFrom d = FF A y d ∧ (∀ z, 0 ≤ z → z ≠ d → gi ν' iM_liveFrom z = gi ν iM_liveFrom z))) := by
      intro v hv he
      have hvb : 0 ≤ v ∧ v ≤ 1440 := by rw [hv]; exact owT_b hI hN
      refine ⟨_, he, rfl, fun o a b => ?_, ?_, fun z a b => ?_⟩
      · rw [gi_wr_f a]; exact g2 o a b
      · rw [gi_wr (by omega), sumTo_s, hSe, ← hv]
      · rw [gi_wr_z (by omega)]; exact g4 z a b
    show xok (fX12_called_b68 (j32 k) σ (j32 y) (j32 d)) _
    by_cases c1 : aLive A k (A iM 0)
    · by_cases c2 : A iM_hasIt k = y
      · by_cases c3 : aLive A k (A iM 0 + d)
        · refine fin (A iM_leftOf k) (by unfold owT owC; rw [if_pos ⟨c3, Or.inl rfl, Or.inr c2⟩]) ?_
          unfold fX12_called_b68
          simp (disch := omega) only [Bool.false_eq_true, lits, jj, jc, jm, Int.cast_ofNat_Int, j_bi0, j_bi1, not_true, not_false_eq_true, if_true, if_false, xe, xok_some, Sum.elim_inl, Sum.elim_inr, Int.reduceEq, Int.reduceLT, Int.reduceLE, Int.reduceAdd, Int.reduceSub, Int.reduceMul, e37, show ¬ A iM 37 ≤ (k : Int) by omega, g3, eL, eq_true hN, eq_true c1, and_self, e1, c2, e0, eO, eq_true c3, e2]
        · refine fin 0 (owT_no c3).symm ?_
          unfold fX12_called_b68
          simp (disch := omega) only [Bool.false_eq_true, lits, jj, jc, jm, Int.cast_ofNat_Int, j_bi0, j_bi1, not_true, not_false_eq_true, if_true, if_false, xe, xok_some, Sum.elim_inl, Sum.elim_inr, Int.reduceEq, Int.reduceLT, Int.reduceLE, Int.reduceAdd, Int.reduceSub, Int.reduceMul, e37, show ¬ A iM 37 ≤ (k : Int) by omega, g3, eL, eq_true hN, eq_true c1, and_self, e1, c2, e0, eO, eq_false c3]
      · refine fin 0 (by unfold owT owC; rw [if_neg (by omega)]) ?_
        unfold fX12_called_b68
        simp (disch := omega) only [Bool.false_eq_true, lits, jj, jc, jm, Int.cast_ofNat_Int, j_bi0, j_bi1, not_true, not_false_eq_true, if_true, if_false, xe, xok_some, Sum.elim_inl, Sum.elim_inr, Int.reduceEq, Int.reduceLT, Int.reduceLE, Int.reduceAdd, Int.reduceSub, Int.reduceMul, e37, show ¬ A iM 37 ≤ (k : Int) by omega, g3, eL, eq_true hN, eq_true c1, and_self, e1, c2]
    · refine fin 0 (owT_no (fun h => c1 (aLive_now h (by omega)))).symm ?_
      unfold fX12_called_b68
      simp (disch := omega) only [Bool.false_eq_true, lits, jj, jc, jm, Int.cast_ofNat_Int, j_bi0, j_bi1, not_true, not_false_eq_true, if_true, if_false, xe, xok_some, Sum.elim_inl, Sum.elim_inr, Int.reduceEq, Int.reduceLT, Int.reduceLE, Int.reduceAdd, Int.reduceSub, Int.reduceMul, e37, show ¬ A iM 37 ≤ (k : Int) by omega, g3, eL, eq_true hN, eq_false c1, and_false]
  · intro s hs
    obtain ⟨s1, σ⟩ := s
    obtain ⟨g1, g2, g3, g4⟩ := hs
    simp only at g1 g2 g3 g4
    subst g1
    have hA2 := g2.RH hA
    have e37 : gi σ iM 37 = A iM 37 := (RH.sc hA2).2.2.2.2.2.2.1
    show xok (fX12_called_b68 _ σ (j32 y) (j32 d)) _
    unfold fX12_called_b68
    simp (disch := omega) only [Bool.false_eq_true, lits, jj, jc, jm, Int.cast_ofNat_Int, j_bi0, j_bi1, not_true, not_false_eq_true, if_true, if_false, xe, xok_some, Sum.elim_inl, Sum.elim_inr, Int.reduceEq, Int.reduceLT, Int.reduceLE, Int.reduceAdd, Int.reduceSub, Int.reduceMul, e37, show A iM 37 ≤ (((A iM 37).toNat : Nat) : Int) by omega]
    exact ⟨g2, g3, g4⟩
theorem rc51 {A : xAs} {μ : xm} (hA : RH A μ) (hI : Inv A) {y : Int} (hy : 0 ≤ y ∧ y < 8) {m : Nat} (hm : m ≤ 7) : xok (xloop xfu (fun v => fX12_called_b51 v.1 v.2 (j32 y) (j32 m)) (j32 0, μ)) (fun ν => frV μ ν ∧ ∀ i : Nat, i < m → gi ν iM_liveFrom i = FF A y i) := by
  refine xok_for (fun k s => s.1 = j32 k ∧ frV μ s.2 ∧ ∀ i : Nat, i < k → gi s.2 iM_liveFrom i = FF A y i) m (by omega) ⟨rfl, frV.rf, fun i hi => by omega⟩ ?_ ?_
  · intro k s hk hs
    obtain ⟨s1, σ⟩ := s
    obtain ⟨g1, g2, g3⟩ := hs
    simp only at g1 g2 g3
    subst g1
    have f1 : frV μ (wr σ iM_liveFrom k 0) := fun o a b => (gi_wr_f a).trans (g2 o a b)
    obtain ⟨ν', r1, r2, r3, r4⟩ := rc68 hA hI hy (d := k) (by omega) f1 (gi_wr (by omega))
    show xok (fX12_called_b51 (j32 k) σ _ _) _
    unfold fX12_called_b51
    simp only [lits] at r1 ⊢
    rw [if_neg (by rw [j_le (by omega) (by omega)]; omega), j_sI (by omega), xbd_e, r1, xbd_e, xlt_e, j_add, xok_some]
    refine ⟨rfl, r2, fun i hi => ?_⟩
    by_cases c : i = k
    · subst c; exact r3
    · rw [r4 i (by omega) (by omega), gi_wr_z (by omega)]; exact g3 i (by omega)
  · intro s hs
    obtain ⟨s1, σ⟩ := s
    obtain ⟨g1, g2, g3⟩ := hs
    simp only at g1 g2 g3
    subst g1
    show xok (fX12_called_b51 _ σ (j32 y) (j32 m)) _
    unfold fX12_called_b51
    simp (disch := omega) only [Bool.false_eq_true, lits, jj, jc, jm, Int.cast_ofNat_Int, j_bi0, j_bi1, not_true, not_false_eq_true, if_true, if_false, xe, xok_some, Sum.elim_inl, Sum.elim_inr, Int.reduceEq, Int.reduceLT, Int.reduceLE, Int.reduceAdd, Int.reduceSub, Int.reduceMul, Int.le_refl]
    exact ⟨g2, g3⟩
theorem rc154 {μ : xm} : xok (xloop xfu (fun v => fX12_called_b154 v.1 v.2) (j32 0, μ)) (fun ν => (∀ o, o ≠ iM_isUsed → gi ν o = gi μ o) ∧ ∀ i : Nat, i < 168 → gi ν iM_isUsed i = 0) := by
  refine xok_for (fun k s => s.1 = j32 k ∧ (∀ o, o ≠ iM_isUsed → gi s.2 o = gi μ o) ∧ ∀ i : Nat, i < k → gi s.2 iM_isUsed i = 0) 168 (by omega) ⟨rfl, fun _ _ => rfl, fun i hi => by omega⟩ ?_ ?_
  · intro k s hk hs
    obtain ⟨s1, σ⟩ := s
    obtain ⟨g1, g2, g3⟩ := hs
    simp only at g1 g2 g3
    subst g1
    show xok (fX12_called_b154 (j32 k) σ) _
    unfold fX12_called_b154
    simp only [lits]
    rw [if_neg (by rw [j_le (by omega) (by omega)]; omega), j_sZ (by omega) (Or.inl rfl), xbd_e, xlt_e, j_add, xok_some]
    refine ⟨rfl, fun o a => (gi_wr_f a).trans (g2 o a), fun i hi => ?_⟩
    by_cases c : i = k
    · subst c; exact gi_wr (by omega)
    · show gi (wr σ _ _ _) _ _ = _
      rw [gi_wr_z (by omega)]; exact g3 i (by omega)
  · intro s hs
    obtain ⟨s1, σ⟩ := s
    obtain ⟨g1, g2, g3⟩ := hs
    simp only at g1 g2 g3
    subst g1
    show xok (fX12_called_b154 (j32 (168 : Nat)) σ) _
    unfold fX12_called_b154
    simp (disch := omega) only [Bool.false_eq_true, lits, jj, jc, jm, Int.cast_ofNat_Int, j_bi0, j_bi1, not_true, not_false_eq_true, if_true, if_false, xe, xok_some, Sum.elim_inl, Sum.elim_inr, Int.reduceEq, Int.reduceLT, Int.reduceLE, Int.reduceAdd, Int.reduceSub, Int.reduceMul, show ((168 : Nat) : Int) = 168 from rfl]
    exact ⟨g2, g3⟩
/-- the dearest hour that is not used -/
def wk (A : xAs) (y k : Int) : Int := wF A y (k % 24)
def dr (A : xAs) (y : Int) (U : Int → Int) : Nat → Int
  | 0 => -1
  | k + 1 => if U k = 0 ∧ (dr A y U k = -1 ∨ wk A y (dr A y U k) < wk A y k) then (k : Int) else dr A y U k
theorem dr_s {A : xAs} {y : Int} {U : Int → Int} {k : Nat} : dr A y U (k + 1) = if U k = 0 ∧ (dr A y U k = -1 ∨ wk A y (dr A y U k) < wk A y k) then (k : Int) else dr A y U k := rfl
theorem dr_ok {A : xAs} {y : Int} {U : Int → Int} : ∀ k : Nat, (-1 ≤ dr A y U k ∧ dr A y U k < k) ∧ (dr A y U k = -1 → ∀ j : Nat, j < k → U j ≠ 0) ∧ (dr A y U k ≠ -1 → U (dr A y U k) = 0 ∧ ∀ j : Nat, j < k → U j = 0 → wk A y j ≤ wk A y (dr A y U k))
  | 0 => ⟨⟨Int.le_refl _, by show (-1 : Int) < ((0 : Nat) : Int); omega⟩, fun _ j hj => by omega, fun h => absurd rfl h⟩
  | k + 1 => by
    obtain ⟨i1, i2, i3⟩ := dr_ok (A := A) (y := y) (U := U) k
    rw [dr_s]
    by_cases c : U k = 0 ∧ (dr A y U k = -1 ∨ wk A y (dr A y U k) < wk A y k)
    · rw [if_pos c]
      refine ⟨by omega, fun h => by omega, fun _ => ⟨c.1, fun j hj hu => ?_⟩⟩
      by_cases e : j = k
      · subst e; exact Int.le_refl _
      · rcases c.2 with c2 | c2
        · exact absurd hu (i2 c2 j (by omega))
        · by_cases e2 : dr A y U k = -1
          · exact absurd hu (i2 e2 j (by omega))
          · have := (i3 e2).2 j (by omega) hu; omega
    · rw [if_neg c]
      refine ⟨by omega, fun h j hj hu => ?_, fun h => ⟨(i3 h).1, fun j hj hu => ?_⟩⟩
      · by_cases e : j = k
        · subst e; exact c ⟨hu, Or.inl h⟩
        · exact i2 h j (by omega) hu
      · by_cases e : j = k
        · subst e
          by_cases q : wk A y (dr A y U j) < wk A y j
          · exact absurd ⟨hu, Or.inr q⟩ c
          · omega
        · exact (i3 h).2 j (by omega) hu
theorem eX12_dearest {A : xAs} {ν : xm} (hA : RH A ν) (hI : Inv A) {y : Int} (hy : 0 ≤ y ∧ y < 8) {m : Nat} (hm : m ≤ 7) : fX12_dearest (j32 y) (j32 m) ν = some (j32 (dr A y (gi ν iM_isUsed) (24 * m))) := by
  have ew : ∀ z : Int, gi ν iM_worthOf z = A iM_worthOf z := fun z => by rw [RH.at hA (by decide)]
  have key : xloop xfu (fun v => fX12_dearest_b5 v.1 v.2 (j32 y) (j32 m) ν) (j32 (-1), j32 0) = some (j32 (dr A y (gi ν iM_isUsed) (24 * m))) := by
    refine xloop_for (fun k : Nat => (j32 (dr A y (gi ν iM_isUsed) k), j32 k)) (24 * m) (by omega) rfl ?_ ?_
    · intro k hk
      have hd := (dr_ok (A := A) (y := y) (U := gi ν iM_isUsed) k).1
      rw [dr_s]
      obtain ⟨b, hb⟩ : ∃ b, dr A y (gi ν iM_isUsed) k = b := ⟨_, rfl⟩
      rw [hb] at hd ⊢
      have mk : ∀ z : Int, 0 ≤ z → z < 168 → (j32 z - j32 z / j32 24 * j32 24) = j32 (z % 24) := fun z a b => by
        rw [j_div (by omega) (by omega), Int.tdiv_eq_ediv_of_nonneg a, j_mul, j_sub]; congr 1; omega
      have wk1 := wF_b hI hy (h := (k : Int) % 24) (by omega)
      have wb1 := wF_b hI hy (h := b % 24) (by omega)
      have g1 : gi ν iM_worthOf (24 * y + (k : Int) % 24) = wF A y ((k : Int) % 24) := ew _
      have g2 : gi ν iM_worthOf (24 * y + b % 24) = wF A y (b % 24) := ew _
      show fX12_dearest_b5 (j32 b) (j32 k) (j32 y) (j32 m) ν = _
      unfold fX12_dearest_b5 wk
      by_cases c1 : gi ν iM_isUsed k = 0
      · by_cases c2 : b = -1
        · simp (disch := omega) only [Bool.false_eq_true, lits, jj, jc, jm, Int.cast_ofNat_Int, j_bi0, j_bi1, not_true, not_false_eq_true, if_true, if_false, xe, xok_some, Sum.elim_inl, Sum.elim_inr, Int.reduceEq, Int.reduceLT, Int.reduceLE, Int.reduceAdd, Int.reduceSub, Int.reduceMul, show ¬ 24 * (m : Int) ≤ k by omega, c1, c2, true_or, and_self]
          rfl
        · by_cases c3 : wF A y (b % 24) < wF A y ((k : Int) % 24)
          · simp (disch := omega) only [Bool.false_eq_true, lits, jj, jc, jm, Int.cast_ofNat_Int, j_bi0, j_bi1, not_true, not_false_eq_true, if_true, if_false, xe, xok_some, Sum.elim_inl, Sum.elim_inr, Int.reduceEq, Int.reduceLT, Int.reduceLE, Int.reduceAdd, Int.reduceSub, Int.reduceMul, show ¬ 24 * (m : Int) ≤ k by omega, c1, c2, c3, or_true, and_self, mk, g1, g2, show ¬ wF A y ((k : Int) % 24) ≤ wF A y (b % 24) by omega]
            rfl
          · simp (disch := omega) only [Bool.false_eq_true, lits, jj, jc, jm, Int.cast_ofNat_Int, j_bi0, j_bi1, not_true, not_false_eq_true, if_true, if_false, xe, xok_some, Sum.elim_inl, Sum.elim_inr, Int.reduceEq, Int.reduceLT, Int.reduceLE, Int.reduceAdd, Int.reduceSub, Int.reduceMul, show ¬ 24 * (m : Int) ≤ k by omega, c1, c2, c3, or_false, and_false, mk, g1, g2, show wF A y ((k : Int) % 24) ≤ wF A y (b % 24) by omega]
            rfl
      · have lo := gi_lo ν iM_isUsed k
        have hi := gi_hi ν iM_isUsed k
        simp (disch := omega) only [Bool.false_eq_true, lits, jj, jc, jm, Int.cast_ofNat_Int, j_bi0, j_bi1, not_true, not_false_eq_true, if_true, if_false, xe, xok_some, Sum.elim_inl, Sum.elim_inr, Int.reduceEq, Int.reduceLT, Int.reduceLE, Int.reduceAdd, Int.reduceSub, Int.reduceMul, show ¬ 24 * (m : Int) ≤ k by omega, c1, false_and]
        rfl
    · show fX12_dearest_b5 _ (j32 ((24 * m : Nat) : Int)) _ _ ν = _
      unfold fX12_dearest_b5
      simp (disch := omega) only [Bool.false_eq_true, lits, jj, jc, jm, Int.cast_ofNat_Int, j_bi0, j_bi1, not_true, not_false_eq_true, if_true, if_false, xe, xok_some, Sum.elim_inl, Sum.elim_inr, Int.reduceEq, Int.reduceLT, Int.reduceLE, Int.reduceAdd, Int.reduceSub, Int.reduceMul, show 24 * (m : Int) ≤ ((24 * m : Nat) : Int) by omega]
  unfold fX12_dearest
  simp only [lits]
  rw [j_neg, key, xbd_e]
