/-! lateIf -/
def lW (A : xAs) (p a b : Int) : Int → Int := fun e => if wWay A p e b ≤ a then 0 else wWt A p e
def sLW (A : xAs) (p a b : Int) : Int := sumTo (lW A p a b) (wEnds A p).toNat
theorem lW_b {A : xAs} (hI : Inv A) {p a b e : Int} (hp : 0 ≤ p ∧ p < 8) (he : 0 ≤ e ∧ e < wEnds A p) : 0 ≤ lW A p a b e ∧ lW A p a b e ≤ wWt A p e ∧ lW A p a b e ≤ 20 := by
  have := wWt_b hI hp he
  unfold lW; split <;> omega
theorem lWs_b {A : xAs} (hI : Inv A) {p a b : Int} (hp : 0 ≤ p ∧ p < 8) {k : Nat} (hk : (k : Int) ≤ wEnds A p) : 0 ≤ sumTo (lW A p a b) k ∧ sumTo (lW A p a b) k ≤ 20 * k :=
  sumTo_b (fun z h1 h2 => by have := lW_b hI (a := a) (b := b) hp (e := z) (by omega); omega)
theorem sLW_b {A : xAs} (hI : Inv A) {p a b : Int} (hp : 0 ≤ p ∧ p < 8) : 0 ≤ sLW A p a b ∧ sLW A p a b ≤ 100 := by
  have h1 := wEnds_b hI hp
  have := lWs_b hI (a := a) (b := b) hp (k := (wEnds A p).toNat) (by omega)
  unfold sLW; omega
theorem sLW_all {A : xAs} (hI : Inv A) {p a b : Int} (hp : 0 ≤ p ∧ p < 8) : sLW A p a b ≤ wAll A p := by
  unfold sLW wAll
  have : ∀ k : Nat, (k : Int) ≤ wEnds A p → sumTo (lW A p a b) k ≤ sumTo (wWt A p) k := by
    intro k
    induction k with
    | zero => intro _; exact Int.le_refl _
    | succ k ih =>
      intro h
      have h1 := ih (by omega)
      have h2 := lW_b hI (a := a) (b := b) hp (e := (k : Int)) (by omega)
      rw [sumTo_s, sumTo_s]; omega
  have h1 := wEnds_b hI hp
  exact this _ (by omega)
theorem eX10_lateEnds {A : xAs} {μ : xm} {R : xr} {n : Nat} (hC : CH A μ R n) (hI : Inv A) {p a b : Int} (hp : 0 ≤ p ∧ p < 8) (ha : 0 ≤ a ∧ a ≤ 600) (hb : 0 ≤ b ∧ b ≤ 1) : fX10_lateEnds (j32 p) (j32 a) (j32 b) μ = some (j32 (sLW A p a b)) := by
  have h1 := wEnds_b hI hp
  have e1 := eX10_endsOf hC hI hp
  unfold fX10_lateEnds
  have key := xloop_for (b := fun v => fX10_lateEnds_b6 v.1 v.2 (j32 p) (j32 a) (j32 b) μ) (fun k => (j32 (sumTo (lW A p a b) k), j32 k)) (wEnds A p).toNat (r := j32 (sLW A p a b)) (a := (0, 0)) (by omega) rfl ?_ ?_
  · rw [key]; rfl
  · intro k hk
    show fX10_lateEnds_b6 _ _ _ _ _ μ = _
    have h2 := wWay_b hI hp (e := (k : Int)) (b := b) (by omega)
    have h4 := lWs_b hI (a := a) (b := b) hp (k := k) (by omega)
    have h3 := wWt_b hI hp (e := (k : Int)) (by omega)
    have e2 := eX10_weightOf hC hI hp (e := (k : Int)) (by omega)
    have e3 := eX10_takes hC hI hp (e := (k : Int)) (by omega) hb
    unfold fX10_lateEnds_b6
    by_cases c : wWay A p k b ≤ a
    · simp (disch := omega) only [Bool.false_eq_true, lits, jj, jc, jm, Int.cast_ofNat_Int, j_bi0, j_bi1, not_true, not_false_eq_true, if_true, if_false, xe, xok_some, Sum.elim_inl, Sum.elim_inr, Int.reduceEq, Int.reduceLT, Int.reduceLE, Int.reduceAdd, Int.reduceSub, Int.reduceMul, e1, e3, show ¬ wEnds A p ≤ k by omega, c]
      rw [sumTo_s, show lW A p a b k = 0 from if_pos c, Int.add_zero]; rfl
    · simp (disch := omega) only [Bool.false_eq_true, lits, jj, jc, jm, Int.cast_ofNat_Int, j_bi0, j_bi1, not_true, not_false_eq_true, if_true, if_false, xe, xok_some, Sum.elim_inl, Sum.elim_inr, Int.reduceEq, Int.reduceLT, Int.reduceLE, Int.reduceAdd, Int.reduceSub, Int.reduceMul, e1, e3, e2, show ¬ wEnds A p ≤ k by omega, c]
      rw [sumTo_s, show lW A p a b k = wWt A p k from if_neg c]; rfl
  · show fX10_lateEnds_b6 _ _ _ _ _ μ = _
    unfold fX10_lateEnds_b6
    simp (disch := omega) only [Bool.false_eq_true, lits, jj, jc, jm, Int.cast_ofNat_Int, j_bi0, j_bi1, not_true, not_false_eq_true, if_true, if_false, xe, xok_some, Sum.elim_inl, Sum.elim_inr, Int.reduceEq, Int.reduceLT, Int.reduceLE, Int.reduceAdd, Int.reduceSub, Int.reduceMul, e1, show wEnds A p ≤ (wEnds A p).toNat by omega]
    rfl
theorem eX12_lateWeight {A : xAs} {μ : xm} (hA : RH A μ) (hI : Inv A) {p a b : Int} (hp : 0 ≤ p ∧ p < 8) (ha : 0 ≤ a ∧ a ≤ 600) (hb : 0 ≤ b ∧ b ≤ 1) : fX12_lateWeight (j32 p) (j32 a) (j32 b) μ = some (j32 (sLW A p a b)) := by
  have h1 := wEnds_b hI hp
  have e1 := eX12_endsOf hA hI hp
  unfold fX12_lateWeight
  have key := xloop_for (b := fun v => fX12_lateWeight_b6 v.1 v.2 (j32 p) (j32 a) (j32 b) μ) (fun k => (j32 (sumTo (lW A p a b) k), j32 k)) (wEnds A p).toNat (r := j32 (sLW A p a b)) (a := (0, 0)) (by omega) rfl ?_ ?_
  · rw [key]; rfl
  · intro k hk
    show fX12_lateWeight_b6 _ _ _ _ _ μ = _
    have h2 := wWay_b hI hp (e := (k : Int)) (b := b) (by omega)
    have h4 := lWs_b hI (a := a) (b := b) hp (k := k) (by omega)
    have h3 := wWt_b hI hp (e := (k : Int)) (by omega)
    have e2 := eX12_weightAt hA hI hp (e := (k : Int)) (by omega)
    have e3 := eX12_wayAt hA hI hp (e := (k : Int)) (by omega) hb
    unfold fX12_lateWeight_b6
    by_cases c : wWay A p k b ≤ a
    · simp (disch := omega) only [Bool.false_eq_true, lits, jj, jc, jm, Int.cast_ofNat_Int, j_bi0, j_bi1, not_true, not_false_eq_true, if_true, if_false, xe, xok_some, Sum.elim_inl, Sum.elim_inr, Int.reduceEq, Int.reduceLT, Int.reduceLE, Int.reduceAdd, Int.reduceSub, Int.reduceMul, e1, e3, show ¬ wEnds A p ≤ k by omega, c]
      rw [sumTo_s, show lW A p a b k = 0 from if_pos c]; rfl
    · simp (disch := omega) only [Bool.false_eq_true, lits, jj, jc, jm, Int.cast_ofNat_Int, j_bi0, j_bi1, not_true, not_false_eq_true, if_true, if_false, xe, xok_some, Sum.elim_inl, Sum.elim_inr, Int.reduceEq, Int.reduceLT, Int.reduceLE, Int.reduceAdd, Int.reduceSub, Int.reduceMul, e1, e3, e2, show ¬ wEnds A p ≤ k by omega, c]
      rw [sumTo_s, show lW A p a b k = wWt A p k from if_neg c]; rfl
  · show fX12_lateWeight_b6 _ _ _ _ _ μ = _
    unfold fX12_lateWeight_b6
    simp (disch := omega) only [Bool.false_eq_true, lits, jj, jc, jm, Int.cast_ofNat_Int, j_bi0, j_bi1, not_true, not_false_eq_true, if_true, if_false, xe, xok_some, Sum.elim_inl, Sum.elim_inr, Int.reduceEq, Int.reduceLT, Int.reduceLE, Int.reduceAdd, Int.reduceSub, Int.reduceMul, e1, show wEnds A p ≤ (wEnds A p).toNat by omega]
    rfl
theorem eX12_weightsOf {A : xAs} {μ : xm} (hA : RH A μ) (hI : Inv A) {p : Int} (hp : 0 ≤ p ∧ p < 8) : fX12_weightsOf (j32 p) μ = some (j32 (wAll A p)) := by
  have h1 := wEnds_b hI hp
  have e1 := eX12_endsOf hA hI hp
  unfold fX12_weightsOf
  have key := xloop_for (b := fun v => fX12_weightsOf_b4 v.1 v.2 (j32 p) μ) (fun k => (j32 (sumTo (wWt A p) k), j32 k)) (wEnds A p).toNat (r := j32 (wAll A p)) (a := (0, 0)) (by omega) rfl ?_ ?_
  · rw [key]; rfl
  · intro k hk
    show fX12_weightsOf_b4 _ _ _ μ = _
    have e2 := eX12_weightAt hA hI hp (e := (k : Int)) (by omega)
    unfold fX12_weightsOf_b4
    simp (disch := omega) only [Bool.false_eq_true, lits, jj, jc, jm, Int.cast_ofNat_Int, j_bi0, j_bi1, not_true, not_false_eq_true, if_true, if_false, xe, xok_some, Sum.elim_inl, Sum.elim_inr, Int.reduceEq, Int.reduceLT, Int.reduceLE, Int.reduceAdd, Int.reduceSub, Int.reduceMul, e1, e2, show ¬ wEnds A p ≤ k by omega]
    rfl
  · show fX12_weightsOf_b4 _ _ _ μ = _
    unfold fX12_weightsOf_b4
    simp (disch := omega) only [Bool.false_eq_true, lits, jj, jc, jm, Int.cast_ofNat_Int, j_bi0, j_bi1, not_true, not_false_eq_true, if_true, if_false, xe, xok_some, Sum.elim_inl, Sum.elim_inr, Int.reduceEq, Int.reduceLT, Int.reduceLE, Int.reduceAdd, Int.reduceSub, Int.reduceMul, e1, show wEnds A p ≤ (wEnds A p).toNat by omega]
    rfl
/-- how long Euclid goes on -/
def euB : Nat → Nat
  | 0 => 40000
  | 1 => 40000
  | k + 2 => euB (k + 1) * 2 / 3
theorem euB_40 : euB 40 = 0 := by decide +kernel
theorem euB_le : ∀ k, euB k ≤ 40000
  | 0 => by decide
  | 1 => by decide
  | k + 2 => by have := euB_le (k + 1); unfold euB; omega
theorem j_rem {a b : Int} (ha : 0 ≤ a ∧ a < 1000000) (hb : 0 < b ∧ b < 1000000) : xrem (j32 a) (j32 b) = some (j32 (a % b)) := by
  unfold xrem
  have h1 : ¬ j32 b = 0 := by rw [show (0 : Int32) = j32 0 from rfl, j_eq (by omega) (by omega)]; omega
  rw [if_neg h1, j_div (by omega) (by omega), j_mul, j_sub, Int.tdiv_eq_ediv_of_nonneg ha.1]
  congr 2
  have := Int.mul_ediv_add_emod a b
  rw [Int.mul_comm] at this
  omega
theorem eu_step {a b : Int} {B : Nat} (ha : 0 ≤ a) (hb : 0 < b) (h : a + b ≤ B) (hab : b ≤ a) : b + a % b ≤ ((B * 2 / 3 : Nat) : Int) := by
  have h1 := Int.emod_nonneg a (show b ≠ 0 by omega)
  have h2 := Int.emod_lt_of_pos a hb
  have h3 := Int.mul_ediv_add_emod a b
  have h4 : 1 ≤ a / b := by
    have := Int.ediv_le_ediv hb hab
    rwa [Int.ediv_self (by omega)] at this
  have h5 : b * 1 ≤ b * (a / b) := Int.mul_le_mul_of_nonneg_left h4 (by omega)
  omega
theorem gcds {x y : Int} (hx : 0 ≤ x ∧ x ≤ 20000) (hy : 1 ≤ y ∧ y ≤ 20000) : ∃ g : Int, 1 ≤ g ∧ g ≤ 40000 ∧ fX11_commonDivisor (j32 x) (j32 y) = some (j32 g) ∧ fX12_gcd (j32 x) (j32 y) = some (j32 g) := by
  have key := xsim_for (b := fun v => fX11_commonDivisor_b7 v.1 v.2.1 v.2.2) (c := fun v => fX12_gcd_b4 v.1 v.2) (a := (j32 x, j32 y, j32 0)) (a' := (j32 x, j32 y)) (P := fun r s => r = s ∧ ∃ g : Int, 1 ≤ g ∧ g ≤ 40000 ∧ r = j32 g)
    (fun k v w => ∃ a b : Int, 0 ≤ a ∧ 0 ≤ b ∧ 1 ≤ a + b ∧ a + b ≤ euB k ∧ (1 ≤ k → b < a) ∧ v = (j32 a, j32 b, j32 k) ∧ w = (j32 a, j32 b)) 40 (by omega) ⟨x, y, hx.1, by omega, by omega, by show x + y ≤ ((40000 : Nat) : Int); omega, by omega, rfl, rfl⟩ ?_ ?_
  · obtain ⟨r, s, k1, k2, rfl, g, h1, h2, rfl⟩ := key
    refine ⟨g, h1, h2, ?_, ?_⟩
    · unfold fX11_commonDivisor
      rw [show ((j32 x, j32 y, (0 : Int32))) = (j32 x, j32 y, j32 0) from rfl, k1]; rfl
    · unfold fX12_gcd
      rw [k2]; rfl
  · intro k v w hk hh
    obtain ⟨a, b, ha, hb, h1, h2, h3, rfl, rfl⟩ := hh
    have hB := euB_le k
    by_cases c : b = 0
    · subst c
      refine Or.inr ⟨j32 a, j32 a, ?_, ?_, rfl, a, by omega, by omega, rfl⟩
      · show fX11_commonDivisor_b7 _ _ _ = _
        unfold fX11_commonDivisor_b7
        simp (disch := omega) only [Bool.false_eq_true, lits, jj, jc, jm, Int.cast_ofNat_Int, j_bi0, j_bi1, not_true, not_false_eq_true, if_true, if_false, xe, xok_some, Sum.elim_inl, Sum.elim_inr, Int.reduceEq, Int.reduceLT, Int.reduceLE, Int.reduceAdd, Int.reduceSub, Int.reduceMul, show ¬ (64 : Int) ≤ k by omega]
      · show fX12_gcd_b4 _ _ = _
        unfold fX12_gcd_b4
        simp (disch := omega) only [Bool.false_eq_true, lits, jj, jc, jm, Int.cast_ofNat_Int, j_bi0, j_bi1, not_true, not_false_eq_true, if_true, if_false, xe, xok_some, Sum.elim_inl, Sum.elim_inr, Int.reduceEq, Int.reduceLT, Int.reduceLE, Int.reduceAdd, Int.reduceSub, Int.reduceMul]
    · refine Or.inl ⟨(j32 b, j32 (a % b), j32 ((k + 1 : Nat) : Int)), (j32 b, j32 (a % b)), ?_, ?_, b, a % b, by omega, Int.emod_nonneg a (by omega), ?_, ?_, ?_, rfl, rfl⟩
      · show fX11_commonDivisor_b7 _ _ _ = _
        unfold fX11_commonDivisor_b7 fX11_leftOver
        simp (disch := omega) only [Bool.false_eq_true, lits, jj, jc, jm, Int.cast_ofNat_Int, j_bi0, j_bi1, not_true, not_false_eq_true, if_true, if_false, xe, xok_some, Sum.elim_inl, Sum.elim_inr, Int.reduceEq, Int.reduceLT, Int.reduceLE, Int.reduceAdd, Int.reduceSub, Int.reduceMul, show ¬ (64 : Int) ≤ k by omega, c, j_rem]
        rfl
      · show fX12_gcd_b4 _ _ = _
        unfold fX12_gcd_b4
        simp (disch := omega) only [Bool.false_eq_true, lits, jj, jc, jm, Int.cast_ofNat_Int, j_bi0, j_bi1, not_true, not_false_eq_true, if_true, if_false, xe, xok_some, Sum.elim_inl, Sum.elim_inr, Int.reduceEq, Int.reduceLT, Int.reduceLE, Int.reduceAdd, Int.reduceSub, Int.reduceMul, c, j_rem]
      · have := Int.emod_nonneg a (show b ≠ 0 by omega); omega
      · cases k with
        | zero =>
          by_cases d : b ≤ a
          · have := eu_step ha (by omega) h2 d
            have e : euB 0 = 40000 := rfl
            have e1 : euB (0 + 1) = 40000 := rfl
            rw [e] at this; rw [e1]; omega
          · rw [Int.emod_eq_of_lt ha (by omega)]
            have e : euB 0 = 40000 := rfl
            have e1 : euB (0 + 1) = 40000 := rfl
            rw [e1]; rw [e] at h2; omega
        | succ k => exact eu_step ha (by omega) h2 (by have := h3 (by omega); omega)
      · intro _; exact Int.emod_lt_of_pos a (by omega)
  · intro v w hh
    obtain ⟨a, b, ha, hb, h1, h2, h3, rfl, rfl⟩ := hh
    rw [euB_40] at h2
    omega
theorem mul_100 {a b : Int} (h1 : 0 ≤ a ∧ a ≤ 100) (h2 : 0 ≤ b ∧ b ≤ 100) : 0 ≤ a * b ∧ a * b ≤ 10000 := by
  have h3 := Int.mul_nonneg h1.1 h2.1
  have h4 := Int.mul_le_mul h1.2 h2.2 h2.1 (by omega)
  omega
theorem s_lateIf {A : xAs} {μ : xm} {R : xr} {n : Nat} (hA : RH A μ) (hC : CH A μ R n) (hI : Inv A) (a1 a2 a3 : Int32) : ∃ q, fX11_lateIf a1 a2 a3 μ = some q ∧ fX12_lateIf a1 a2 a3 μ = some q := by
  obtain ⟨p, rfl, hp⟩ := j32_ex a1
  obtain ⟨a, rfl, ha⟩ := j32_ex a2
  obtain ⟨w, rfl, hw⟩ := j32_ex a3
  unfold fX11_lateIf fX12_lateIf
  simp only [lits]
  rw [eX11_isPerson hp, eX12_isPerson hp, eX11_within ha (by omega) (by omega), eX12_in ha (by omega) (by omega), eX11_within hw (by omega) (by omega), eX12_in hw (by omega) (by omega)]
  by_cases c1 : 0 ≤ p ∧ p < 8
  · by_cases c2 : 0 ≤ a ∧ a ≤ 600
    · by_cases c3 : 0 ≤ w ∧ w ≤ 1
      · have h5 := hI.bridge
        have l0 := sLW_b hI (a := a) (b := 0) c1
        have l1 := sLW_b hI (a := a) (b := 1) c1
        have hW := wAll_b hI c1
        have m0 := mul_100 (show 0 ≤ bW A 0 ∧ bW A 0 ≤ 100 by unfold bW; split <;> omega) l0
        have m1 := mul_100 (show 0 ≤ bW A 1 ∧ bW A 1 ≤ 100 by unfold bW; split <;> omega) l1
        have m2 := mul_100 (show 0 ≤ A iM 54 ∧ A iM 54 ≤ 100 by omega) (show 0 ≤ wAll A p ∧ wAll A p ≤ 100 by omega)
        have m3 : 1 ≤ A iM 54 * wAll A p := by have := Int.mul_pos (show 0 < A iM 54 by omega) (show 0 < wAll A p by omega); omega
        obtain ⟨x, hx⟩ : ∃ x, bW A 0 * sLW A p a 0 + bW A 1 * sLW A p a 1 = x := ⟨_, rfl⟩
        obtain ⟨y, hy⟩ : ∃ y, A iM 54 * wAll A p = y := ⟨_, rfl⟩
        obtain ⟨g, hg1, hg2, k1, k2⟩ := gcds (x := x) (y := y) (by omega) (by omega)
        have bx : ∀ (z b : Int), 0 ≤ b → b ≤ 1 → fX10_lateWeights_b5 (j32 z) (j32 b) (j32 p) (j32 a) μ = some (.inl (j32 (z + bW A b * sLW A p a b), j32 (b + 1))) := by
          intro z b hb1 hb2
          have e1 := eX10_bridgeWeight hC (b := b) ⟨hb1, hb2⟩
          rw [show (if b = 1 then A iM 53 else A iM 54 - A iM 53) = bW A b from rfl] at e1
          have e2 := eX10_lateEnds hC hI c1 c2 ⟨hb1, hb2⟩
          unfold fX10_lateWeights_b5
          simp (disch := omega) only [Bool.false_eq_true, lits, jj, jc, jm, Int.cast_ofNat_Int, j_bi0, j_bi1, not_true, not_false_eq_true, if_true, if_false, xe, xok_some, Sum.elim_inl, Sum.elim_inr, Int.reduceEq, Int.reduceLT, Int.reduceLE, Int.reduceAdd, Int.reduceSub, Int.reduceMul, e1, e2, show ¬ 2 ≤ b by omega]
        have k4 : fX10_lateWeights (j32 p) (j32 a) μ = some (j32 x) := by
          unfold fX10_lateWeights
          have t0 := bx 0 0 (by omega) (by omega)
          have t1 := bx (0 + bW A 0 * sLW A p a 0) 1 (by omega) (by omega)
          have t2 : fX10_lateWeights_b5 (j32 (0 + bW A 0 * sLW A p a 0 + bW A 1 * sLW A p a 1)) (j32 2) (j32 p) (j32 a) μ = some (.inr (j32 x)) := by
            unfold fX10_lateWeights_b5
            simp (disch := omega) only [Bool.false_eq_true, lits, jj, jc, jm, Int.cast_ofNat_Int, j_bi0, j_bi1, not_true, not_false_eq_true, if_true, if_false, xe, xok_some, Sum.elim_inl, Sum.elim_inr, Int.reduceEq, Int.reduceLT, Int.reduceLE, Int.reduceAdd, Int.reduceSub, Int.reduceMul, Int.zero_add, Int.le_refl, hx]
          have key : xloop (999997 + 1 + 1 + 1) (fun v => fX10_lateWeights_b5 v.1 v.2 (j32 p) (j32 a) μ) (j32 0, j32 0) = some (j32 x) := (xl_l t0).trans ((xl_l t1).trans (xl_r t2))
          rw [show xloop xfu (fun v => fX10_lateWeights_b5 v.1 v.2 (j32 p) (j32 a) μ) (0, 0) = some (j32 x) from key]
          rfl
        have hb0 := eX12_bridgeWeight hA (b := 0) (by omega)
        have hb1 := eX12_bridgeWeight hA (b := 1) (by omega)
        rw [show (if (0 : Int) = 1 then A iM 53 else A iM 54 - A iM 53) = bW A 0 from rfl] at hb0
        rw [show (if (1 : Int) = 1 then A iM 53 else A iM 54 - A iM 53) = bW A 1 from rfl] at hb1
        have t0 := eX12_lateWeight hA hI c1 c2 (b := 0) (by omega)
        have t1 := eX12_lateWeight hA hI c1 c2 (b := 1) (by omega)
        have tw := eX12_weightsOf hA hI c1
        have tc := eX10_weightsOf hC c1
        have e54 : gi μ iM 54 = A iM 54 := (RH.sc hA).2.2.2.2.2.2.2.2.1
        have hxd : ∀ z : Int, xdiv (j32 z) (j32 g) = some (j32 z / j32 g) := by
          intro z
          unfold xdiv
          rw [if_neg (by rw [show (0 : Int32) = j32 0 from rfl, j_eq (by omega) (by omega)]; omega)]
        refine ⟨if w = 0 then j32 x / j32 g else j32 y / j32 g, ?_, ?_⟩
        · by_cases c : w = 0
          · simp (disch := omega) only [Bool.false_eq_true, lits, jj, jc, jm, Int.cast_ofNat_Int, j_bi0, j_bi1, not_true, not_false_eq_true, if_true, if_false, xe, xok_some, Sum.elim_inl, Sum.elim_inr, Int.reduceEq, Int.reduceLT, Int.reduceLE, Int.reduceAdd, Int.reduceSub, Int.reduceMul, eq_true c1, eq_true c2, eq_true c3, and_self, k4, fX10_allOfBridge, hC.all, tc, hy, c, fX11_lateIf_j69, k1, fX11_whole, hxd, show ¬ g = 0 by omega]
          · simp (disch := omega) only [Bool.false_eq_true, lits, jj, jc, jm, Int.cast_ofNat_Int, j_bi0, j_bi1, not_true, not_false_eq_true, if_true, if_false, xe, xok_some, Sum.elim_inl, Sum.elim_inr, Int.reduceEq, Int.reduceLT, Int.reduceLE, Int.reduceAdd, Int.reduceSub, Int.reduceMul, eq_true c1, eq_true c2, eq_true c3, and_self, k4, fX10_allOfBridge, hC.all, tc, hy, c, fX11_lateIf_j69, k1, fX11_whole, hxd, show ¬ g = 0 by omega]
        · by_cases c : w = 0
          · simp (disch := omega) only [Bool.false_eq_true, lits, jj, jc, jm, Int.cast_ofNat_Int, j_bi0, j_bi1, not_true, not_false_eq_true, if_true, if_false, xe, xok_some, Sum.elim_inl, Sum.elim_inr, Int.reduceEq, Int.reduceLT, Int.reduceLE, Int.reduceAdd, Int.reduceSub, Int.reduceMul, eq_true c1, eq_true c2, eq_true c3, and_self, hb0, hb1, t0, t1, tw, e54, hx, hy, k2, c, hxd]
          · simp (disch := omega) only [Bool.false_eq_true, lits, jj, jc, jm, Int.cast_ofNat_Int, j_bi0, j_bi1, not_true, not_false_eq_true, if_true, if_false, xe, xok_some, Sum.elim_inl, Sum.elim_inr, Int.reduceEq, Int.reduceLT, Int.reduceLE, Int.reduceAdd, Int.reduceSub, Int.reduceMul, eq_true c1, eq_true c2, eq_true c3, and_self, hb0, hb1, t0, t1, tw, e54, hx, hy, k2, c, hxd]
      · exact ⟨j32 (-1), by simp (disch := omega) only [Bool.false_eq_true, lits, jj, jc, jm, Int.cast_ofNat_Int, j_bi0, j_bi1, not_true, not_false_eq_true, if_true, if_false, xe, xok_some, Sum.elim_inl, Sum.elim_inr, Int.reduceEq, Int.reduceLT, Int.reduceLE, Int.reduceAdd, Int.reduceSub, Int.reduceMul, eq_true c1, eq_true c2, eq_false c3], by simp (disch := omega) only [Bool.false_eq_true, lits, jj, jc, jm, Int.cast_ofNat_Int, j_bi0, j_bi1, not_true, not_false_eq_true, if_true, if_false, xe, xok_some, Sum.elim_inl, Sum.elim_inr, Int.reduceEq, Int.reduceLT, Int.reduceLE, Int.reduceAdd, Int.reduceSub, Int.reduceMul, eq_true c1, eq_true c2, eq_false c3]⟩
    · exact ⟨j32 (-1), by simp (disch := omega) only [Bool.false_eq_true, lits, jj, jc, jm, Int.cast_ofNat_Int, j_bi0, j_bi1, not_true, not_false_eq_true, if_true, if_false, xe, xok_some, Sum.elim_inl, Sum.elim_inr, Int.reduceEq, Int.reduceLT, Int.reduceLE, Int.reduceAdd, Int.reduceSub, Int.reduceMul, eq_true c1, eq_false c2], by simp (disch := omega) only [Bool.false_eq_true, lits, jj, jc, jm, Int.cast_ofNat_Int, j_bi0, j_bi1, not_true, not_false_eq_true, if_true, if_false, xe, xok_some, Sum.elim_inl, Sum.elim_inr, Int.reduceEq, Int.reduceLT, Int.reduceLE, Int.reduceAdd, Int.reduceSub, Int.reduceMul, eq_true c1, eq_false c2]⟩
  · exact ⟨j32 (-1), by simp (disch := omega) only [Bool.false_eq_true, lits, jj, jc, jm, Int.cast_ofNat_Int, j_bi0, j_bi1, not_true, not_false_eq_true, if_true, if_false, xe, xok_some, Sum.elim_inl, Sum.elim_inr, Int.reduceEq, Int.reduceLT, Int.reduceLE, Int.reduceAdd, Int.reduceSub, Int.reduceMul, eq_false c1], by simp (disch := omega) only [Bool.false_eq_true, lits, jj, jc, jm, Int.cast_ofNat_Int, j_bi0, j_bi1, not_true, not_false_eq_true, if_true, if_false, xe, xok_some, Sum.elim_inl, Sum.elim_inr, Int.reduceEq, Int.reduceLT, Int.reduceLE, Int.reduceAdd, Int.reduceSub, Int.reduceMul, eq_false c1]⟩
