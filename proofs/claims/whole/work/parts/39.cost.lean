/-! what a coming costs -/
theorem l_add (a b : Int) : l64 a + l64 b = l64 (a + b) := (Int64.ofInt_add a b).symm
theorem l_mul (a b : Int) : l64 a * l64 b = l64 (a * b) := (Int64.ofInt_mul a b).symm
theorem l_of {z : Int} (h : -2147483648 ≤ z ∧ z < 2147483648) : (j32 z).toInt64 = l64 z := by
  apply Int64.toInt_inj.mp
  unfold l64
  rw [Int32.toInt_toInt64, toInt_j32 h.1 h.2, Int64.toInt_ofInt_of_le (by omega) (by omega)]
def hH (c : Int) : Int := max 0 (min 23 (c.tdiv 60))
theorem hH_b (c : Int) : 0 ≤ hH c ∧ hH c < 24 := by unfold hH; omega
theorem tdiv60 {c : Int} (h : -100000 ≤ c ∧ c ≤ 100000) : -1667 ≤ c.tdiv 60 ∧ c.tdiv 60 ≤ 1667 := by
  rcases Int.le_total 0 c with h1 | h1
  · rw [Int.tdiv_eq_ediv_of_nonneg h1]; omega
  · obtain ⟨d, rfl⟩ : ∃ d, c = -d := ⟨-c, by omega⟩
    rw [Int.neg_tdiv, Int.tdiv_eq_ediv_of_nonneg (by omega)]; omega
theorem tdiv60n {c : Int} (h : c < 0) : c.tdiv 60 ≤ 0 := by
  obtain ⟨d, rfl⟩ : ∃ d, c = -d := ⟨-c, by omega⟩
  rw [Int.neg_tdiv, Int.tdiv_eq_ediv_of_nonneg (by omega)]; omega
/-- coming at c to m -/
def cCome (A : xAs) (m p c t : Int) : Int := if c < A iM_minuteOf m then (A iM_minuteOf m - c) * A iM_worthOf (24 * p + hH c) else (c - A iM_minuteOf m) * (pc (A iM_peopleOf m) - 1) * t
theorem eX12_worthAt {A : xAs} {μ : xm} (hA : RH A μ) {p c : Int} (hp : 0 ≤ p ∧ p < 8) (hc : -100000 ≤ c ∧ c ≤ 100000) : fX12_worthAt (j32 p) (j32 c) μ = some (j32 (A iM_worthOf (24 * p + hH c))) := by
  have h1 := tdiv60 hc
  unfold fX12_worthAt fX12_worthAt_j26
  simp only [lits, jj]
  rw [j_div (by omega) (by omega)]
  by_cases c1 : 0 ≤ c
  · by_cases c2 : c.tdiv 60 ≤ 23
    · have h2 : 0 ≤ c.tdiv 60 := by rw [Int.tdiv_eq_ediv_of_nonneg c1]; omega
      rw [show hH c = c.tdiv 60 by unfold hH; omega]
      simp (disch := omega) only [Bool.false_eq_true, lits, jj, jc, jm, Int.cast_ofNat_Int, j_bi0, j_bi1, not_true, not_false_eq_true, if_true, if_false, xe, xok_some, Sum.elim_inl, Sum.elim_inr, Int.reduceEq, Int.reduceLT, Int.reduceLE, Int.reduceAdd, Int.reduceSub, Int.reduceMul, c1, c2, hA]
    · rw [show hH c = 23 by unfold hH; omega]
      simp (disch := omega) only [Bool.false_eq_true, lits, jj, jc, jm, Int.cast_ofNat_Int, j_bi0, j_bi1, not_true, not_false_eq_true, if_true, if_false, xe, xok_some, Sum.elim_inl, Sum.elim_inr, Int.reduceEq, Int.reduceLT, Int.reduceLE, Int.reduceAdd, Int.reduceSub, Int.reduceMul, c1, c2, hA]
  · have h2 := tdiv60n (show c < 0 by omega)
    rw [show hH c = 0 by unfold hH; omega]
    simp (disch := omega) only [Bool.false_eq_true, lits, jj, jc, jm, Int.cast_ofNat_Int, j_bi0, j_bi1, not_true, not_false_eq_true, if_true, if_false, xe, xok_some, Sum.elim_inl, Sum.elim_inr, Int.reduceEq, Int.reduceLT, Int.reduceLE, Int.reduceAdd, Int.reduceSub, Int.reduceMul, c1, hA]
theorem eX10_costOfComing {A : xAs} {μ : xm} {R : xr} {n : Nat} (hC : CH A μ R n) (hI : Inv A) {m p c t : Int} (hm : 0 ≤ m ∧ m < A iM 1) (hp : 0 ≤ p ∧ p < 8) (hc : -100000 ≤ c ∧ c ≤ 100000) (ht : 0 ≤ t ∧ t ≤ 99) : fX10_costOfComing (oM m) (j32 p) (j32 c) (j32 t) μ = some (l64 (cCome A m p c t)) := by
  have h1 := tdiv60 hc
  have e1 := hC.minute m hm.1 hm.2
  have h2 := hI.minuteOf m hm.1 hm.2
  have h3 := mc_P hC hI hm
  have e3 := hC.people m hm.1 hm.2
  have h4 := pc_b (A iM_peopleOf m)
  have h5 := hI.worthOf (24 * p + hH c) (by have := hH_b c; omega) (by have := hH_b c; omega)
  have e5 := eX5_worthAt hC hp (hH_b c)
  have e6 := eJ6_bitCount (P := A iM_peopleOf m) (hI.peopleOf m hm.1 hm.2)
  unfold fX10_costOfComing fX11_held fX2_many cCome
  simp only [lits, jj, Int.cast_ofNat_Int, e1]
  rw [j_div (by omega) (by omega), j_min (by omega) (by omega), j_max (by omega) (by omega), show max 0 (min 23 (c.tdiv 60)) = hH c from rfl, e3]
  by_cases c1 : c < A iM_minuteOf m
  · simp (disch := omega) only [Bool.false_eq_true, lits, jj, jc, jm, Int.cast_ofNat_Int, j_bi0, j_bi1, not_true, not_false_eq_true, if_true, if_false, xe, xok_some, Sum.elim_inl, Sum.elim_inr, Int.reduceEq, Int.reduceLT, Int.reduceLE, Int.reduceAdd, Int.reduceSub, Int.reduceMul, e5, eq_true c1, show 0 < A iM_minuteOf m - c by omega, l_of, l_mul]
  · simp (disch := omega) only [Bool.false_eq_true, lits, jj, jc, jm, Int.cast_ofNat_Int, j_bi0, j_bi1, not_true, not_false_eq_true, if_true, if_false, xe, xok_some, Sum.elim_inl, Sum.elim_inr, Int.reduceEq, Int.reduceLT, Int.reduceLE, Int.reduceAdd, Int.reduceSub, Int.reduceMul, e6, eq_false c1, show ¬ 0 < A iM_minuteOf m - c by omega, l_of, l_mul, show -(A iM_minuteOf m - c) = c - A iM_minuteOf m by omega]
theorem eX12_comingCost {A : xAs} {μ : xm} (hA : RH A μ) (hI : Inv A) {m p c t : Int} (hm : 0 ≤ m ∧ m < A iM 1) (hp : 0 ≤ p ∧ p < 8) (hc : -100000 ≤ c ∧ c ≤ 100000) (ht : 0 ≤ t ∧ t ≤ 99) : fX12_comingCost (j32 m) (j32 p) (j32 c) (j32 t) μ = some (l64 (cCome A m p c t)) := by
  have h0 := hI.mt
  have h2 := hI.minuteOf m hm.1 hm.2
  have h3 := hI.peopleOf m hm.1 hm.2
  have h4 := pc_b (A iM_peopleOf m)
  have h5 := hI.worthOf (24 * p + hH c) (by have := hH_b c; omega) (by have := hH_b c; omega)
  unfold fX12_comingCost cCome
  simp only [lits]
  rw [eX12_worthAt hA hp hc]
  by_cases c1 : c < A iM_minuteOf m
  · simp (disch := omega) only [Bool.false_eq_true, lits, jj, jc, jm, Int.cast_ofNat_Int, j_bi0, j_bi1, not_true, not_false_eq_true, if_true, if_false, xe, xok_some, Sum.elim_inl, Sum.elim_inr, Int.reduceEq, Int.reduceLT, Int.reduceLE, Int.reduceAdd, Int.reduceSub, Int.reduceMul, eq_true c1, hA, show ¬ A iM_minuteOf m ≤ c by omega, l_of, l_mul]
  · have h6 : fX12_bits (j32 (A iM_peopleOf m)) = some (j32 (pc (A iM_peopleOf m))) := eX12_bits h3
    simp (disch := omega) only [Bool.false_eq_true, lits, jj, jc, jm, Int.cast_ofNat_Int, j_bi0, j_bi1, not_true, not_false_eq_true, if_true, if_false, xe, xok_some, Sum.elim_inl, Sum.elim_inr, Int.reduceEq, Int.reduceLT, Int.reduceLE, Int.reduceAdd, Int.reduceSub, Int.reduceMul, eq_false c1, hA, show A iM_minuteOf m ≤ c by omega, h6, l_of, l_mul]
/-- the ways -/
def wWay (A : xAs) (p e b : Int) : Int := wMin A p e + (if b = 1 ∧ bitI (A iM 56) p = 1 then A iM 55 else 0)
theorem wEnds_b {A : xAs} (hI : Inv A) {p : Int} (hp : 0 ≤ p ∧ p < 8) : 1 ≤ wEnds A p ∧ wEnds A p ≤ 5 := by
  have := hI.endMany p hp.1 hp.2
  unfold wEnds; split <;> omega
theorem wWt_b {A : xAs} (hI : Inv A) {p e : Int} (hp : 0 ≤ p ∧ p < 8) (he : 0 ≤ e ∧ e < wEnds A p) : 1 ≤ wWt A p e ∧ wWt A p e ≤ 20 := by
  unfold wEnds at he; unfold wWt
  by_cases c : A iM_endMany p = 0
  · rw [if_pos c]; omega
  · rw [if_neg c] at *; exact hI.endWeight p e hp.1 hp.2 he.1 he.2
theorem wMin_b {A : xAs} (hI : Inv A) {p e : Int} (hp : 0 ≤ p ∧ p < 8) (he : 0 ≤ e ∧ e < wEnds A p) : 0 ≤ wMin A p e ∧ wMin A p e ≤ 300 := by
  unfold wEnds at he; unfold wMin
  by_cases c : A iM_endMany p = 0
  · rw [if_pos c]; omega
  · rw [if_neg c] at *; exact hI.endMinutes p e hp.1 hp.2 he.1 he.2
theorem wWay_b {A : xAs} (hI : Inv A) {p e b : Int} (hp : 0 ≤ p ∧ p < 8) (he : 0 ≤ e ∧ e < wEnds A p) : 0 ≤ wWay A p e b ∧ wWay A p e b ≤ 900 := by
  have := wMin_b hI hp he
  have := hI.bridge
  unfold wWay; split <;> omega
theorem wAll_b {A : xAs} (hI : Inv A) {p : Int} (hp : 0 ≤ p ∧ p < 8) : 1 ≤ wAll A p ∧ wAll A p ≤ 100 := by
  have h1 := wEnds_b hI hp
  have h2 := sumTo_b (f := wWt A p) (B := 20) (k := (wEnds A p).toNat) (fun z h2 h3 => by have := wWt_b hI hp (e := z) (by omega); omega)
  have h3 : wWt A p 0 ≤ wAll A p := by
    unfold wAll
    obtain ⟨k, hk⟩ : ∃ k, (wEnds A p).toNat = k + 1 := ⟨(wEnds A p).toNat - 1, by omega⟩
    have : ∀ j : Nat, j < 5 → (j : Int) < wEnds A p → wWt A p 0 ≤ sumTo (wWt A p) (j + 1) := by
      intro j
      induction j with
      | zero => intro _ _; show wWt A p 0 ≤ 0 + wWt A p 0; omega
      | succ j ih =>
        intro h4 h5
        have h6 := ih (by omega) (by omega)
        have h7 := wWt_b hI hp (e := ((j + 1 : Nat) : Int)) (by omega)
        rw [sumTo_s]; omega
    rw [hk]
    exact this k (by omega) (by omega)
  have h4 := wWt_b hI hp (e := 0) (by omega)
  unfold wAll at *
  omega
theorem eX10_endsOf {A : xAs} {μ : xm} {R : xr} {n : Nat} (hC : CH A μ R n) (hI : Inv A) {p : Int} (hp : 0 ≤ p ∧ p < 8) : fX10_endsOf (j32 p) μ = some (j32 (wEnds A p)) := by
  have h1 := hI.endMany p hp.1 hp.2
  have e1 := hC.told p hp.1 hp.2
  unfold fX10_endsOf
  rw [eX11_isPerson (by omega)]
  simp only [lits]
  simp (disch := omega) only [Bool.false_eq_true, lits, jj, jc, jm, Int.cast_ofNat_Int, j_bi0, j_bi1, not_true, not_false_eq_true, if_true, if_false, xe, xok_some, Sum.elim_inl, Sum.elim_inr, Int.reduceEq, Int.reduceLT, Int.reduceLE, Int.reduceAdd, Int.reduceSub, Int.reduceMul, eq_true hp, e1]
  rw [j_max (by omega) (by omega)]
  unfold wEnds
  by_cases c : A iM_endMany p = 0
  · rw [if_pos c, c]; rfl
  · rw [if_neg c, show max 1 (A iM_endMany p) = A iM_endMany p by omega]
theorem eX12_endsOf {A : xAs} {μ : xm} (hA : RH A μ) (hI : Inv A) {p : Int} (hp : 0 ≤ p ∧ p < 8) : fX12_endsOf (j32 p) μ = some (j32 (wEnds A p)) := by
  have h1 := hI.endMany p hp.1 hp.2
  unfold fX12_endsOf wEnds
  by_cases c : A iM_endMany p = 0
  · simp (disch := omega) only [Bool.false_eq_true, lits, jj, jc, jm, Int.cast_ofNat_Int, j_bi0, j_bi1, not_true, not_false_eq_true, if_true, if_false, xe, xok_some, Sum.elim_inl, Sum.elim_inr, Int.reduceEq, Int.reduceLT, Int.reduceLE, Int.reduceAdd, Int.reduceSub, Int.reduceMul, hA, c]
  · simp (disch := omega) only [Bool.false_eq_true, lits, jj, jc, jm, Int.cast_ofNat_Int, j_bi0, j_bi1, not_true, not_false_eq_true, if_true, if_false, xe, xok_some, Sum.elim_inl, Sum.elim_inr, Int.reduceEq, Int.reduceLT, Int.reduceLE, Int.reduceAdd, Int.reduceSub, Int.reduceMul, hA, c]
theorem eX10_weightOf {A : xAs} {μ : xm} {R : xr} {n : Nat} (hC : CH A μ R n) (hI : Inv A) {p e : Int} (hp : 0 ≤ p ∧ p < 8) (he : 0 ≤ e ∧ e < wEnds A p) : fX10_weightOf (j32 p) (j32 e) μ = some (j32 (wWt A p e)) := by
  have h1 := wEnds_b hI hp
  have e1 := hC.wwt p e hp.1 hp.2 he.1 he.2
  unfold fX10_weightOf
  rw [eX11_isPerson (by omega)]
  simp only [lits]
  rw [eX11_within (by omega) (by omega) (by omega)]
  simp (disch := omega) only [Bool.false_eq_true, lits, jj, jc, jm, Int.cast_ofNat_Int, j_bi0, j_bi1, not_true, not_false_eq_true, if_true, if_false, xe, xok_some, Sum.elim_inl, Sum.elim_inr, Int.reduceEq, Int.reduceLT, Int.reduceLE, Int.reduceAdd, Int.reduceSub, Int.reduceMul, eq_true hp, eq_true (show 0 ≤ e ∧ e ≤ 4 by omega), show p * 5 + e = 5 * p + e by omega, e1]
theorem eX12_weightAt {A : xAs} {μ : xm} (hA : RH A μ) (hI : Inv A) {p e : Int} (hp : 0 ≤ p ∧ p < 8) (he : 0 ≤ e ∧ e < wEnds A p) : fX12_weightAt (j32 p) (j32 e) μ = some (j32 (wWt A p e)) := by
  have h1 := hI.endMany p hp.1 hp.2
  have h2 := wEnds_b hI hp
  unfold fX12_weightAt wWt
  by_cases c : A iM_endMany p = 0
  · simp (disch := omega) only [Bool.false_eq_true, lits, jj, jc, jm, Int.cast_ofNat_Int, j_bi0, j_bi1, not_true, not_false_eq_true, if_true, if_false, xe, xok_some, Sum.elim_inl, Sum.elim_inr, Int.reduceEq, Int.reduceLT, Int.reduceLE, Int.reduceAdd, Int.reduceSub, Int.reduceMul, hA, c]
  · simp (disch := omega) only [Bool.false_eq_true, lits, jj, jc, jm, Int.cast_ofNat_Int, j_bi0, j_bi1, not_true, not_false_eq_true, if_true, if_false, xe, xok_some, Sum.elim_inl, Sum.elim_inr, Int.reduceEq, Int.reduceLT, Int.reduceLE, Int.reduceAdd, Int.reduceSub, Int.reduceMul, hA, c]
theorem eX10_weightsOf {A : xAs} {μ : xm} {R : xr} {n : Nat} (hC : CH A μ R n) {p : Int} (hp : 0 ≤ p ∧ p < 8) : fX10_weightsOf (j32 p) μ = some (j32 (wAll A p)) := by
  have e1 := hC.wall p hp.1 hp.2
  unfold fX10_weightsOf
  rw [eX11_isPerson (by omega)]
  simp (disch := omega) only [Bool.false_eq_true, lits, jj, jc, jm, Int.cast_ofNat_Int, j_bi0, j_bi1, not_true, not_false_eq_true, if_true, if_false, xe, xok_some, Sum.elim_inl, Sum.elim_inr, Int.reduceEq, Int.reduceLT, Int.reduceLE, Int.reduceAdd, Int.reduceSub, Int.reduceMul, eq_true hp, e1]
theorem eX10_takes {A : xAs} {μ : xm} {R : xr} {n : Nat} (hC : CH A μ R n) (hI : Inv A) {p e b : Int} (hp : 0 ≤ p ∧ p < 8) (he : 0 ≤ e ∧ e < wEnds A p) (hb : 0 ≤ b ∧ b ≤ 1) : fX10_takes (j32 p) (j32 e) (j32 b) μ = some (j32 (wWay A p e b)) := by
  have h1 := wEnds_b hI hp
  have e1 := hC.wmin p e hp.1 hp.2 he.1 he.2
  have e2 := hC.cross p hp.1 hp.2
  have e3 := bitI_01 (A iM 56) p
  unfold fX10_takes wWay
  rw [eX11_isPerson (by omega)]
  simp only [lits]
  rw [eX11_within (by omega) (by omega) (by omega)]
  by_cases c : b = 1
  · by_cases d : bitI (A iM 56) p = 1
    · simp (disch := omega) only [Bool.false_eq_true, lits, jj, jc, jm, Int.cast_ofNat_Int, j_bi0, j_bi1, not_true, not_false_eq_true, if_true, if_false, xe, xok_some, Sum.elim_inl, Sum.elim_inr, Int.reduceEq, Int.reduceLT, Int.reduceLE, Int.reduceAdd, Int.reduceSub, Int.reduceMul, eq_true hp, eq_true (show 0 ≤ e ∧ e ≤ 4 by omega), show p * 5 + e = 5 * p + e by omega, e1, e2, c, d, hC.more, and_self]
    · simp (disch := omega) only [Bool.false_eq_true, lits, jj, jc, jm, Int.cast_ofNat_Int, j_bi0, j_bi1, not_true, not_false_eq_true, if_true, if_false, xe, xok_some, Sum.elim_inl, Sum.elim_inr, Int.reduceEq, Int.reduceLT, Int.reduceLE, Int.reduceAdd, Int.reduceSub, Int.reduceMul, eq_true hp, eq_true (show 0 ≤ e ∧ e ≤ 4 by omega), show p * 5 + e = 5 * p + e by omega, e1, e2, c, show bitI (A iM 56) p = 0 by omega, hC.more, and_false]
  · simp (disch := omega) only [Bool.false_eq_true, lits, jj, jc, jm, Int.cast_ofNat_Int, j_bi0, j_bi1, not_true, not_false_eq_true, if_true, if_false, xe, xok_some, Sum.elim_inl, Sum.elim_inr, Int.reduceEq, Int.reduceLT, Int.reduceLE, Int.reduceAdd, Int.reduceSub, Int.reduceMul, eq_true hp, eq_true (show 0 ≤ e ∧ e ≤ 4 by omega), show p * 5 + e = 5 * p + e by omega, e1, c, false_and]
theorem eX12_wayAt {A : xAs} {μ : xm} (hA : RH A μ) (hI : Inv A) {p e b : Int} (hp : 0 ≤ p ∧ p < 8) (he : 0 ≤ e ∧ e < wEnds A p) (hb : 0 ≤ b ∧ b ≤ 1) : fX12_wayAt (j32 p) (j32 e) (j32 b) μ = some (j32 (wWay A p e b)) := by
  have h1 := hI.endMany p hp.1 hp.2
  have h2 := wEnds_b hI hp
  have h3 := hI.bridge
  have g : ∀ v : Int, fX12_wayAt_j23 (j32 v) (j32 p) (j32 b) μ = some (j32 (v + (if b = 1 ∧ bitI (A iM 56) p = 1 then A iM 55 else 0))) := by
    intro v
    unfold fX12_wayAt_j23
    rw [eX12_isCrossing hA hI hp]
    by_cases c : b = 1
    · have d3 := bitI_01 (A iM 56) p
      by_cases d : bitI (A iM 56) p = 1
      · simp (disch := omega) only [Bool.false_eq_true, lits, jj, jc, jm, Int.cast_ofNat_Int, j_bi0, j_bi1, not_true, not_false_eq_true, if_true, if_false, xe, xok_some, Sum.elim_inl, Sum.elim_inr, Int.reduceEq, Int.reduceLT, Int.reduceLE, Int.reduceAdd, Int.reduceSub, Int.reduceMul, c, d, and_self, (RH.sc hA).2.2.2.2.2.2.2.2.2.1]
      · simp (disch := omega) only [Bool.false_eq_true, lits, jj, jc, jm, Int.cast_ofNat_Int, j_bi0, j_bi1, not_true, not_false_eq_true, if_true, if_false, xe, xok_some, Sum.elim_inl, Sum.elim_inr, Int.reduceEq, Int.reduceLT, Int.reduceLE, Int.reduceAdd, Int.reduceSub, Int.reduceMul, c, show bitI (A iM 56) p = 0 by omega, and_false]
    · simp (disch := omega) only [Bool.false_eq_true, lits, jj, jc, jm, Int.cast_ofNat_Int, j_bi0, j_bi1, not_true, not_false_eq_true, if_true, if_false, xe, xok_some, Sum.elim_inl, Sum.elim_inr, Int.reduceEq, Int.reduceLT, Int.reduceLE, Int.reduceAdd, Int.reduceSub, Int.reduceMul, show b = 0 by omega, false_and]
  unfold fX12_wayAt wWay wMin
  by_cases c : A iM_endMany p = 0
  · simp (disch := omega) only [Bool.false_eq_true, lits, jj, jc, jm, Int.cast_ofNat_Int, j_bi0, j_bi1, not_true, not_false_eq_true, if_true, if_false, xe, xok_some, Sum.elim_inl, Sum.elim_inr, Int.reduceEq, Int.reduceLT, Int.reduceLE, Int.reduceAdd, Int.reduceSub, Int.reduceMul, hA, c, g]
  · simp (disch := omega) only [Bool.false_eq_true, lits, jj, jc, jm, Int.cast_ofNat_Int, j_bi0, j_bi1, not_true, not_false_eq_true, if_true, if_false, xe, xok_some, Sum.elim_inl, Sum.elim_inr, Int.reduceEq, Int.reduceLT, Int.reduceLE, Int.reduceAdd, Int.reduceSub, Int.reduceMul, hA, c, g]
theorem eX10_bridgeWeight {A : xAs} {μ : xm} {R : xr} {n : Nat} (hC : CH A μ R n) {b : Int} (hb : 0 ≤ b ∧ b ≤ 1) : fX10_bridgeWeight (j32 b) μ = some (j32 (if b = 1 then A iM 53 else A iM 54 - A iM 53)) := by
  unfold fX10_bridgeWeight
  by_cases c : b = 1
  · simp (disch := omega) only [Bool.false_eq_true, lits, jj, jc, jm, Int.cast_ofNat_Int, j_bi0, j_bi1, not_true, not_false_eq_true, if_true, if_false, xe, xok_some, Sum.elim_inl, Sum.elim_inr, Int.reduceEq, Int.reduceLT, Int.reduceLE, Int.reduceAdd, Int.reduceSub, Int.reduceMul, c, hC.shut]
  · simp (disch := omega) only [Bool.false_eq_true, lits, jj, jc, jm, Int.cast_ofNat_Int, j_bi0, j_bi1, not_true, not_false_eq_true, if_true, if_false, xe, xok_some, Sum.elim_inl, Sum.elim_inr, Int.reduceEq, Int.reduceLT, Int.reduceLE, Int.reduceAdd, Int.reduceSub, Int.reduceMul, c, hC.shut, hC.all]
theorem eX12_bridgeWeight {A : xAs} {μ : xm} (hA : RH A μ) {b : Int} (hb : 0 ≤ b ∧ b ≤ 1) : fX12_bridgeWeight (j32 b) μ = some (j32 (if b = 1 then A iM 53 else A iM 54 - A iM 53)) := by
  have hs := RH.sc hA
  unfold fX12_bridgeWeight
  by_cases c : b = 1
  · simp (disch := omega) only [Bool.false_eq_true, lits, jj, jc, jm, Int.cast_ofNat_Int, j_bi0, j_bi1, not_true, not_false_eq_true, if_true, if_false, xe, xok_some, Sum.elim_inl, Sum.elim_inr, Int.reduceEq, Int.reduceLT, Int.reduceLE, Int.reduceAdd, Int.reduceSub, Int.reduceMul, c, hs.2.2.2.2.2.2.2.1]
  · simp (disch := omega) only [Bool.false_eq_true, lits, jj, jc, jm, Int.cast_ofNat_Int, j_bi0, j_bi1, not_true, not_false_eq_true, if_true, if_false, xe, xok_some, Sum.elim_inl, Sum.elim_inr, Int.reduceEq, Int.reduceLT, Int.reduceLE, Int.reduceAdd, Int.reduceSub, Int.reduceMul, show b = 0 by omega, hs.2.2.2.2.2.2.2.1, hs.2.2.2.2.2.2.2.2.1]
/-- one way's comings weighed -/
def cWay (A : xAs) (m p x t b : Int) : Int → Int := fun e => wWt A p e * cCome A m p (x + wWay A p e b) t
def cSum (A : xAs) (m p x t b : Int) : Int := sumTo (cWay A m p x t b) (wEnds A p).toNat
def bW (A : xAs) (b : Int) : Int := if b = 1 then A iM 53 else A iM 54 - A iM 53
theorem eX10_costOfWay {A : xAs} {μ : xm} {R : xr} {n : Nat} (hC : CH A μ R n) (hI : Inv A) {m p x t b : Int} (hm : 0 ≤ m ∧ m < A iM 1) (hp : 0 ≤ p ∧ p < 8) (hx : -10000 ≤ x ∧ x ≤ 10000) (ht : 0 ≤ t ∧ t ≤ 99) (hb : 0 ≤ b ∧ b ≤ 1) : fX10_costOfWay (oM m) (j32 p) (j32 x) (j32 b) (j32 t) μ = some (l64 (cSum A m p x t b)) := by
  have h1 := wEnds_b hI hp
  have e1 := eX10_endsOf hC hI hp
  unfold fX10_costOfWay
  have key := xloop_for (b := fun v => fX10_costOfWay_b6 v.1 v.2 (oM m) (j32 p) (j32 x) (j32 b) (j32 t) μ) (fun k => (l64 (sumTo (cWay A m p x t b) k), j32 k)) (wEnds A p).toNat (r := l64 (cSum A m p x t b)) (a := (0, 0)) (by omega) rfl ?_ ?_
  · rw [key]; rfl
  · intro k hk
    show fX10_costOfWay_b6 _ _ _ _ _ _ _ μ = _
    have h2 := wWay_b hI hp (e := (k : Int)) (b := b) (by omega)
    have h3 := wWt_b hI hp (e := (k : Int)) (by omega)
    have e2 := eX10_weightOf hC hI hp (e := (k : Int)) (by omega)
    have e3 := eX10_takes hC hI hp (e := (k : Int)) (by omega) hb
    have e4 := eX10_costOfComing hC hI (m := m) (p := p) (c := x + wWay A p k b) (t := t) hm hp (by omega) ht
    unfold fX10_costOfWay_b6
    simp (disch := omega) only [Bool.false_eq_true, lits, jj, jc, jm, Int.cast_ofNat_Int, j_bi0, j_bi1, not_true, not_false_eq_true, if_true, if_false, xe, xok_some, Sum.elim_inl, Sum.elim_inr, Int.reduceEq, Int.reduceLT, Int.reduceLE, Int.reduceAdd, Int.reduceSub, Int.reduceMul, e1, e2, e3, e4, show ¬ wEnds A p ≤ k by omega, l_of, l_mul, l_add]
    rfl
  · show fX10_costOfWay_b6 _ _ _ _ _ _ _ μ = _
    unfold fX10_costOfWay_b6
    simp (disch := omega) only [Bool.false_eq_true, lits, jj, jc, jm, Int.cast_ofNat_Int, j_bi0, j_bi1, not_true, not_false_eq_true, if_true, if_false, xe, xok_some, Sum.elim_inl, Sum.elim_inr, Int.reduceEq, Int.reduceLT, Int.reduceLE, Int.reduceAdd, Int.reduceSub, Int.reduceMul, e1, show wEnds A p ≤ (wEnds A p).toNat by omega]
    rfl
theorem eX12_costWith {A : xAs} {μ : xm} (hA : RH A μ) (hI : Inv A) {m p g t b : Int} (hm : 0 ≤ m ∧ m < A iM 1) (hp : 0 ≤ p ∧ p < 8) (hg : -60 ≤ g ∧ g ≤ 600) (ht : 0 ≤ t ∧ t ≤ 99) (hb : 0 ≤ b ∧ b ≤ 1) : fX12_costWith (j32 m) (j32 p) (j32 g) (j32 t) (j32 b) μ = some (l64 (cSum A m p (A iM_minuteOf m - g) t b * bW A b)) := by
  have h0 := hI.mt
  have h1 := wEnds_b hI hp
  have e1 := eX12_endsOf hA hI hp
  have h4 := hI.minuteOf m hm.1 hm.2
  have h5 := hI.bridge
  unfold fX12_costWith
  have key := xloop_for (b := fun v => fX12_costWith_b6 v.1 v.2 (j32 m) (j32 p) (j32 g) (j32 t) (j32 b) μ) (fun k => (l64 (sumTo (cWay A m p (A iM_minuteOf m - g) t b) k), j32 k)) (wEnds A p).toNat (r := l64 (cSum A m p (A iM_minuteOf m - g) t b)) (a := (0, 0)) (by omega) rfl ?_ ?_
  · rw [key]
    rw [eX12_bridgeWeight hA hb, show (if b = 1 then A iM 53 else A iM 54 - A iM 53) = bW A b from rfl]
    simp (disch := omega) only [Bool.false_eq_true, lits, jj, jc, jm, Int.cast_ofNat_Int, j_bi0, j_bi1, not_true, not_false_eq_true, if_true, if_false, xe, xok_some, Sum.elim_inl, Sum.elim_inr, Int.reduceEq, Int.reduceLT, Int.reduceLE, Int.reduceAdd, Int.reduceSub, Int.reduceMul]
    rw [l_of (by unfold bW; split <;> omega), l_mul]
  · intro k hk
    show fX12_costWith_b6 _ _ _ _ _ _ _ μ = _
    have h2 := wWay_b hI hp (e := (k : Int)) (b := b) (by omega)
    have h3 := wWt_b hI hp (e := (k : Int)) (by omega)
    have e2 := eX12_weightAt hA hI hp (e := (k : Int)) (by omega)
    have e3 := eX12_wayAt hA hI hp (e := (k : Int)) (by omega) hb
    have e4 := eX12_comingCost hA hI (m := m) (p := p) (c := A iM_minuteOf m - g + wWay A p k b) (t := t) hm hp (by omega) ht
    unfold fX12_costWith_b6
    simp (disch := omega) only [Bool.false_eq_true, lits, jj, jc, jm, Int.cast_ofNat_Int, j_bi0, j_bi1, not_true, not_false_eq_true, if_true, if_false, xe, xok_some, Sum.elim_inl, Sum.elim_inr, Int.reduceEq, Int.reduceLT, Int.reduceLE, Int.reduceAdd, Int.reduceSub, Int.reduceMul, e1, e2, e3, hA, e4, show ¬ wEnds A p ≤ k by omega, l_of, l_mul, l_add]
    rfl
  · show fX12_costWith_b6 _ _ _ _ _ _ _ μ = _
    unfold fX12_costWith_b6
    simp (disch := omega) only [Bool.false_eq_true, lits, jj, jc, jm, Int.cast_ofNat_Int, j_bi0, j_bi1, not_true, not_false_eq_true, if_true, if_false, xe, xok_some, Sum.elim_inl, Sum.elim_inr, Int.reduceEq, Int.reduceLT, Int.reduceLE, Int.reduceAdd, Int.reduceSub, Int.reduceMul, e1, show wEnds A p ≤ (wEnds A p).toNat by omega]
    rfl
def cOne (A : xAs) (m p g t : Int) : Int := cSum A m p (A iM_minuteOf m - g) t 0 * bW A 0 + cSum A m p (A iM_minuteOf m - g) t 1 * bW A 1
theorem eX12_costOf {A : xAs} {μ : xm} (hA : RH A μ) (hI : Inv A) {m p g t : Int} (hm : 0 ≤ m ∧ m < A iM 1) (hp : 0 ≤ p ∧ p < 8) (hg : -60 ≤ g ∧ g ≤ 600) (ht : 0 ≤ t ∧ t ≤ 99) : fX12_costOf (j32 m) (j32 p) (j32 g) (j32 t) μ = some (l64 (cOne A m p g t)) := by
  unfold fX12_costOf
  simp only [lits]
  rw [eX12_costWith hA hI hm hp hg ht (by omega), eX12_costWith hA hI hm hp hg ht (by omega)]
  simp (disch := omega) only [Bool.false_eq_true, lits, jj, jc, jm, Int.cast_ofNat_Int, j_bi0, j_bi1, not_true, not_false_eq_true, if_true, if_false, xe, xok_some, Sum.elim_inl, Sum.elim_inr, Int.reduceEq, Int.reduceLT, Int.reduceLE, Int.reduceAdd, Int.reduceSub, Int.reduceMul, l_add]
  rfl
theorem eX10_costOfOne {A : xAs} {μ : xm} {R : xr} {n : Nat} (hC : CH A μ R n) (hI : Inv A) {m p g t : Int} (hm : 0 ≤ m ∧ m < A iM 1) (hp : 0 ≤ p ∧ p < 8) (hg : -60 ≤ g ∧ g ≤ 600) (ht : 0 ≤ t ∧ t ≤ 99) : fX10_costOfOne (oM m) (j32 p) (j32 g) (j32 t) μ = some (l64 (cOne A m p g t)) := by
  have h4 := hI.minuteOf m hm.1 hm.2
  have e4 := hC.minute m hm.1 hm.2
  have h5 := hI.bridge
  have bx : ∀ (x : Int) (b : Int), 0 ≤ b → b ≤ 1 → fX10_costOfOne_b6 (l64 x) (j32 b) (oM m) (j32 p) (j32 g) (j32 t) μ = some (.inl (l64 (x + cSum A m p (A iM_minuteOf m - g) t b * bW A b), j32 (b + 1))) := by
    intro x b hb1 hb2
    have e1 := eX10_bridgeWeight hC (b := b) ⟨hb1, hb2⟩
    rw [show (if b = 1 then A iM 53 else A iM 54 - A iM 53) = bW A b from rfl] at e1
    have h6 : 0 ≤ bW A b ∧ bW A b ≤ 100 := by unfold bW; split <;> omega
    have e2 := eX10_costOfWay hC hI (x := A iM_minuteOf m - g) hm hp (by omega) ht ⟨hb1, hb2⟩
    unfold fX10_costOfOne_b6
    by_cases c : bW A b ≤ 0
    · simp (disch := omega) only [Bool.false_eq_true, lits, jj, jc, jm, Int.cast_ofNat_Int, j_bi0, j_bi1, not_true, not_false_eq_true, if_true, if_false, xe, xok_some, Sum.elim_inl, Sum.elim_inr, Int.reduceEq, Int.reduceLT, Int.reduceLE, Int.reduceAdd, Int.reduceSub, Int.reduceMul, e1, show ¬ 2 ≤ b by omega, c]
      rw [show bW A b = 0 by omega, Int.mul_zero, Int.add_zero]
    · simp (disch := omega) only [Bool.false_eq_true, lits, jj, jc, jm, Int.cast_ofNat_Int, j_bi0, j_bi1, not_true, not_false_eq_true, if_true, if_false, xe, xok_some, Sum.elim_inl, Sum.elim_inr, Int.reduceEq, Int.reduceLT, Int.reduceLE, Int.reduceAdd, Int.reduceSub, Int.reduceMul, e1, show ¬ 2 ≤ b by omega, c, e4, e2, l_of, l_mul, l_add]
      rw [Int.mul_comm (bW A b)]
  unfold fX10_costOfOne
  have k0 := bx 0 0 (by omega) (by omega)
  have k1 := bx (0 + cSum A m p (A iM_minuteOf m - g) t 0 * bW A 0) 1 (by omega) (by omega)
  have k2 : fX10_costOfOne_b6 (l64 (0 + cSum A m p (A iM_minuteOf m - g) t 0 * bW A 0 + cSum A m p (A iM_minuteOf m - g) t 1 * bW A 1)) (j32 2) (oM m) (j32 p) (j32 g) (j32 t) μ = some (.inr (l64 (cOne A m p g t))) := by
    unfold fX10_costOfOne_b6 cOne
    simp (disch := omega) only [Bool.false_eq_true, lits, jj, jc, jm, Int.cast_ofNat_Int, j_bi0, j_bi1, not_true, not_false_eq_true, if_true, if_false, xe, xok_some, Sum.elim_inl, Sum.elim_inr, Int.reduceEq, Int.reduceLT, Int.reduceLE, Int.reduceAdd, Int.reduceSub, Int.reduceMul, Int.zero_add, Int.le_refl]
  have key : xloop (999997 + 1 + 1 + 1) (fun v => fX10_costOfOne_b6 v.1 v.2 (oM m) (j32 p) (j32 g) (j32 t) μ) (l64 0, j32 0) = some (l64 (cOne A m p g t)) := by
    refine (xl_l k0).trans ((xl_l k1).trans (xl_r k2))
  rw [show xloop xfu (fun v => fX10_costOfOne_b6 v.1 v.2 (oM m) (j32 p) (j32 g) (j32 t) μ) (0, 0) = some (l64 (cOne A m p g t)) from key]
  rfl
theorem s_cost {A : xAs} {μ : xm} {R : xr} {n : Nat} (hA : RH A μ) (hC : CH A μ R n) (hI : Inv A) (a1 a2 a3 a4 : Int32) : ∃ q, fX11_cost a1 a2 a3 a4 μ R = some q ∧ fX12_cost a1 a2 a3 a4 μ = some q := by
  obtain ⟨m, rfl, hm⟩ := j32_ex a1
  obtain ⟨p, rfl, hp⟩ := j32_ex a2
  obtain ⟨g, rfl, hg⟩ := j32_ex a3
  obtain ⟨t, rfl, ht⟩ := j32_ex a4
  have hf := eX3_find hC hI hm
  unfold fX11_cost fX12_cost
  simp only [lits, jj]
  rw [eX12_isOf hA hI hm hp, eX11_within ht (by omega) (by omega), eX11_within hg (by omega) (by omega), eX12_in hg (by omega) (by omega), eX12_in ht (by omega) (by omega), hf]
  by_cases c1 : 0 ≤ m ∧ m < A iM 1
  · have ei := eC_includes hC hI c1 hp
    by_cases c2 : inc (A iM_peopleOf m) p
    · by_cases c3 : 0 ≤ t ∧ t ≤ 99
      · by_cases c4 : -60 ≤ g ∧ g ≤ 600
        · refine ⟨l64 (cOne A m p g t), ?_, ?_⟩
          · simp (disch := omega) only [Bool.false_eq_true, lits, jj, jc, jm, Int.cast_ofNat_Int, j_bi0, j_bi1, not_true, not_false_eq_true, if_true, if_false, xe, xok_some, Sum.elim_inl, Sum.elim_inr, Int.reduceEq, Int.reduceLT, Int.reduceLE, Int.reduceAdd, Int.reduceSub, Int.reduceMul, eq_true c1, ei, eq_true c2, eq_true c3, eq_true c4, eX10_costOfOne hC hI c1 ⟨c2.1, c2.2.1⟩ c4 c3]
          · simp (disch := omega) only [Bool.false_eq_true, lits, jj, jc, jm, Int.cast_ofNat_Int, j_bi0, j_bi1, not_true, not_false_eq_true, if_true, if_false, xe, xok_some, Sum.elim_inl, Sum.elim_inr, Int.reduceEq, Int.reduceLT, Int.reduceLE, Int.reduceAdd, Int.reduceSub, Int.reduceMul, eq_true c1, eq_true c2, eq_true c3, eq_true c4, eq_true (show isOf A m p from ⟨c1, c2⟩), eX12_costOf hA hI c1 ⟨c2.1, c2.2.1⟩ c4 c3]
        · refine ⟨-1, ?_, ?_⟩
          · simp (disch := omega) only [Bool.false_eq_true, lits, jj, jc, jm, Int.cast_ofNat_Int, j_bi0, j_bi1, not_true, not_false_eq_true, if_true, if_false, xe, xok_some, Sum.elim_inl, Sum.elim_inr, Int.reduceEq, Int.reduceLT, Int.reduceLE, Int.reduceAdd, Int.reduceSub, Int.reduceMul, eq_true c1, ei, eq_true c2, eq_true c3, eq_false c4]
          · simp (disch := omega) only [Bool.false_eq_true, lits, jj, jc, jm, Int.cast_ofNat_Int, j_bi0, j_bi1, not_true, not_false_eq_true, if_true, if_false, xe, xok_some, Sum.elim_inl, Sum.elim_inr, Int.reduceEq, Int.reduceLT, Int.reduceLE, Int.reduceAdd, Int.reduceSub, Int.reduceMul, eq_true (show isOf A m p from ⟨c1, c2⟩), eq_false c4]
      · refine ⟨-1, ?_, ?_⟩
        · simp (disch := omega) only [Bool.false_eq_true, lits, jj, jc, jm, Int.cast_ofNat_Int, j_bi0, j_bi1, not_true, not_false_eq_true, if_true, if_false, xe, xok_some, Sum.elim_inl, Sum.elim_inr, Int.reduceEq, Int.reduceLT, Int.reduceLE, Int.reduceAdd, Int.reduceSub, Int.reduceMul, eq_true c1, ei, eq_true c2, eq_false c3]
        · simp (disch := omega) only [Bool.false_eq_true, lits, jj, jc, jm, Int.cast_ofNat_Int, j_bi0, j_bi1, not_true, not_false_eq_true, if_true, if_false, xe, xok_some, Sum.elim_inl, Sum.elim_inr, Int.reduceEq, Int.reduceLT, Int.reduceLE, Int.reduceAdd, Int.reduceSub, Int.reduceMul, eq_true (show isOf A m p from ⟨c1, c2⟩), eq_false c3]
          split <;> rfl
    · refine ⟨-1, ?_, ?_⟩
      · simp (disch := omega) only [Bool.false_eq_true, lits, jj, jc, jm, Int.cast_ofNat_Int, j_bi0, j_bi1, not_true, not_false_eq_true, if_true, if_false, xe, xok_some, Sum.elim_inl, Sum.elim_inr, Int.reduceEq, Int.reduceLT, Int.reduceLE, Int.reduceAdd, Int.reduceSub, Int.reduceMul, eq_true c1, ei, eq_false c2]
      · simp (disch := omega) only [Bool.false_eq_true, lits, jj, jc, jm, Int.cast_ofNat_Int, j_bi0, j_bi1, not_true, not_false_eq_true, if_true, if_false, xe, xok_some, Sum.elim_inl, Sum.elim_inr, Int.reduceEq, Int.reduceLT, Int.reduceLE, Int.reduceAdd, Int.reduceSub, Int.reduceMul, eq_false (show ¬ isOf A m p from fun h => c2 h.2)]
  · refine ⟨-1, ?_, ?_⟩
    · simp (disch := omega) only [Bool.false_eq_true, lits, jj, jc, jm, Int.cast_ofNat_Int, j_bi0, j_bi1, not_true, not_false_eq_true, if_true, if_false, xe, xok_some, Sum.elim_inl, Sum.elim_inr, Int.reduceEq, Int.reduceLT, Int.reduceLE, Int.reduceAdd, Int.reduceSub, Int.reduceMul, eq_false c1]
    · simp (disch := omega) only [Bool.false_eq_true, lits, jj, jc, jm, Int.cast_ofNat_Int, j_bi0, j_bi1, not_true, not_false_eq_true, if_true, if_false, xe, xok_some, Sum.elim_inl, Sum.elim_inr, Int.reduceEq, Int.reduceLT, Int.reduceLE, Int.reduceAdd, Int.reduceSub, Int.reduceMul, eq_false (show ¬ isOf A m p from fun h => c1 h.1)]
