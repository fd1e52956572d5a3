/-! what each two owe: the reference's rows -/
theorem sumTo_one {f : Int → Int} {h l : Int} (hh : 0 ≤ h) (hf : ∀ z, 0 ≤ z → f z = if z = h then l else 0) : ∀ n : Nat, sumTo f n = if h < n then l else 0
  | 0 => by rw [if_neg (by omega)]; rfl
  | n + 1 => by
    rw [sumTo_s, sumTo_one hh hf n, hf n (by omega)]
    by_cases c1 : h < n
    · rw [if_pos c1, if_neg (by omega), if_pos (by omega)]; omega
    · by_cases c2 : (n : Int) = h
      · rw [if_neg c1, if_pos c2, if_pos (by omega)]; omega
      · rw [if_neg c1, if_neg c2, if_neg (by omega)]; omega
theorem sumTo_add {f g : Int → Int} : ∀ n : Nat, sumTo (fun z => f z + g z) n = sumTo f n + sumTo g n
  | 0 => rfl
  | n + 1 => by rw [sumTo_s, sumTo_s, sumTo_s, sumTo_add n]; omega
theorem sumTo_sub {f g : Int → Int} : ∀ n : Nat, sumTo (fun z => f z - g z) n = sumTo f n - sumTo g n
  | 0 => rfl
  | n + 1 => by rw [sumTo_s, sumTo_s, sumTo_s, sumTo_sub n]; omega
theorem sumTo_zero : ∀ n : Nat, sumTo (fun _ => (0 : Int)) n = 0
  | 0 => rfl
  | n + 1 => by rw [sumTo_s, sumTo_zero n]; rfl
theorem sumTo_swap {f : Int → Int → Int} (n : Nat) : ∀ k : Nat, sumTo (fun y => sumTo (f y) k) n = sumTo (fun i => sumTo (fun y => f y i) n) k
  | 0 => sumTo_zero n
  | k + 1 => by
    rw [sumTo_s, ← sumTo_swap n k, ← sumTo_add]
    exact sumTo_c (fun z _ _ => rfl)
theorem owT_y {A : xAs} (hI : Inv A) {x y d i : Int} (hi : isN A i) (hy : 0 ≤ y) : owT A x y d i = if y = A iM_hasIt i then owT A x (-1) d i else 0 := by
  unfold owT owC
  by_cases c : y = A iM_hasIt i
  · rw [if_pos c]
    by_cases d1 : aLive A i d ∧ (x = -1 ∨ A iM_owesIt i = x)
    · rw [if_pos ⟨d1.1, d1.2, Or.inr c.symm⟩, if_pos ⟨d1.1, d1.2, Or.inl rfl⟩]
    · rw [if_neg (fun h => d1 ⟨h.1, h.2.1⟩), if_neg (fun h => d1 ⟨h.1, h.2.1⟩)]
  · rw [if_neg c, if_neg (by omega)]
theorem owT_x {A : xAs} (hI : Inv A) {x y d i : Int} (hi : isN A i) (hx : 0 ≤ x) : owT A x y d i = if x = A iM_owesIt i then owT A (-1) y d i else 0 := by
  unfold owT owC
  by_cases c : x = A iM_owesIt i
  · rw [if_pos c]
    by_cases d1 : aLive A i d ∧ (y = -1 ∨ A iM_hasIt i = y)
    · rw [if_pos ⟨d1.1, Or.inr c.symm, d1.2⟩, if_pos ⟨d1.1, Or.inl rfl, d1.2⟩]
    · rw [if_neg (fun h => d1 ⟨h.1, h.2.2⟩), if_neg (fun h => d1 ⟨h.1, h.2.2⟩)]
  · rw [if_neg c, if_neg (by omega)]
theorem sOw_sumY {A : xAs} (hI : Inv A) {x d : Int} : sumTo (fun y => sOw A x y d) 8 = sOw A x (-1) d := by
  have h37 := hI.notes
  have h1 : sumTo (fun y => sOw A x y d) 8 = sumTo (fun i => sumTo (fun y => owT A x y d i) 8) (A iM 37).toNat := sumTo_swap (f := fun y i => owT A x y d i) 8 _
  rw [h1]
  refine sumTo_c (fun i h1 h2 => ?_)
  have hi : isN A i := ⟨h1, by omega⟩
  have hb := hI.hasIt i hi.1 hi.2
  rw [sumTo_one hb.1 (fun z hz => owT_y hI hi hz), if_pos (by omega)]
theorem sOw_sumX {A : xAs} (hI : Inv A) {y d : Int} : sumTo (fun x => sOw A x y d) 8 = sOw A (-1) y d := by
  have h37 := hI.notes
  have h1 : sumTo (fun x => sOw A x y d) 8 = sumTo (fun i => sumTo (fun x => owT A x y d i) 8) (A iM 37).toNat := sumTo_swap (f := fun x i => owT A x y d i) 8 _
  rw [h1]
  refine sumTo_c (fun i h1 h2 => ?_)
  have hi : isN A i := ⟨h1, by omega⟩
  have hb := hI.owesIt i hi.1 hi.2
  rw [sumTo_one hb.1 (fun z hz => owT_x hI hi hz), if_pos (by omega)]
theorem dD_self {A : xAs} (hI : Inv A) {x : Int} (hx : 0 ≤ x) : dD A x x = 0 := by
  have h37 := hI.notes
  unfold dD sOw
  refine (sumTo_c (g := fun _ => 0) (fun i h1 h2 => ?_)).trans (sumTo_zero _)
  show owT A x x _ i = 0
  have hb := hI.own i h1 (by omega)
  unfold owT owC
  by_cases c : aLive A i (A iM 0) ∧ (x = -1 ∨ A iM_owesIt i = x) ∧ (x = -1 ∨ A iM_hasIt i = x)
  · have : A iM_leftOf i = 0 := hb (by omega)
    rw [if_pos c, this]
  · rw [if_neg c]
def frB (μ ν : xm) : Prop := ∀ o, (o < 93 ∨ 95 < o) → gi ν o = gi μ o
theorem frB.rf {μ : xm} : frB μ μ := fun _ _ => rfl
theorem frB.tr {μ ν ρ : xm} (h1 : frB μ ν) (h2 : frB ν ρ) : frB μ ρ := fun o h => (h2 o h).trans (h1 o h)
theorem frB.RH {A : xAs} {μ ν : xm} (h : frB μ ν) (hA : RH A μ) : RH A ν := by
  refine RH.mk (fun o ho => (h o ?_).trans (RH.at hA ho)) (by rw [h iM (Or.inl (by decide))]; exact RH.sc hA)
  rcases Nat.lt_or_ge o 93 with c | c
  · exact Or.inl c
  · rcases Nat.lt_or_ge 95 o with d | d
    · exact Or.inr d
    · exfalso
      have : o = 93 ∨ o = 94 ∨ o = 95 := by omega
      rcases this with rfl | rfl | rfl <;> exact absurd ho (by decide)
/-- the rows of the first pass -/
def bI1 (A : xAs) (k j : Int) (ν : xm) : Prop := (∀ x y, 0 ≤ x → 0 ≤ y → y < 8 → (x < k ∨ (x = k ∧ y < j)) → gi ν iM_most0 (8 * x + y) = dD A x y ∧ gi ν iM_least0 (8 * x + y) = 0) ∧ ∀ x, 0 ≤ x → (x < k ∨ (x = k ∧ 0 ≤ j)) → gi ν iM_balance x = 0
theorem bal17 {A : xAs} {ν : xm} (hA : RH A ν) (hI : Inv A) {k j : Nat} (hk : k < 8) (hj : j < 8) (h : bI1 A k j ν) : ∃ ν', fX12_balances_b17 (j32 j) ν (j32 k) = some (.inl (j32 ((j : Int) + 1), ν')) ∧ bI1 A k ((j : Int) + 1) ν' ∧ frB ν ν' := by
  have hb := sOw_b hI (x := k) (y := j) (d := A iM 0)
  obtain ⟨v, hv⟩ : ∃ v, v = dD A k j := ⟨_, rfl⟩
  have hvb : 0 ≤ v ∧ v ≤ 86400 := by rw [hv]; exact hb
  have g48 : fX12_balances_j48 (j32 v) (j32 k) (j32 j) ν = some (.inl (j32 ((j : Int) + 1), wr (wr ν iM_most0 (8 * k + j) v) iM_least0 (8 * k + j) 0)) := by
    unfold fX12_balances_j48
    simp (disch := omega) only [Bool.false_eq_true, lits, jj, jc, jm, Int.cast_ofNat_Int, j_bi0, j_bi1, not_true, not_false_eq_true, if_true, if_false, xe, xok_some, Sum.elim_inl, Sum.elim_inr, Int.reduceEq, Int.reduceLT, Int.reduceLE, Int.reduceAdd, Int.reduceSub, Int.reduceMul]
  refine ⟨wr (wr ν iM_most0 (8 * k + j) v) iM_least0 (8 * k + j) 0, ?_, ⟨fun x y h1 h2 h3 h4 => ?_, fun x h1 h2 => ?_⟩, fun o ho => ?_⟩
  · unfold fX12_balances_b17
    by_cases c : (k : Int) = j
    · have : v = 0 := by rw [hv, c]; exact dD_self hI (by omega)
      rw [this] at g48 ⊢
      simp (disch := omega) only [Bool.false_eq_true, lits, jj, jc, jm, Int.cast_ofNat_Int, j_bi0, j_bi1, not_true, not_false_eq_true, if_true, if_false, xe, xok_some, Sum.elim_inl, Sum.elim_inr, Int.reduceEq, Int.reduceLT, Int.reduceLE, Int.reduceAdd, Int.reduceSub, Int.reduceMul, show ¬ (8 : Int) ≤ j by omega, c]
      rw [← c] at g48 ⊢
      exact g48
    · have e1 := eX12_owedOk hA hI (x := k) (y := j) (by unfold owOk; omega)
      simp (disch := omega) only [Bool.false_eq_true, lits, jj, jc, jm, Int.cast_ofNat_Int, j_bi0, j_bi1, not_true, not_false_eq_true, if_true, if_false, xe, xok_some, Sum.elim_inl, Sum.elim_inr, Int.reduceEq, Int.reduceLT, Int.reduceLE, Int.reduceAdd, Int.reduceSub, Int.reduceMul, show ¬ (8 : Int) ≤ j by omega, c, e1]
      rw [hv] at g48 ⊢
      exact g48
  · rw [gi_wr_o (by decide), gi_wr_if (by omega) (by omega), gi_wr_if (by omega) (by omega), gi_wr_o (by decide)]
    by_cases c : x = k ∧ y = j
    · obtain ⟨rfl, rfl⟩ := c
      rw [if_pos rfl, if_pos rfl, hv]
      exact ⟨rfl, rfl⟩
    · rw [if_neg (by omega), if_neg (by omega)]
      exact h.1 x y h1 h2 h3 (by omega)
  · rw [gi_wr_o (by decide), gi_wr_o (by decide)]
    exact h.2 x h1 (by omega)
  · rw [gi_wr_f (by show o ≠ 93; omega), gi_wr_f (by show o ≠ 94; omega)]
theorem bal2 {A : xAs} {ν : xm} (hA : RH A ν) (hI : Inv A) {k : Nat} (hk : k < 8) (h : bI1 A k (-1) ν) : ∃ ν', fX12_balances_b2 (j32 k) ν = some (.inl (j32 ((k : Int) + 1), ν')) ∧ bI1 A ((k : Int) + 1) (-1) ν' ∧ frB ν ν' := by
  have key : xok (xloop xfu (fun v => fX12_balances_b17 v.1 v.2 (j32 k)) (j32 0, wr ν iM_balance k 0)) (fun ν' => bI1 A k 8 ν' ∧ frB ν ν') := by
    refine xok_for (fun j s => s.1 = j32 j ∧ bI1 A k j s.2 ∧ frB ν s.2) 8 (by omega) ⟨rfl, ⟨fun x y h1 h2 h3 h4 => ?_, fun x h1 h2 => ?_⟩, fun o ho => gi_wr_f (by show o ≠ 95; omega)⟩ ?_ ?_
    · show gi (wr ν _ _ _) _ _ = _ ∧ gi (wr ν _ _ _) _ _ = _
      rw [gi_wr_o (by decide), gi_wr_o (by decide)]
      exact h.1 x y h1 h2 h3 (by omega)
    · show gi (wr ν _ _ _) _ _ = _
      rw [gi_wr_if (by omega) (by omega)]
      split
      · rfl
      · exact h.2 x h1 (by omega)
    · intro j s hj hs
      obtain ⟨s1, σ⟩ := s
      obtain ⟨g1, g2, g3⟩ := hs
      simp only at g1 g2 g3
      subst g1
      obtain ⟨ν', r1, r2, r3⟩ := bal17 (g3.RH hA) hI hk hj g2
      exact ⟨_, r1, rfl, r2, g3.tr r3⟩
    · intro s hs
      obtain ⟨s1, σ⟩ := s
      obtain ⟨g1, g2, g3⟩ := hs
      simp only at g1 g2 g3
      subst g1
      show xok (fX12_balances_b17 (j32 (8 : Nat)) σ _) _
      unfold fX12_balances_b17
      simp (disch := omega) only [Bool.false_eq_true, lits, jj, jc, jm, Int.cast_ofNat_Int, j_bi0, j_bi1, not_true, not_false_eq_true, if_true, if_false, xe, xok_some, Sum.elim_inl, Sum.elim_inr, Int.reduceEq, Int.reduceLT, Int.reduceLE, Int.reduceAdd, Int.reduceSub, Int.reduceMul, show ((8 : Nat) : Int) = 8 from rfl]
      exact ⟨g2, g3⟩
  obtain ⟨ν', r1, r2, r3⟩ := key
  refine ⟨ν', ?_, ⟨fun x y h1 h2 h3 h4 => r2.1 x y h1 h2 h3 (by omega), fun x h1 h2 => r2.2 x h1 (by omega)⟩, r3⟩
  unfold fX12_balances_b2
  simp only [lits] at r1 ⊢
  rw [if_neg (by rw [j_le (by omega) (by omega)]; omega), j_sI (by omega), xbd_e, r1, xbd_e, xlt_e, j_add]
/-- the second pass -/
def bDif (A : xAs) (x : Int) : Int → Int := fun y => dD A x y - dD A y x
theorem bDif_sum {A : xAs} (hI : Inv A) {x : Int} : sumTo (bDif A x) 8 = dB A x := by
  unfold bDif
  rw [sumTo_sub]
  unfold dB dD
  rw [sOw_sumY hI, sOw_sumX hI]
theorem bDif_b {A : xAs} (hI : Inv A) {x : Int} : ∀ k : Nat, -(86400 * (k : Int)) ≤ sumTo (bDif A x) k ∧ sumTo (bDif A x) k ≤ 86400 * k
  | 0 => ⟨by show _ ≤ (0 : Int); omega, by show (0 : Int) ≤ _; omega⟩
  | k + 1 => by
    have h1 := bDif_b hI (x := x) k
    have h2 := sOw_b hI (x := x) (y := k) (d := A iM 0)
    have h3 := sOw_b hI (x := k) (y := x) (d := A iM 0)
    rw [sumTo_s]
    unfold bDif dD at *
    omega
def bI2 (A : xAs) (k : Int) (j : Nat) (ν : xm) : Prop := (∀ x y, 0 ≤ x → x < 8 → 0 ≤ y → y < 8 → gi ν iM_most0 (8 * x + y) = dD A x y) ∧ (∀ z, 0 ≤ z → z < 64 → gi ν iM_least0 z = 0) ∧ (∀ x, 0 ≤ x → x < k → gi ν iM_balance x = dB A x) ∧ (∀ x, k < x → x < 8 → gi ν iM_balance x = 0) ∧ (k < 8 → gi ν iM_balance k = sumTo (bDif A k) j)
theorem bal83 {A : xAs} {ν : xm} (hI : Inv A) {k j : Nat} (hk : k < 8) (hj : j < 8) (h : bI2 A k j ν) : ∃ ν', fX12_balances_b83 (j32 j) ν (j32 k) = some (.inl (j32 ((j : Int) + 1), ν')) ∧ bI2 A k (j + 1) ν' ∧ frB ν ν' := by
  obtain ⟨h1, h2, h3, h4, h5⟩ := h
  have e1 := h1 k j (by omega) (by omega) (by omega) (by omega)
  have e2 := h1 j k (by omega) (by omega) (by omega) (by omega)
  have e3 := h5 (by omega)
  have b1 := bDif_b hI (x := k) j
  have b2 := sOw_b hI (x := k) (y := j) (d := A iM 0)
  have b3 := sOw_b hI (x := j) (y := k) (d := A iM 0)
  obtain ⟨v, hv⟩ : ∃ v, v = sumTo (bDif A k) (j + 1) := ⟨_, rfl⟩
  have hv2 : sumTo (bDif A k) j + dD A k j - dD A j k = v := by rw [hv, sumTo_s]; unfold bDif; omega
  have b4 := bDif_b hI (x := k) (j + 1)
  refine ⟨wr ν iM_balance k v, ?_, ⟨fun x y q1 q2 q3 q4 => ?_, fun z q1 q2 => ?_, fun x q1 q2 => ?_, fun x q1 q2 => ?_, fun _ => ?_⟩, fun o ho => gi_wr_f (by show o ≠ 95; omega)⟩
  · unfold fX12_balances_b83
    simp (disch := omega) only [Bool.false_eq_true, lits, jj, jc, jm, Int.cast_ofNat_Int, j_bi0, j_bi1, not_true, not_false_eq_true, if_true, if_false, xe, xok_some, Sum.elim_inl, Sum.elim_inr, Int.reduceEq, Int.reduceLT, Int.reduceLE, Int.reduceAdd, Int.reduceSub, Int.reduceMul, show ¬ (8 : Int) ≤ j by omega, e1, e2, e3, hv2]
  · rw [gi_wr_o (by decide)]; exact h1 x y q1 q2 q3 q4
  · rw [gi_wr_o (by decide)]; exact h2 z q1 q2
  · rw [gi_wr_z (by omega)]; exact h3 x q1 q2
  · rw [gi_wr_z (by omega)]; exact h4 x q1 q2
  · rw [gi_wr (by omega), hv]
theorem bal75 {A : xAs} {ν : xm} (hI : Inv A) {k : Nat} (hk : k < 8) (h : bI2 A k 0 ν) : ∃ ν', fX12_balances_b75 (j32 k) ν = some (.inl (j32 ((k : Int) + 1), ν')) ∧ bI2 A ((k + 1 : Nat) : Int) 0 ν' ∧ frB ν ν' := by
  have key : xok (xloop xfu (fun v => fX12_balances_b83 v.1 v.2 (j32 k)) (j32 0, ν)) (fun ν' => bI2 A k 8 ν' ∧ frB ν ν') := by
    refine xok_for (fun j s => s.1 = j32 j ∧ bI2 A k j s.2 ∧ frB ν s.2) 8 (by omega) ⟨rfl, h, frB.rf⟩ ?_ ?_
    · intro j s hj hs
      obtain ⟨s1, σ⟩ := s
      obtain ⟨g1, g2, g3⟩ := hs
      simp only at g1 g2 g3
      subst g1
      obtain ⟨ν', r1, r2, r3⟩ := bal83 hI hk hj g2
      exact ⟨_, r1, rfl, r2, g3.tr r3⟩
    · intro s hs
      obtain ⟨s1, σ⟩ := s
      obtain ⟨g1, g2, g3⟩ := hs
      simp only at g1 g2 g3
      subst g1
      show xok (fX12_balances_b83 (j32 (8 : Nat)) σ _) _
      unfold fX12_balances_b83
      simp (disch := omega) only [Bool.false_eq_true, lits, jj, jc, jm, Int.cast_ofNat_Int, j_bi0, j_bi1, not_true, not_false_eq_true, if_true, if_false, xe, xok_some, Sum.elim_inl, Sum.elim_inr, Int.reduceEq, Int.reduceLT, Int.reduceLE, Int.reduceAdd, Int.reduceSub, Int.reduceMul, show ((8 : Nat) : Int) = 8 from rfl]
      exact ⟨g2, g3⟩
  obtain ⟨ν', r1, r2, r3⟩ := key
  obtain ⟨q1, q2, q3, q4, q5⟩ := r2
  refine ⟨ν', ?_, ⟨q1, q2, fun x h1 h2 => ?_, fun x h1 h2 => q4 x (by omega) h2, fun h1 => ?_⟩, r3⟩
  · unfold fX12_balances_b75
    simp only [lits] at r1 ⊢
    rw [if_neg (by rw [j_le (by omega) (by omega)]; omega), r1, xbd_e, xlt_e, j_add]
  · by_cases c : x = k
    · rw [c, q5 (by omega), bDif_sum hI]
    · exact q3 x h1 (by omega)
  · exact q4 _ (by omega) (by omega)
theorem bal_ok {A : xAs} {μ : xm} (hA : RH A μ) (hI : Inv A) : ∃ ν, fX12_balances μ = some ν ∧ frB μ ν ∧ (∀ x y, 0 ≤ x → x < 8 → 0 ≤ y → y < 8 → gi ν iM_most0 (8 * x + y) = dD A x y) ∧ (∀ x, 0 ≤ x → x < 8 → gi ν iM_balance x = dB A x) ∧ ∀ z, 0 ≤ z → z < 64 → gi ν iM_least0 z = 0 := by
  have key1 : xok (xloop xfu (fun v => fX12_balances_b2 v.1 v.2) (j32 0, μ)) (fun ν => bI1 A 8 (-1) ν ∧ frB μ ν) := by
    refine xok_for (fun k s => s.1 = j32 k ∧ bI1 A k (-1) s.2 ∧ frB μ s.2) 8 (by omega) ⟨rfl, ⟨fun x y h1 h2 h3 h4 => ?_, fun x h1 h2 => ?_⟩, frB.rf⟩ ?_ ?_
    · exfalso; omega
    · exfalso; omega
    · intro k s hk hs
      obtain ⟨s1, σ⟩ := s
      obtain ⟨g1, g2, g3⟩ := hs
      simp only at g1 g2 g3
      subst g1
      obtain ⟨ν', r1, r2, r3⟩ := bal2 (g3.RH hA) hI hk g2
      exact ⟨_, r1, rfl, r2, g3.tr r3⟩
    · intro s hs
      obtain ⟨s1, σ⟩ := s
      obtain ⟨g1, g2, g3⟩ := hs
      simp only at g1 g2 g3
      subst g1
      show xok (fX12_balances_b2 (j32 (8 : Nat)) σ) _
      unfold fX12_balances_b2
      simp (disch := omega) only [Bool.false_eq_true, lits, jj, jc, jm, Int.cast_ofNat_Int, j_bi0, j_bi1, not_true, not_false_eq_true, if_true, if_false, xe, xok_some, Sum.elim_inl, Sum.elim_inr, Int.reduceEq, Int.reduceLT, Int.reduceLE, Int.reduceAdd, Int.reduceSub, Int.reduceMul, show ((8 : Nat) : Int) = 8 from rfl]
      exact ⟨g2, g3⟩
  obtain ⟨ν1, r1, r2, r3⟩ := key1
  have l0 : bI2 A ((0 : Nat) : Int) 0 ν1 := by
    refine ⟨fun x y h1 h2 h3 h4 => (r2.1 x y h1 h3 h4 (by omega)).1, fun z h1 h2 => ?_, fun x h1 h2 => by omega, fun x h1 h2 => r2.2 x (by omega) (by omega), fun _ => r2.2 _ (by omega) (by omega)⟩
    have := (r2.1 (z / 8) (z % 8) (by omega) (by omega) (by omega) (by omega)).2
    rw [show 8 * (z / 8) + z % 8 = z by omega] at this
    exact this
  have key2 : xok (xloop xfu (fun v => fX12_balances_b75 v.1 v.2) (j32 0, ν1)) (fun ν => bI2 A 8 0 ν ∧ frB μ ν) := by
    refine xok_for (fun k s => s.1 = j32 k ∧ bI2 A k 0 s.2 ∧ frB μ s.2) 8 (by omega) ⟨rfl, l0, r3⟩ ?_ ?_
    · intro k s hk hs
      obtain ⟨s1, σ⟩ := s
      obtain ⟨g1, g2, g3⟩ := hs
      simp only at g1 g2 g3
      subst g1
      obtain ⟨ν', t1, t2, t3⟩ := bal75 hI hk g2
      exact ⟨_, t1, rfl, t2, g3.tr t3⟩
    · intro s hs
      obtain ⟨s1, σ⟩ := s
      obtain ⟨g1, g2, g3⟩ := hs
      simp only at g1 g2 g3
      subst g1
      show xok (fX12_balances_b75 (j32 (8 : Nat)) σ) _
      unfold fX12_balances_b75
      simp (disch := omega) only [Bool.false_eq_true, lits, jj, jc, jm, Int.cast_ofNat_Int, j_bi0, j_bi1, not_true, not_false_eq_true, if_true, if_false, xe, xok_some, Sum.elim_inl, Sum.elim_inr, Int.reduceEq, Int.reduceLT, Int.reduceLE, Int.reduceAdd, Int.reduceSub, Int.reduceMul, show ((8 : Nat) : Int) = 8 from rfl]
      exact ⟨g2, g3⟩
  obtain ⟨ν2, t1, t2, t3⟩ := key2
  obtain ⟨q1, q2, q3, q4, q5⟩ := t2
  refine ⟨ν2, ?_, t3, q1, fun x h1 h2 => q3 x h1 h2, q2⟩
  unfold fX12_balances
  simp only [lits] at r1 t1 ⊢
  rw [r1, xbd_e, t1, xbd_e]
