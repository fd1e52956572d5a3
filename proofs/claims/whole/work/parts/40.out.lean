/-! out, two, outTwo -/
/-- the first of the least: two ways to write it -/
theorem out_step (q x : Int64) : (0 ≤ lg_cmp q x) ↔ ¬ (lg_cmp q x < 0) := by
  rw [Int32.not_lt]
theorem s_out {A : xAs} {μ : xm} {R : xr} {n : Nat} (hA : RH A μ) (hC : CH A μ R n) (hI : Inv A) (a1 a2 a3 : Int32) : ∃ q, fX11_out a1 a2 a3 μ R = some q ∧ fX12_out a1 a2 a3 μ = some q := by
  obtain ⟨m, rfl, hm⟩ := j32_ex a1
  obtain ⟨p, rfl, hp⟩ := j32_ex a2
  obtain ⟨t, rfl, ht⟩ := j32_ex a3
  have hf := eX3_find hC hI hm
  unfold fX11_out fX12_out
  simp only [lits]
  rw [eX12_isOf hA hI hm hp, eX11_within ht (by omega) (by omega), eX12_in ht (by omega) (by omega), hf]
  by_cases c1 : 0 ≤ m ∧ m < A iM 1
  · have ei := eC_includes hC hI c1 hp
    by_cases c2 : inc (A iM_peopleOf m) p
    · by_cases c3 : 0 ≤ t ∧ t ≤ 99
      · have hp8 : 0 ≤ p ∧ p < 8 := ⟨c2.1, c2.2.1⟩
        have f1 := fun (g : Int) (hg : -60 ≤ g ∧ g ≤ 600) => eX10_costOfOne hC hI c1 hp8 hg c3
        have f2 := fun (g : Int) (hg : -60 ≤ g ∧ g ≤ 600) => eX12_costOf hA hI c1 hp8 hg c3
        have key := xsim_for (b := fun v => fX11_out_b56 v.1 v.2.1 v.2.2 (j32 p) (j32 t) μ (oM m)) (c := fun v => fX12_out_b37 v.1 v.2.1 v.2.2 (j32 m) (j32 p) (j32 t) μ) (a := (j32 0, l64 (cOne A m p 0 t), j32 1)) (a' := (j32 0, l64 (cOne A m p 0 t), j32 1)) (P := fun r s => r = s)
          (fun k x y => x = y ∧ x.2.2 = j32 (k + 1)) 600 (by omega) ⟨rfl, rfl⟩ ?_ ?_
        · obtain ⟨r, s, k1, k2, rfl⟩ := key
          refine ⟨r, ?_, ?_⟩
          · simp (disch := omega) only [Bool.false_eq_true, lits, jj, jc, jm, Int.cast_ofNat_Int, j_bi0, j_bi1, not_true, not_false_eq_true, if_true, if_false, xe, xok_some, Sum.elim_inl, Sum.elim_inr, Int.reduceEq, Int.reduceLT, Int.reduceLE, Int.reduceAdd, Int.reduceSub, Int.reduceMul, eq_true c1, ei, eq_true c2, eq_true c3, f1, k1]
          · simp (disch := omega) only [Bool.false_eq_true, lits, jj, jc, jm, Int.cast_ofNat_Int, j_bi0, j_bi1, not_true, not_false_eq_true, if_true, if_false, xe, xok_some, Sum.elim_inl, Sum.elim_inr, Int.reduceEq, Int.reduceLT, Int.reduceLE, Int.reduceAdd, Int.reduceSub, Int.reduceMul, eq_true (show isOf A m p from ⟨c1, c2⟩), eq_true c3, f2, k2]
        · intro k x y hk hh
          obtain ⟨rfl, h2⟩ := hh
          obtain ⟨b, v, g⟩ := x
          simp only at h2
          subst h2
          refine Or.inl ?_
          show ∃ x' y', fX11_out_b56 b v (j32 (k + 1)) (j32 p) (j32 t) μ (oM m) = _ ∧ fX12_out_b37 b v (j32 (k + 1)) (j32 m) (j32 p) (j32 t) μ = _ ∧ _
          have e1 := f1 (k + 1) (by omega)
          have e2 := f2 (k + 1) (by omega)
          unfold fX11_out_b56 fX12_out_b37
          simp (disch := omega) only [Bool.false_eq_true, lits, jj, jc, jm, Int.cast_ofNat_Int, j_bi0, j_bi1, not_true, not_false_eq_true, if_true, if_false, xe, xok_some, Sum.elim_inl, Sum.elim_inr, Int.reduceEq, Int.reduceLT, Int.reduceLE, Int.reduceAdd, Int.reduceSub, Int.reduceMul, show ¬ (600 : Int) < k + 1 by omega, e1, e2]
          rw [show j32 0 = (0 : Int32) from rfl]
          by_cases c : lg_cmp (l64 (cOne A m p (k + 1) t)) v < 0
          · rw [if_neg (by rw [out_step]; exact fun h => h c), if_pos c]
            exact ⟨_, _, rfl, rfl, rfl, rfl⟩
          · rw [if_pos (by rw [out_step]; exact c), if_neg c]
            exact ⟨_, _, rfl, rfl, rfl, rfl⟩
        · intro x y hh
          obtain ⟨rfl, h2⟩ := hh
          obtain ⟨b, v, g⟩ := x
          simp only at h2
          subst h2
          show ∃ x' y', fX11_out_b56 b v (j32 (600 + 1)) (j32 p) (j32 t) μ (oM m) = _ ∧ fX12_out_b37 b v (j32 (600 + 1)) (j32 m) (j32 p) (j32 t) μ = _ ∧ _
          unfold fX11_out_b56 fX12_out_b37
          simp (disch := omega) only [Bool.false_eq_true, lits, jj, jc, jm, Int.cast_ofNat_Int, j_bi0, j_bi1, not_true, not_false_eq_true, if_true, if_false, xe, xok_some, Sum.elim_inl, Sum.elim_inr, Int.reduceEq, Int.reduceLT, Int.reduceLE, Int.reduceAdd, Int.reduceSub, Int.reduceMul, show (600 : Int) < 600 + 1 by omega]
          exact ⟨_, _, rfl, rfl, rfl⟩
      · refine ⟨j32 (-1), ?_, ?_⟩
        · simp (disch := omega) only [Bool.false_eq_true, lits, jj, jc, jm, Int.cast_ofNat_Int, j_bi0, j_bi1, not_true, not_false_eq_true, if_true, if_false, xe, xok_some, Sum.elim_inl, Sum.elim_inr, Int.reduceEq, Int.reduceLT, Int.reduceLE, Int.reduceAdd, Int.reduceSub, Int.reduceMul, eq_true c1, ei, eq_true c2, eq_false c3]
        · simp (disch := omega) only [Bool.false_eq_true, lits, jj, jc, jm, Int.cast_ofNat_Int, j_bi0, j_bi1, not_true, not_false_eq_true, if_true, if_false, xe, xok_some, Sum.elim_inl, Sum.elim_inr, Int.reduceEq, Int.reduceLT, Int.reduceLE, Int.reduceAdd, Int.reduceSub, Int.reduceMul, eq_true (show isOf A m p from ⟨c1, c2⟩), eq_false c3]
    · refine ⟨j32 (-1), ?_, ?_⟩
      · simp (disch := omega) only [Bool.false_eq_true, lits, jj, jc, jm, Int.cast_ofNat_Int, j_bi0, j_bi1, not_true, not_false_eq_true, if_true, if_false, xe, xok_some, Sum.elim_inl, Sum.elim_inr, Int.reduceEq, Int.reduceLT, Int.reduceLE, Int.reduceAdd, Int.reduceSub, Int.reduceMul, eq_true c1, ei, eq_false c2]
      · simp (disch := omega) only [Bool.false_eq_true, lits, jj, jc, jm, Int.cast_ofNat_Int, j_bi0, j_bi1, not_true, not_false_eq_true, if_true, if_false, xe, xok_some, Sum.elim_inl, Sum.elim_inr, Int.reduceEq, Int.reduceLT, Int.reduceLE, Int.reduceAdd, Int.reduceSub, Int.reduceMul, eq_false (show ¬ isOf A m p from fun h => c2 h.2)]
  · refine ⟨j32 (-1), ?_, ?_⟩
    · simp (disch := omega) only [Bool.false_eq_true, lits, jj, jc, jm, Int.cast_ofNat_Int, j_bi0, j_bi1, not_true, not_false_eq_true, if_true, if_false, xe, xok_some, Sum.elim_inl, Sum.elim_inr, Int.reduceEq, Int.reduceLT, Int.reduceLE, Int.reduceAdd, Int.reduceSub, Int.reduceMul, eq_false c1]
    · simp (disch := omega) only [Bool.false_eq_true, lits, jj, jc, jm, Int.cast_ofNat_Int, j_bi0, j_bi1, not_true, not_false_eq_true, if_true, if_false, xe, xok_some, Sum.elim_inl, Sum.elim_inr, Int.reduceEq, Int.reduceLT, Int.reduceLE, Int.reduceAdd, Int.reduceSub, Int.reduceMul, eq_false (show ¬ isOf A m p from fun h => c1 h.1)]
/-- two meetings in a row -/
def hB (A : xAs) (m p s x b e : Int) : Int := max (x + wWay A p e b) (A iM_minuteOf m) + s
def cB (A : xAs) (m1 m2 p s x t b : Int) : Int → Int := fun e => wWt A p e * (wAll A p * cCome A m1 p (x + wWay A p e b) t + cSum A m2 p (hB A m1 p s x b e) t b)
def cBoth (A : xAs) (m1 m2 p s x t b : Int) : Int := sumTo (cB A m1 m2 p s x t b) (wEnds A p).toNat
theorem eX10_costOfBoth {A : xAs} {μ : xm} {R : xr} {n : Nat} (hC : CH A μ R n) (hI : Inv A) {m1 m2 p s x t b : Int} (hm : 0 ≤ m1 ∧ m1 < A iM 1) (hm2 : 0 ≤ m2 ∧ m2 < A iM 1) (hp : 0 ≤ p ∧ p < 8) (hs : 0 ≤ s ∧ s ≤ 600) (hx : -2000 ≤ x ∧ x ≤ 2000) (ht : 0 ≤ t ∧ t ≤ 99) (hb : 0 ≤ b ∧ b ≤ 1) : fX10_costOfBoth (oM m1) (oM m2) (j32 p) (j32 s) (j32 x) (j32 b) (j32 t) μ = some (l64 (cBoth A m1 m2 p s x t b)) := by
  have h1 := wEnds_b hI hp
  have e1 := eX10_endsOf hC hI hp
  have hM := hI.minuteOf m1 hm.1 hm.2
  have eM := hC.minute m1 hm.1 hm.2
  have eW := eX10_weightsOf hC hp
  have hW := wAll_b hI hp
  have key := xok_for (b := fun v => fX10_costOfBoth_b12 v.1 v.2.1 v.2.2.1 v.2.2.2 (oM m1) (oM m2) (j32 p) (j32 s) (j32 x) (j32 b) (j32 t) μ) (a := (l64 0, l64 0, j32 (-1), j32 0)) (P := fun r => r = l64 (cBoth A m1 m2 p s x t b))
    (fun k v => v.1 = l64 (sumTo (cB A m1 m2 p s x t b) k) ∧ v.2.2.2 = j32 k ∧ (v.2.2.1 = j32 (-1) ∨ ∃ y : Int, 0 ≤ y ∧ y ≤ 10000 ∧ v.2.2.1 = j32 y ∧ v.2.1 = l64 (cSum A m2 p y t b))) (wEnds A p).toNat (by omega) ⟨rfl, rfl, Or.inl rfl⟩ ?_ ?_
  · obtain ⟨r, k1, rfl⟩ := key
    unfold fX10_costOfBoth
    rw [show xloop xfu (fun v => fX10_costOfBoth_b12 v.1 v.2.1 v.2.2.1 v.2.2.2 (oM m1) (oM m2) (j32 p) (j32 s) (j32 x) (j32 b) (j32 t) μ) (0, 0, (-1), 0) = some (l64 (cBoth A m1 m2 p s x t b)) from k1]
    rfl
  · intro k v hk hv
    obtain ⟨v1, v2, v3, v4⟩ := v
    obtain ⟨h2, h3, h4⟩ := hv
    simp only at h2 h3 h4
    subst h2; subst h3
    have h5 := wWay_b hI hp (e := (k : Int)) (b := b) (by omega)
    have h6 := wWt_b hI hp (e := (k : Int)) (by omega)
    have e2 := eX10_weightOf hC hI hp (e := (k : Int)) (by omega)
    have e3 := eX10_takes hC hI hp (e := (k : Int)) (by omega) hb
    have e4 := eX10_costOfComing hC hI (m := m1) (p := p) (c := x + wWay A p k b) (t := t) hm hp (by omega) ht
    have hh : 0 ≤ hB A m1 p s x b k ∧ hB A m1 p s x b k ≤ 10000 := by unfold hB; omega
    have e5 := eX10_costOfWay hC hI (m := m2) (p := p) (x := hB A m1 p s x b k) (t := t) (b := b) hm2 hp (by omega) ht hb
    have g : ∀ y3 : Int32, fX10_costOfBoth_j71 (l64 (cSum A m2 p (hB A m1 p s x b k) t b)) (oM m1) (j32 p) (j32 t) μ (l64 (sumTo (cB A m1 m2 p s x t b) k)) (j32 k) (j32 (x + wWay A p k b)) y3 = some (.inl (l64 (sumTo (cB A m1 m2 p s x t b) (k + 1)), l64 (cSum A m2 p (hB A m1 p s x b k) t b), y3, j32 ((k + 1 : Nat) : Int))) := by
      intro y3
      unfold fX10_costOfBoth_j71
      simp (disch := omega) only [Bool.false_eq_true, lits, jj, jc, jm, Int.cast_ofNat_Int, j_bi0, j_bi1, not_true, not_false_eq_true, if_true, if_false, xe, xok_some, Sum.elim_inl, Sum.elim_inr, Int.reduceEq, Int.reduceLT, Int.reduceLE, Int.reduceAdd, Int.reduceSub, Int.reduceMul, e2, eW, e4, l_of, l_mul, l_add]
      rfl
    show xok (fX10_costOfBoth_b12 _ v2 v3 _ _ _ _ _ _ _ _ μ) _
    unfold fX10_costOfBoth_b12
    simp (disch := omega) only [Bool.false_eq_true, lits, jj, jc, jm, Int.cast_ofNat_Int, j_bi0, j_bi1, not_true, not_false_eq_true, if_true, if_false, xe, xok_some, Sum.elim_inl, Sum.elim_inr, Int.reduceEq, Int.reduceLT, Int.reduceLE, Int.reduceAdd, Int.reduceSub, Int.reduceMul, e1, e3, show ¬ wEnds A p ≤ k by omega, eM]
    rw [j_max (by omega) (by omega)]
    simp (disch := omega) only [Bool.false_eq_true, lits, jj, jc, jm, Int.cast_ofNat_Int, j_bi0, j_bi1, not_true, not_false_eq_true, if_true, if_false, xe, xok_some, Sum.elim_inl, Sum.elim_inr, Int.reduceEq, Int.reduceLT, Int.reduceLE, Int.reduceAdd, Int.reduceSub, Int.reduceMul]
    rw [show max (x + wWay A p k b) (A iM_minuteOf m1) + s = hB A m1 p s x b k from rfl]
    by_cases c : j32 (hB A m1 p s x b k) = v3
    · rw [if_pos c]
      rcases h4 with h4 | ⟨y, hy1, hy2, hy3, hy4⟩
      · rw [h4] at c
        have := (j_eq (by omega) (by omega)).mp c
        omega
      · rw [hy3] at c
        have hy : hB A m1 p s x b k = y := (j_eq (by omega) (by omega)).mp c
        rw [hy4, ← hy, g, xok_some]
        exact ⟨rfl, rfl, Or.inr ⟨_, hh.1, hh.2, rfl, rfl⟩⟩
    · rw [if_neg c, e5, xbd_e, g, xok_some]
      exact ⟨rfl, rfl, Or.inr ⟨_, hh.1, hh.2, rfl, rfl⟩⟩
  · intro v hv
    obtain ⟨v1, v2, v3, v4⟩ := v
    obtain ⟨h2, h3, h4⟩ := hv
    simp only at h2 h3 h4
    subst h2; subst h3
    show xok (fX10_costOfBoth_b12 _ v2 v3 _ _ _ _ _ _ _ _ μ) _
    unfold fX10_costOfBoth_b12
    simp (disch := omega) only [Bool.false_eq_true, lits, jj, jc, jm, Int.cast_ofNat_Int, j_bi0, j_bi1, not_true, not_false_eq_true, if_true, if_false, xe, xok_some, Sum.elim_inl, Sum.elim_inr, Int.reduceEq, Int.reduceLT, Int.reduceLE, Int.reduceAdd, Int.reduceSub, Int.reduceMul, e1, show wEnds A p ≤ (wEnds A p).toNat by omega]
    rfl
theorem sum_two (w c : Int) (u d : Int → Int) : ∀ k : Nat, sumTo (fun e => (w * u e) * (c + d e)) k = w * (sumTo u k * c + sumTo (fun e => u e * d e) k)
  | 0 => by simp [sumTo]
  | k + 1 => by
    rw [sumTo_s, sumTo_s, sumTo_s, sum_two w c u d k]
    grind
theorem eX12_twoWith {A : xAs} {μ : xm} (hA : RH A μ) (hI : Inv A) {m1 m2 p s g t b : Int} (hm : 0 ≤ m1 ∧ m1 < A iM 1) (hm2 : 0 ≤ m2 ∧ m2 < A iM 1) (hp : 0 ≤ p ∧ p < 8) (hs : 0 ≤ s ∧ s ≤ 600) (hg : -60 ≤ g ∧ g ≤ 600) (ht : 0 ≤ t ∧ t ≤ 99) (hb : 0 ≤ b ∧ b ≤ 1) : fX12_twoWith (j32 m1) (j32 m2) (j32 p) (j32 s) (j32 g) (j32 t) (j32 b) μ = some (l64 (cBoth A m1 m2 p s (A iM_minuteOf m1 - g) t b * bW A b)) := by
  have h0 := hI.mt
  have h1 := wEnds_b hI hp
  have e1 := eX12_endsOf hA hI hp
  have hM := hI.minuteOf m1 hm.1 hm.2
  have h9 := hI.bridge
  obtain ⟨x, hx⟩ : ∃ x, A iM_minuteOf m1 - g = x := ⟨_, rfl⟩
  rw [hx]
  have inner : ∀ (k : Nat) (y : Int), (k : Int) < wEnds A p → xloop xfu (fun v => fX12_twoWith_b79 v.1 v.2 (j32 m2) (j32 p) (j32 t) (j32 b) μ (j32 k) (j32 (hB A m1 p s x b k)) (l64 (cCome A m1 p (x + wWay A p k b) t))) (l64 y, j32 0) = some (l64 (y + cB A m1 m2 p s x t b k)) := by
    intro k y hk
    have h5 := wWay_b hI hp (e := (k : Int)) (b := b) (by omega)
    have h6 := wWt_b hI hp (e := (k : Int)) (by omega)
    have e2 := eX12_weightAt hA hI hp (e := (k : Int)) (by omega)
    have hh : 0 ≤ hB A m1 p s x b k ∧ hB A m1 p s x b k ≤ 10000 := by unfold hB; omega
    have es := sum_two (wWt A p k) (cCome A m1 p (x + wWay A p k b) t) (wWt A p) (fun e => cCome A m2 p (hB A m1 p s x b k + wWay A p e b) t) (wEnds A p).toNat
    have key := xloop_for (b := fun v => fX12_twoWith_b79 v.1 v.2 (j32 m2) (j32 p) (j32 t) (j32 b) μ (j32 k) (j32 (hB A m1 p s x b k)) (l64 (cCome A m1 p (x + wWay A p k b) t))) (fun j => (l64 (y + sumTo (fun e => (wWt A p k * wWt A p e) * (cCome A m1 p (x + wWay A p k b) t + cCome A m2 p (hB A m1 p s x b k + wWay A p e b) t)) j), j32 j)) (wEnds A p).toNat (r := l64 (y + cB A m1 m2 p s x t b k)) (a := (l64 y, j32 0)) (by omega) (by simp [sumTo]) ?_ ?_
    · exact key
    · intro j hj
      show fX12_twoWith_b79 _ _ _ _ _ _ μ _ _ _ = _
      have h7 := wWay_b hI hp (e := (j : Int)) (b := b) (by omega)
      have h8 := wWt_b hI hp (e := (j : Int)) (by omega)
      have e3 := eX12_weightAt hA hI hp (e := (j : Int)) (by omega)
      have e4 := eX12_wayAt hA hI hp (e := (j : Int)) (by omega) hb
      have e5 := eX12_comingCost hA hI (m := m2) (p := p) (c := hB A m1 p s x b k + wWay A p j b) (t := t) hm2 hp (by omega) ht
      unfold fX12_twoWith_b79
      simp (disch := omega) only [Bool.false_eq_true, lits, jj, jc, jm, Int.cast_ofNat_Int, j_bi0, j_bi1, not_true, not_false_eq_true, if_true, if_false, xe, xok_some, Sum.elim_inl, Sum.elim_inr, Int.reduceEq, Int.reduceLT, Int.reduceLE, Int.reduceAdd, Int.reduceSub, Int.reduceMul, e1, e2, e3, e4, e5, show ¬ wEnds A p ≤ j by omega, l_of, l_mul, l_add]
      rw [sumTo_s, Int.add_assoc]
      rfl
    · show fX12_twoWith_b79 _ _ _ _ _ _ μ _ _ _ = _
      unfold fX12_twoWith_b79
      simp (disch := omega) only [Bool.false_eq_true, lits, jj, jc, jm, Int.cast_ofNat_Int, j_bi0, j_bi1, not_true, not_false_eq_true, if_true, if_false, xe, xok_some, Sum.elim_inl, Sum.elim_inr, Int.reduceEq, Int.reduceLT, Int.reduceLE, Int.reduceAdd, Int.reduceSub, Int.reduceMul, e1, show wEnds A p ≤ (wEnds A p).toNat by omega]
      rw [es]
      rfl
  unfold fX12_twoWith
  have key := xloop_for (b := fun v => fX12_twoWith_b6 v.1 v.2 (j32 m1) (j32 m2) (j32 p) (j32 s) (j32 g) (j32 t) (j32 b) μ) (fun k => (l64 (sumTo (cB A m1 m2 p s x t b) k), j32 k)) (wEnds A p).toNat (r := l64 (cBoth A m1 m2 p s x t b)) (a := (0, 0)) (by omega) rfl ?_ ?_
  · rw [key]
    rw [eX12_bridgeWeight hA hb, show (if b = 1 then A iM 53 else A iM 54 - A iM 53) = bW A b from rfl]
    simp (disch := omega) only [Bool.false_eq_true, lits, jj, jc, jm, Int.cast_ofNat_Int, j_bi0, j_bi1, not_true, not_false_eq_true, if_true, if_false, xe, xok_some, Sum.elim_inl, Sum.elim_inr, Int.reduceEq, Int.reduceLT, Int.reduceLE, Int.reduceAdd, Int.reduceSub, Int.reduceMul]
    rw [l_of (by unfold bW; split <;> omega), l_mul]
  · intro k hk
    show fX12_twoWith_b6 _ _ _ _ _ _ _ _ _ μ = _
    have h5 := wWay_b hI hp (e := (k : Int)) (b := b) (by omega)
    have e4 := eX12_wayAt hA hI hp (e := (k : Int)) (by omega) hb
    have e5 := eX12_comingCost hA hI (m := m1) (p := p) (c := x + wWay A p k b) (t := t) hm hp (by omega) ht
    have e6 := inner k (sumTo (cB A m1 m2 p s x t b) k) (by omega)
    have gg : ∀ y : Int, y + s = hB A m1 p s x b k → fX12_twoWith_j59 (j32 y) (j32 m1) (j32 m2) (j32 p) (j32 s) (j32 t) (j32 b) μ (l64 (sumTo (cB A m1 m2 p s x t b) k)) (j32 k) (j32 (x + wWay A p k b)) = some (.inl (l64 (sumTo (cB A m1 m2 p s x t b) (k + 1)), j32 ((k + 1 : Nat) : Int))) := by
      intro y hy
      unfold fX12_twoWith_j59
      simp (disch := omega) only [Bool.false_eq_true, lits, jj, jc, jm, Int.cast_ofNat_Int, j_bi0, j_bi1, not_true, not_false_eq_true, if_true, if_false, xe, xok_some, Sum.elim_inl, Sum.elim_inr, Int.reduceEq, Int.reduceLT, Int.reduceLE, Int.reduceAdd, Int.reduceSub, Int.reduceMul, hy, e5]
      rw [show ((l64 (sumTo (cB A m1 m2 p s x t b) k)), j32 0) = ((l64 (sumTo (cB A m1 m2 p s x t b) k)), j32 0) from rfl, e6]
      rfl
    unfold fX12_twoWith_b6
    simp (disch := omega) only [Bool.false_eq_true, lits, jj, jc, jm, Int.cast_ofNat_Int, j_bi0, j_bi1, not_true, not_false_eq_true, if_true, if_false, xe, xok_some, Sum.elim_inl, Sum.elim_inr, Int.reduceEq, Int.reduceLT, Int.reduceLE, Int.reduceAdd, Int.reduceSub, Int.reduceMul, e1, hA, e4, hx, show ¬ wEnds A p ≤ k by omega]
    by_cases c : x + wWay A p k b ≤ A iM_minuteOf m1
    · rw [if_pos c]
      exact gg _ (by unfold hB; omega)
    · rw [if_neg c]
      exact gg _ (by unfold hB; omega)
  · show fX12_twoWith_b6 _ _ _ _ _ _ _ _ _ μ = _
    unfold fX12_twoWith_b6
    simp (disch := omega) only [Bool.false_eq_true, lits, jj, jc, jm, Int.cast_ofNat_Int, j_bi0, j_bi1, not_true, not_false_eq_true, if_true, if_false, xe, xok_some, Sum.elim_inl, Sum.elim_inr, Int.reduceEq, Int.reduceLT, Int.reduceLE, Int.reduceAdd, Int.reduceSub, Int.reduceMul, e1, show wEnds A p ≤ (wEnds A p).toNat by omega]
    rfl
def cRow (A : xAs) (m1 m2 p s g t : Int) : Int := cBoth A m1 m2 p s (A iM_minuteOf m1 - g) t 0 * bW A 0 + cBoth A m1 m2 p s (A iM_minuteOf m1 - g) t 1 * bW A 1
theorem eX12_twoOf {A : xAs} {μ : xm} (hA : RH A μ) (hI : Inv A) {m1 m2 p s g t : Int} (hm : 0 ≤ m1 ∧ m1 < A iM 1) (hm2 : 0 ≤ m2 ∧ m2 < A iM 1) (hp : 0 ≤ p ∧ p < 8) (hs : 0 ≤ s ∧ s ≤ 600) (hg : -60 ≤ g ∧ g ≤ 600) (ht : 0 ≤ t ∧ t ≤ 99) : fX12_twoOf (j32 m1) (j32 m2) (j32 p) (j32 s) (j32 g) (j32 t) μ = some (l64 (cRow A m1 m2 p s g t)) := by
  unfold fX12_twoOf
  simp only [lits]
  rw [eX12_twoWith hA hI hm hm2 hp hs hg ht (by omega), eX12_twoWith hA hI hm hm2 hp hs hg ht (by omega)]
  simp (disch := omega) only [Bool.false_eq_true, lits, jj, jc, jm, Int.cast_ofNat_Int, j_bi0, j_bi1, not_true, not_false_eq_true, if_true, if_false, xe, xok_some, Sum.elim_inl, Sum.elim_inr, Int.reduceEq, Int.reduceLT, Int.reduceLE, Int.reduceAdd, Int.reduceSub, Int.reduceMul, l_add]
  rfl
theorem eX10_costOfRow {A : xAs} {μ : xm} {R : xr} {n : Nat} (hC : CH A μ R n) (hI : Inv A) {m1 m2 p s g t : Int} (hm : 0 ≤ m1 ∧ m1 < A iM 1) (hm2 : 0 ≤ m2 ∧ m2 < A iM 1) (hp : 0 ≤ p ∧ p < 8) (hs : 0 ≤ s ∧ s ≤ 600) (hg : -60 ≤ g ∧ g ≤ 600) (ht : 0 ≤ t ∧ t ≤ 99) : fX10_costOfRow (oM m1) (oM m2) (j32 p) (j32 s) (j32 g) (j32 t) μ = some (l64 (cRow A m1 m2 p s g t)) := by
  have h4 := hI.minuteOf m1 hm.1 hm.2
  have e4 := hC.minute m1 hm.1 hm.2
  have h5 := hI.bridge
  have bx : ∀ (x : Int) (b : Int), 0 ≤ b → b ≤ 1 → fX10_costOfRow_b6 (l64 x) (j32 b) (oM m1) (oM m2) (j32 p) (j32 s) (j32 g) (j32 t) μ = some (.inl (l64 (x + cBoth A m1 m2 p s (A iM_minuteOf m1 - g) t b * bW A b), j32 (b + 1))) := by
    intro x b hb1 hb2
    have e1 := eX10_bridgeWeight hC (b := b) ⟨hb1, hb2⟩
    rw [show (if b = 1 then A iM 53 else A iM 54 - A iM 53) = bW A b from rfl] at e1
    have h6 : 0 ≤ bW A b ∧ bW A b ≤ 100 := by unfold bW; split <;> omega
    have e2 := eX10_costOfBoth hC hI (x := A iM_minuteOf m1 - g) hm hm2 hp hs (by omega) ht ⟨hb1, hb2⟩
    unfold fX10_costOfRow_b6
    by_cases c : bW A b ≤ 0
    · simp (disch := omega) only [Bool.false_eq_true, lits, jj, jc, jm, Int.cast_ofNat_Int, j_bi0, j_bi1, not_true, not_false_eq_true, if_true, if_false, xe, xok_some, Sum.elim_inl, Sum.elim_inr, Int.reduceEq, Int.reduceLT, Int.reduceLE, Int.reduceAdd, Int.reduceSub, Int.reduceMul, e1, show ¬ 2 ≤ b by omega, c]
      rw [show bW A b = 0 by omega, Int.mul_zero, Int.add_zero]
    · simp (disch := omega) only [Bool.false_eq_true, lits, jj, jc, jm, Int.cast_ofNat_Int, j_bi0, j_bi1, not_true, not_false_eq_true, if_true, if_false, xe, xok_some, Sum.elim_inl, Sum.elim_inr, Int.reduceEq, Int.reduceLT, Int.reduceLE, Int.reduceAdd, Int.reduceSub, Int.reduceMul, e1, show ¬ 2 ≤ b by omega, c, e4, e2, l_of, l_mul, l_add]
      rw [Int.mul_comm (bW A b)]
  unfold fX10_costOfRow
  have k0 := bx 0 0 (by omega) (by omega)
  have k1 := bx (0 + cBoth A m1 m2 p s (A iM_minuteOf m1 - g) t 0 * bW A 0) 1 (by omega) (by omega)
  have k2 : fX10_costOfRow_b6 (l64 (0 + cBoth A m1 m2 p s (A iM_minuteOf m1 - g) t 0 * bW A 0 + cBoth A m1 m2 p s (A iM_minuteOf m1 - g) t 1 * bW A 1)) (j32 2) (oM m1) (oM m2) (j32 p) (j32 s) (j32 g) (j32 t) μ = some (.inr (l64 (cRow A m1 m2 p s g t))) := by
    unfold fX10_costOfRow_b6 cRow
    simp (disch := omega) only [Bool.false_eq_true, lits, jj, jc, jm, Int.cast_ofNat_Int, j_bi0, j_bi1, not_true, not_false_eq_true, if_true, if_false, xe, xok_some, Sum.elim_inl, Sum.elim_inr, Int.reduceEq, Int.reduceLT, Int.reduceLE, Int.reduceAdd, Int.reduceSub, Int.reduceMul, Int.zero_add, Int.le_refl]
  have key : xloop (999997 + 1 + 1 + 1) (fun v => fX10_costOfRow_b6 v.1 v.2 (oM m1) (oM m2) (j32 p) (j32 s) (j32 g) (j32 t) μ) (l64 0, j32 0) = some (l64 (cRow A m1 m2 p s g t)) := by
    refine (xl_l k0).trans ((xl_l k1).trans (xl_r k2))
  rw [show xloop xfu (fun v => fX10_costOfRow_b6 v.1 v.2 (oM m1) (oM m2) (j32 p) (j32 s) (j32 g) (j32 t) μ) (0, 0) = some (l64 (cRow A m1 m2 p s g t)) from key]
  rfl
/-- one's two meetings of a day -/
abbrev sRow0 (A : xAs) (m1 m2 p : Int) : Prop := isOf A m1 p ∧ isOf A m2 p ∧ A iM_dayOf m1 = A iM_dayOf m2 ∧ A iM_minuteOf m1 < A iM_minuteOf m2
abbrev sRow (A : xAs) (m1 m2 p s t : Int) : Prop := sRow0 A m1 m2 p ∧ (0 ≤ s ∧ s ≤ 600) ∧ (0 ≤ t ∧ t ≤ 99)
theorem eX12_areInRow {A : xAs} {μ : xm} (hA : RH A μ) (hI : Inv A) {m1 m2 p s t : Int} (hm : -2147483648 ≤ m1 ∧ m1 < 2147483648) (hm2 : -2147483648 ≤ m2 ∧ m2 < 2147483648) (hp : -2147483648 ≤ p ∧ p < 2147483648) (hs : -2147483648 ≤ s ∧ s < 2147483648) (ht : -2147483648 ≤ t ∧ t < 2147483648) : fX12_areInRow (j32 m1) (j32 m2) (j32 p) (j32 s) (j32 t) μ = some (j32 (bi (sRow A m1 m2 p s t))) := by
  have h0 := hI.mt
  unfold fX12_areInRow
  simp only [lits]
  rw [eX12_isOf hA hI hm hp, eX12_isOf hA hI hm2 hp, eX12_in hs (by omega) (by omega), eX12_in ht (by omega) (by omega)]
  by_cases c1 : isOf A m1 p
  · by_cases c2 : isOf A m2 p
    · have hb1 := hI.dayOf m1 c1.1.1 c1.1.2
      have hb2 := hI.dayOf m2 c2.1.1 c2.1.2
      have hb3 := hI.minuteOf m1 c1.1.1 c1.1.2
      have hb4 := hI.minuteOf m2 c2.1.1 c2.1.2
      have q1 := c1.1
      have q2 := c2.1
      by_cases c3 : A iM_dayOf m1 = A iM_dayOf m2
      · by_cases c4 : A iM_minuteOf m2 ≤ A iM_minuteOf m1
        · simp (disch := omega) only [Bool.false_eq_true, lits, jj, jc, jm, Int.cast_ofNat_Int, j_bi0, j_bi1, not_true, not_false_eq_true, if_true, if_false, xe, xok_some, Sum.elim_inl, Sum.elim_inr, Int.reduceEq, Int.reduceLT, Int.reduceLE, Int.reduceAdd, Int.reduceSub, Int.reduceMul, eq_true c1, eq_true c2, hA, eq_true c3, eq_true c4]
          rw [show bi (sRow A m1 m2 p s t) = 0 from if_neg (fun h => by have := h.1.2.2.2; omega)]
        · by_cases c5 : 0 ≤ s ∧ s ≤ 600
          · by_cases c6 : 0 ≤ t ∧ t ≤ 99
            · simp (disch := omega) only [Bool.false_eq_true, lits, jj, jc, jm, Int.cast_ofNat_Int, j_bi0, j_bi1, not_true, not_false_eq_true, if_true, if_false, xe, xok_some, Sum.elim_inl, Sum.elim_inr, Int.reduceEq, Int.reduceLT, Int.reduceLE, Int.reduceAdd, Int.reduceSub, Int.reduceMul, eq_true c1, eq_true c2, hA, eq_true c3, eq_false c4, eq_true c5, eq_true c6]
              rw [show bi (sRow A m1 m2 p s t) = 1 from if_pos ⟨⟨c1, c2, c3, by omega⟩, c5, c6⟩]
            · simp (disch := omega) only [Bool.false_eq_true, lits, jj, jc, jm, Int.cast_ofNat_Int, j_bi0, j_bi1, not_true, not_false_eq_true, if_true, if_false, xe, xok_some, Sum.elim_inl, Sum.elim_inr, Int.reduceEq, Int.reduceLT, Int.reduceLE, Int.reduceAdd, Int.reduceSub, Int.reduceMul, eq_true c1, eq_true c2, hA, eq_true c3, eq_false c4, eq_true c5, eq_false c6]
              rw [show bi (sRow A m1 m2 p s t) = 0 from if_neg (fun h => c6 h.2.2)]
          · simp (disch := omega) only [Bool.false_eq_true, lits, jj, jc, jm, Int.cast_ofNat_Int, j_bi0, j_bi1, not_true, not_false_eq_true, if_true, if_false, xe, xok_some, Sum.elim_inl, Sum.elim_inr, Int.reduceEq, Int.reduceLT, Int.reduceLE, Int.reduceAdd, Int.reduceSub, Int.reduceMul, eq_true c1, eq_true c2, hA, eq_true c3, eq_false c4, eq_false c5]
            rw [show bi (sRow A m1 m2 p s t) = 0 from if_neg (fun h => c5 h.2.1)]
      · simp (disch := omega) only [Bool.false_eq_true, lits, jj, jc, jm, Int.cast_ofNat_Int, j_bi0, j_bi1, not_true, not_false_eq_true, if_true, if_false, xe, xok_some, Sum.elim_inl, Sum.elim_inr, Int.reduceEq, Int.reduceLT, Int.reduceLE, Int.reduceAdd, Int.reduceSub, Int.reduceMul, eq_true c1, eq_true c2, hA, eq_false c3]
        rw [show bi (sRow A m1 m2 p s t) = 0 from if_neg (fun h => c3 h.1.2.2.1)]
    · simp (disch := omega) only [Bool.false_eq_true, lits, jj, jc, jm, Int.cast_ofNat_Int, j_bi0, j_bi1, not_true, not_false_eq_true, if_true, if_false, xe, xok_some, Sum.elim_inl, Sum.elim_inr, Int.reduceEq, Int.reduceLT, Int.reduceLE, Int.reduceAdd, Int.reduceSub, Int.reduceMul, eq_true c1, eq_false c2]
      rw [show bi (sRow A m1 m2 p s t) = 0 from if_neg (fun h => c2 h.1.2.1)]
  · simp (disch := omega) only [Bool.false_eq_true, lits, jj, jc, jm, Int.cast_ofNat_Int, j_bi0, j_bi1, not_true, not_false_eq_true, if_true, if_false, xe, xok_some, Sum.elim_inl, Sum.elim_inr, Int.reduceEq, Int.reduceLT, Int.reduceLE, Int.reduceAdd, Int.reduceSub, Int.reduceMul, eq_false c1]
    rw [show bi (sRow A m1 m2 p s t) = 0 from if_neg (fun h => c1 h.1.1)]
theorem eX11_inRow {A : xAs} {μ : xm} {R : xr} {n : Nat} (hC : CH A μ R n) (hI : Inv A) {m1 m2 p : Int} (hm : 0 ≤ m1 ∧ m1 < A iM 1) (hm2 : 0 ≤ m2 ∧ m2 < A iM 1) (hp : -2147483648 ≤ p ∧ p < 2147483648) : fX11_inRow (oM m1) (oM m2) (j32 p) μ = some (j32 (bi (sRow0 A m1 m2 p))) := by
  have hb1 := hI.dayOf m1 hm.1 hm.2
  have hb2 := hI.dayOf m2 hm2.1 hm2.2
  have hb3 := hI.minuteOf m1 hm.1 hm.2
  have hb4 := hI.minuteOf m2 hm2.1 hm2.2
  have e1 := hC.day m1 hm.1 hm.2
  have e2 := hC.day m2 hm2.1 hm2.2
  have e3 := hC.minute m1 hm.1 hm.2
  have e4 := hC.minute m2 hm2.1 hm2.2
  unfold fX11_inRow
  rw [eC_includes hC hI hm hp, eC_includes hC hI hm2 hp]
  by_cases c1 : inc (A iM_peopleOf m1) p
  · by_cases c2 : inc (A iM_peopleOf m2) p
    · by_cases c3 : A iM_dayOf m1 = A iM_dayOf m2
      · by_cases c4 : A iM_minuteOf m2 ≤ A iM_minuteOf m1
        · simp (disch := omega) only [Bool.false_eq_true, lits, jj, jc, jm, Int.cast_ofNat_Int, j_bi0, j_bi1, not_true, not_false_eq_true, if_true, if_false, xe, xok_some, Sum.elim_inl, Sum.elim_inr, Int.reduceEq, Int.reduceLT, Int.reduceLE, Int.reduceAdd, Int.reduceSub, Int.reduceMul, eq_true c1, eq_true c2, e1, e2, e3, e4, eq_true c3, eq_true c4]
          rw [bi, if_neg (fun h => by have := h.2.2.2; omega)]
        · simp (disch := omega) only [Bool.false_eq_true, lits, jj, jc, jm, Int.cast_ofNat_Int, j_bi0, j_bi1, not_true, not_false_eq_true, if_true, if_false, xe, xok_some, Sum.elim_inl, Sum.elim_inr, Int.reduceEq, Int.reduceLT, Int.reduceLE, Int.reduceAdd, Int.reduceSub, Int.reduceMul, eq_true c1, eq_true c2, e1, e2, e3, e4, eq_true c3, eq_false c4]
          rw [bi, if_pos ⟨⟨hm, c1⟩, ⟨hm2, c2⟩, c3, by omega⟩]
      · simp (disch := omega) only [Bool.false_eq_true, lits, jj, jc, jm, Int.cast_ofNat_Int, j_bi0, j_bi1, not_true, not_false_eq_true, if_true, if_false, xe, xok_some, Sum.elim_inl, Sum.elim_inr, Int.reduceEq, Int.reduceLT, Int.reduceLE, Int.reduceAdd, Int.reduceSub, Int.reduceMul, eq_true c1, eq_true c2, e1, e2, e3, e4, eq_false c3]
        rw [bi, if_neg (fun h => c3 h.2.2.1)]
    · simp (disch := omega) only [Bool.false_eq_true, lits, jj, jc, jm, Int.cast_ofNat_Int, j_bi0, j_bi1, not_true, not_false_eq_true, if_true, if_false, xe, xok_some, Sum.elim_inl, Sum.elim_inr, Int.reduceEq, Int.reduceLT, Int.reduceLE, Int.reduceAdd, Int.reduceSub, Int.reduceMul, eq_true c1, eq_false c2]
      rw [bi, if_neg (fun h => c2 h.2.1.2)]
  · simp (disch := omega) only [Bool.false_eq_true, lits, jj, jc, jm, Int.cast_ofNat_Int, j_bi0, j_bi1, not_true, not_false_eq_true, if_true, if_false, xe, xok_some, Sum.elim_inl, Sum.elim_inr, Int.reduceEq, Int.reduceLT, Int.reduceLE, Int.reduceAdd, Int.reduceSub, Int.reduceMul, eq_false c1]
    rw [bi, if_neg (fun h => c1 h.1.2)]
theorem s_two {A : xAs} {μ : xm} {R : xr} {n : Nat} (hA : RH A μ) (hC : CH A μ R n) (hI : Inv A) (a1 a2 a3 a4 a5 a6 : Int32) : ∃ q, fX11_two a1 a2 a3 a4 a5 a6 μ R = some q ∧ fX12_two a1 a2 a3 a4 a5 a6 μ = some q := by
  obtain ⟨m1, rfl, hm1⟩ := j32_ex a1
  obtain ⟨m2, rfl, hm2⟩ := j32_ex a2
  obtain ⟨p, rfl, hp⟩ := j32_ex a3
  obtain ⟨s, rfl, hs⟩ := j32_ex a4
  obtain ⟨g, rfl, hg⟩ := j32_ex a5
  obtain ⟨t, rfl, ht⟩ := j32_ex a6
  have hf1 := eX3_find hC hI hm1
  have hf2 := eX3_find hC hI hm2
  unfold fX11_two fX12_two
  simp only [lits, jj]
  rw [eX12_areInRow hA hI hm1 hm2 hp hs ht, eX11_within hs (by omega) (by omega), eX11_within ht (by omega) (by omega), eX11_within hg (by omega) (by omega), eX12_in hg (by omega) (by omega), hf1, hf2]
  by_cases c1 : 0 ≤ m1 ∧ m1 < A iM 1
  · by_cases c2 : 0 ≤ m2 ∧ m2 < A iM 1
    · have ei := eX11_inRow hC hI c1 c2 hp
      by_cases c3 : sRow0 A m1 m2 p
      · by_cases c4 : 0 ≤ s ∧ s ≤ 600
        · by_cases c5 : 0 ≤ t ∧ t ≤ 99
          · by_cases c6 : -60 ≤ g ∧ g ≤ 600
            · have hp8 : 0 ≤ p ∧ p < 8 := ⟨c3.1.2.1, c3.1.2.2.1⟩
              refine ⟨l64 (cRow A m1 m2 p s g t), ?_, ?_⟩
              · simp (disch := omega) only [Bool.false_eq_true, lits, jj, jc, jm, Int.cast_ofNat_Int, j_bi0, j_bi1, not_true, not_false_eq_true, if_true, if_false, xe, xok_some, Sum.elim_inl, Sum.elim_inr, Int.reduceEq, Int.reduceLT, Int.reduceLE, Int.reduceAdd, Int.reduceSub, Int.reduceMul, eq_true c1, eq_true c2, ei, eq_true c3, eq_true c4, eq_true c5, eq_true c6, eX10_costOfRow hC hI c1 c2 hp8 c4 c6 c5]
              · simp (disch := omega) only [Bool.false_eq_true, lits, jj, jc, jm, Int.cast_ofNat_Int, j_bi0, j_bi1, not_true, not_false_eq_true, if_true, if_false, xe, xok_some, Sum.elim_inl, Sum.elim_inr, Int.reduceEq, Int.reduceLT, Int.reduceLE, Int.reduceAdd, Int.reduceSub, Int.reduceMul, eq_true (show sRow A m1 m2 p s t from ⟨c3, c4, c5⟩), eq_true c6, eX12_twoOf hA hI c1 c2 hp8 c4 c6 c5]
            · refine ⟨-1, ?_, ?_⟩
              · simp (disch := omega) only [Bool.false_eq_true, lits, jj, jc, jm, Int.cast_ofNat_Int, j_bi0, j_bi1, not_true, not_false_eq_true, if_true, if_false, xe, xok_some, Sum.elim_inl, Sum.elim_inr, Int.reduceEq, Int.reduceLT, Int.reduceLE, Int.reduceAdd, Int.reduceSub, Int.reduceMul, eq_true c1, eq_true c2, ei, eq_true c3, eq_true c4, eq_true c5, eq_false c6]
              · simp (disch := omega) only [Bool.false_eq_true, lits, jj, jc, jm, Int.cast_ofNat_Int, j_bi0, j_bi1, not_true, not_false_eq_true, if_true, if_false, xe, xok_some, Sum.elim_inl, Sum.elim_inr, Int.reduceEq, Int.reduceLT, Int.reduceLE, Int.reduceAdd, Int.reduceSub, Int.reduceMul, eq_true (show sRow A m1 m2 p s t from ⟨c3, c4, c5⟩), eq_false c6]
          · refine ⟨-1, ?_, ?_⟩
            · simp (disch := omega) only [Bool.false_eq_true, lits, jj, jc, jm, Int.cast_ofNat_Int, j_bi0, j_bi1, not_true, not_false_eq_true, if_true, if_false, xe, xok_some, Sum.elim_inl, Sum.elim_inr, Int.reduceEq, Int.reduceLT, Int.reduceLE, Int.reduceAdd, Int.reduceSub, Int.reduceMul, eq_true c1, eq_true c2, ei, eq_true c3, eq_true c4, eq_false c5]
            · simp (disch := omega) only [Bool.false_eq_true, lits, jj, jc, jm, Int.cast_ofNat_Int, j_bi0, j_bi1, not_true, not_false_eq_true, if_true, if_false, xe, xok_some, Sum.elim_inl, Sum.elim_inr, Int.reduceEq, Int.reduceLT, Int.reduceLE, Int.reduceAdd, Int.reduceSub, Int.reduceMul, eq_false (show ¬ sRow A m1 m2 p s t from fun h => c5 h.2.2)]
        · refine ⟨-1, ?_, ?_⟩
          · simp (disch := omega) only [Bool.false_eq_true, lits, jj, jc, jm, Int.cast_ofNat_Int, j_bi0, j_bi1, not_true, not_false_eq_true, if_true, if_false, xe, xok_some, Sum.elim_inl, Sum.elim_inr, Int.reduceEq, Int.reduceLT, Int.reduceLE, Int.reduceAdd, Int.reduceSub, Int.reduceMul, eq_true c1, eq_true c2, ei, eq_true c3, eq_false c4]
          · simp (disch := omega) only [Bool.false_eq_true, lits, jj, jc, jm, Int.cast_ofNat_Int, j_bi0, j_bi1, not_true, not_false_eq_true, if_true, if_false, xe, xok_some, Sum.elim_inl, Sum.elim_inr, Int.reduceEq, Int.reduceLT, Int.reduceLE, Int.reduceAdd, Int.reduceSub, Int.reduceMul, eq_false (show ¬ sRow A m1 m2 p s t from fun h => c4 h.2.1)]
      · refine ⟨-1, ?_, ?_⟩
        · simp (disch := omega) only [Bool.false_eq_true, lits, jj, jc, jm, Int.cast_ofNat_Int, j_bi0, j_bi1, not_true, not_false_eq_true, if_true, if_false, xe, xok_some, Sum.elim_inl, Sum.elim_inr, Int.reduceEq, Int.reduceLT, Int.reduceLE, Int.reduceAdd, Int.reduceSub, Int.reduceMul, eq_true c1, eq_true c2, ei, eq_false c3]
        · simp (disch := omega) only [Bool.false_eq_true, lits, jj, jc, jm, Int.cast_ofNat_Int, j_bi0, j_bi1, not_true, not_false_eq_true, if_true, if_false, xe, xok_some, Sum.elim_inl, Sum.elim_inr, Int.reduceEq, Int.reduceLT, Int.reduceLE, Int.reduceAdd, Int.reduceSub, Int.reduceMul, eq_false (show ¬ sRow A m1 m2 p s t from fun h => c3 h.1)]
    · refine ⟨-1, ?_, ?_⟩
      · simp (disch := omega) only [Bool.false_eq_true, lits, jj, jc, jm, Int.cast_ofNat_Int, j_bi0, j_bi1, not_true, not_false_eq_true, if_true, if_false, xe, xok_some, Sum.elim_inl, Sum.elim_inr, Int.reduceEq, Int.reduceLT, Int.reduceLE, Int.reduceAdd, Int.reduceSub, Int.reduceMul, eq_true c1, eq_false c2]
      · simp (disch := omega) only [Bool.false_eq_true, lits, jj, jc, jm, Int.cast_ofNat_Int, j_bi0, j_bi1, not_true, not_false_eq_true, if_true, if_false, xe, xok_some, Sum.elim_inl, Sum.elim_inr, Int.reduceEq, Int.reduceLT, Int.reduceLE, Int.reduceAdd, Int.reduceSub, Int.reduceMul, eq_false (show ¬ sRow A m1 m2 p s t from fun h => c2 h.1.2.1.1)]
  · refine ⟨-1, ?_, ?_⟩
    · simp (disch := omega) only [Bool.false_eq_true, lits, jj, jc, jm, Int.cast_ofNat_Int, j_bi0, j_bi1, not_true, not_false_eq_true, if_true, if_false, xe, xok_some, Sum.elim_inl, Sum.elim_inr, Int.reduceEq, Int.reduceLT, Int.reduceLE, Int.reduceAdd, Int.reduceSub, Int.reduceMul, eq_false c1]
    · simp (disch := omega) only [Bool.false_eq_true, lits, jj, jc, jm, Int.cast_ofNat_Int, j_bi0, j_bi1, not_true, not_false_eq_true, if_true, if_false, xe, xok_some, Sum.elim_inl, Sum.elim_inr, Int.reduceEq, Int.reduceLT, Int.reduceLE, Int.reduceAdd, Int.reduceSub, Int.reduceMul, eq_false (show ¬ sRow A m1 m2 p s t from fun h => c1 h.1.1.1)]
theorem s_outTwo {A : xAs} {μ : xm} {R : xr} {n : Nat} (hA : RH A μ) (hC : CH A μ R n) (hI : Inv A) (a1 a2 a3 a4 a5 : Int32) : ∃ q, fX11_outTwo a1 a2 a3 a4 a5 μ R = some q ∧ fX12_outTwo a1 a2 a3 a4 a5 μ = some q := by
  obtain ⟨m1, rfl, hm1⟩ := j32_ex a1
  obtain ⟨m2, rfl, hm2⟩ := j32_ex a2
  obtain ⟨p, rfl, hp⟩ := j32_ex a3
  obtain ⟨s, rfl, hs⟩ := j32_ex a4
  obtain ⟨t, rfl, ht⟩ := j32_ex a5
  have hf1 := eX3_find hC hI hm1
  have hf2 := eX3_find hC hI hm2
  unfold fX11_outTwo fX12_outTwo
  simp only [lits, jj]
  rw [eX12_areInRow hA hI hm1 hm2 hp hs ht, eX11_within hs (by omega) (by omega), eX11_within ht (by omega) (by omega), hf1, hf2]
  by_cases c1 : 0 ≤ m1 ∧ m1 < A iM 1
  · by_cases c2 : 0 ≤ m2 ∧ m2 < A iM 1
    · have ei := eX11_inRow hC hI c1 c2 hp
      by_cases c3 : sRow0 A m1 m2 p
      · by_cases c4 : 0 ≤ s ∧ s ≤ 600
        · by_cases c5 : 0 ≤ t ∧ t ≤ 99
          · have hp8 : 0 ≤ p ∧ p < 8 := ⟨c3.1.2.1, c3.1.2.2.1⟩
            have f1 := fun (g : Int) (hg : -60 ≤ g ∧ g ≤ 600) => eX10_costOfRow hC hI c1 c2 hp8 c4 hg c5
            have f2 := fun (g : Int) (hg : -60 ≤ g ∧ g ≤ 600) => eX12_twoOf hA hI c1 c2 hp8 c4 hg c5
            have key := xsim_for (b := fun v => fX11_outTwo_b93 v.1 v.2.1 v.2.2 (j32 p) (j32 s) (j32 t) μ (oM m1) (oM m2)) (c := fun v => fX12_outTwo_b36 v.1 v.2.1 v.2.2 (j32 m1) (j32 m2) (j32 p) (j32 s) (j32 t) μ) (a := (j32 0, l64 (cRow A m1 m2 p s 0 t), j32 1)) (a' := (j32 0, l64 (cRow A m1 m2 p s 0 t), j32 1)) (P := fun r s => r = s)
              (fun k x y => x = y ∧ x.2.2 = j32 (k + 1)) 600 (by omega) ⟨rfl, rfl⟩ ?_ ?_
            · obtain ⟨r, s', k1, k2, rfl⟩ := key
              refine ⟨r, ?_, ?_⟩
              · simp (disch := omega) only [Bool.false_eq_true, lits, jj, jc, jm, Int.cast_ofNat_Int, j_bi0, j_bi1, not_true, not_false_eq_true, if_true, if_false, xe, xok_some, Sum.elim_inl, Sum.elim_inr, Int.reduceEq, Int.reduceLT, Int.reduceLE, Int.reduceAdd, Int.reduceSub, Int.reduceMul, eq_true c1, eq_true c2, ei, eq_true c3, eq_true c4, eq_true c5, f1, k1]
              · simp (disch := omega) only [Bool.false_eq_true, lits, jj, jc, jm, Int.cast_ofNat_Int, j_bi0, j_bi1, not_true, not_false_eq_true, if_true, if_false, xe, xok_some, Sum.elim_inl, Sum.elim_inr, Int.reduceEq, Int.reduceLT, Int.reduceLE, Int.reduceAdd, Int.reduceSub, Int.reduceMul, eq_true (show sRow A m1 m2 p s t from ⟨c3, c4, c5⟩), f2, k2]
            · intro k x y hk hh
              obtain ⟨rfl, h2⟩ := hh
              obtain ⟨b, v, g⟩ := x
              simp only at h2
              subst h2
              refine Or.inl ?_
              show ∃ x' y', fX11_outTwo_b93 b v (j32 (k + 1)) (j32 p) (j32 s) (j32 t) μ (oM m1) (oM m2) = _ ∧ fX12_outTwo_b36 b v (j32 (k + 1)) (j32 m1) (j32 m2) (j32 p) (j32 s) (j32 t) μ = _ ∧ _
              have e1 := f1 (k + 1) (by omega)
              have e2 := f2 (k + 1) (by omega)
              unfold fX11_outTwo_b93 fX12_outTwo_b36
              simp (disch := omega) only [Bool.false_eq_true, lits, jj, jc, jm, Int.cast_ofNat_Int, j_bi0, j_bi1, not_true, not_false_eq_true, if_true, if_false, xe, xok_some, Sum.elim_inl, Sum.elim_inr, Int.reduceEq, Int.reduceLT, Int.reduceLE, Int.reduceAdd, Int.reduceSub, Int.reduceMul, show ¬ (600 : Int) < k + 1 by omega, e1, e2]
              rw [show j32 0 = (0 : Int32) from rfl]
              by_cases c : lg_cmp (l64 (cRow A m1 m2 p s (k + 1) t)) v < 0
              · rw [if_neg (by rw [out_step]; exact fun h => h c), if_pos c]
                exact ⟨_, _, rfl, rfl, rfl, rfl⟩
              · rw [if_pos (by rw [out_step]; exact c), if_neg c]
                exact ⟨_, _, rfl, rfl, rfl, rfl⟩
            · intro x y hh
              obtain ⟨rfl, h2⟩ := hh
              obtain ⟨b, v, g⟩ := x
              simp only at h2
              subst h2
              show ∃ x' y', fX11_outTwo_b93 b v (j32 (600 + 1)) (j32 p) (j32 s) (j32 t) μ (oM m1) (oM m2) = _ ∧ fX12_outTwo_b36 b v (j32 (600 + 1)) (j32 m1) (j32 m2) (j32 p) (j32 s) (j32 t) μ = _ ∧ _
              unfold fX11_outTwo_b93 fX12_outTwo_b36
              simp (disch := omega) only [Bool.false_eq_true, lits, jj, jc, jm, Int.cast_ofNat_Int, j_bi0, j_bi1, not_true, not_false_eq_true, if_true, if_false, xe, xok_some, Sum.elim_inl, Sum.elim_inr, Int.reduceEq, Int.reduceLT, Int.reduceLE, Int.reduceAdd, Int.reduceSub, Int.reduceMul, show (600 : Int) < 600 + 1 by omega]
              exact ⟨_, _, rfl, rfl, rfl⟩
          · refine ⟨j32 (-1), ?_, ?_⟩
            · simp (disch := omega) only [Bool.false_eq_true, lits, jj, jc, jm, Int.cast_ofNat_Int, j_bi0, j_bi1, not_true, not_false_eq_true, if_true, if_false, xe, xok_some, Sum.elim_inl, Sum.elim_inr, Int.reduceEq, Int.reduceLT, Int.reduceLE, Int.reduceAdd, Int.reduceSub, Int.reduceMul, eq_true c1, eq_true c2, ei, eq_true c3, eq_true c4, eq_false c5]
            · simp (disch := omega) only [Bool.false_eq_true, lits, jj, jc, jm, Int.cast_ofNat_Int, j_bi0, j_bi1, not_true, not_false_eq_true, if_true, if_false, xe, xok_some, Sum.elim_inl, Sum.elim_inr, Int.reduceEq, Int.reduceLT, Int.reduceLE, Int.reduceAdd, Int.reduceSub, Int.reduceMul, eq_false (show ¬ sRow A m1 m2 p s t from fun h => c5 h.2.2)]
        · refine ⟨j32 (-1), ?_, ?_⟩
          · simp (disch := omega) only [Bool.false_eq_true, lits, jj, jc, jm, Int.cast_ofNat_Int, j_bi0, j_bi1, not_true, not_false_eq_true, if_true, if_false, xe, xok_some, Sum.elim_inl, Sum.elim_inr, Int.reduceEq, Int.reduceLT, Int.reduceLE, Int.reduceAdd, Int.reduceSub, Int.reduceMul, eq_true c1, eq_true c2, ei, eq_true c3, eq_false c4]
          · simp (disch := omega) only [Bool.false_eq_true, lits, jj, jc, jm, Int.cast_ofNat_Int, j_bi0, j_bi1, not_true, not_false_eq_true, if_true, if_false, xe, xok_some, Sum.elim_inl, Sum.elim_inr, Int.reduceEq, Int.reduceLT, Int.reduceLE, Int.reduceAdd, Int.reduceSub, Int.reduceMul, eq_false (show ¬ sRow A m1 m2 p s t from fun h => c4 h.2.1)]
      · refine ⟨j32 (-1), ?_, ?_⟩
        · simp (disch := omega) only [Bool.false_eq_true, lits, jj, jc, jm, Int.cast_ofNat_Int, j_bi0, j_bi1, not_true, not_false_eq_true, if_true, if_false, xe, xok_some, Sum.elim_inl, Sum.elim_inr, Int.reduceEq, Int.reduceLT, Int.reduceLE, Int.reduceAdd, Int.reduceSub, Int.reduceMul, eq_true c1, eq_true c2, ei, eq_false c3]
        · simp (disch := omega) only [Bool.false_eq_true, lits, jj, jc, jm, Int.cast_ofNat_Int, j_bi0, j_bi1, not_true, not_false_eq_true, if_true, if_false, xe, xok_some, Sum.elim_inl, Sum.elim_inr, Int.reduceEq, Int.reduceLT, Int.reduceLE, Int.reduceAdd, Int.reduceSub, Int.reduceMul, eq_false (show ¬ sRow A m1 m2 p s t from fun h => c3 h.1)]
    · refine ⟨j32 (-1), ?_, ?_⟩
      · simp (disch := omega) only [Bool.false_eq_true, lits, jj, jc, jm, Int.cast_ofNat_Int, j_bi0, j_bi1, not_true, not_false_eq_true, if_true, if_false, xe, xok_some, Sum.elim_inl, Sum.elim_inr, Int.reduceEq, Int.reduceLT, Int.reduceLE, Int.reduceAdd, Int.reduceSub, Int.reduceMul, eq_true c1, eq_false c2]
      · simp (disch := omega) only [Bool.false_eq_true, lits, jj, jc, jm, Int.cast_ofNat_Int, j_bi0, j_bi1, not_true, not_false_eq_true, if_true, if_false, xe, xok_some, Sum.elim_inl, Sum.elim_inr, Int.reduceEq, Int.reduceLT, Int.reduceLE, Int.reduceAdd, Int.reduceSub, Int.reduceMul, eq_false (show ¬ sRow A m1 m2 p s t from fun h => c2 h.1.2.1.1)]
  · refine ⟨j32 (-1), ?_, ?_⟩
    · simp (disch := omega) only [Bool.false_eq_true, lits, jj, jc, jm, Int.cast_ofNat_Int, j_bi0, j_bi1, not_true, not_false_eq_true, if_true, if_false, xe, xok_some, Sum.elim_inl, Sum.elim_inr, Int.reduceEq, Int.reduceLT, Int.reduceLE, Int.reduceAdd, Int.reduceSub, Int.reduceMul, eq_false c1]
    · simp (disch := omega) only [Bool.false_eq_true, lits, jj, jc, jm, Int.cast_ofNat_Int, j_bi0, j_bi1, not_true, not_false_eq_true, if_true, if_false, xe, xok_some, Sum.elim_inl, Sum.elim_inr, Int.reduceEq, Int.reduceLT, Int.reduceLE, Int.reduceAdd, Int.reduceSub, Int.reduceMul, eq_false (show ¬ sRow A m1 m2 p s t from fun h => c1 h.1.1.1)]
