/-! hang -/
theorem l_sub (a b : Int) : l64 a - l64 b = l64 (a - b) := (Int64.ofInt_sub a b).symm
def dpF (w l : Int64) (f : Int → Int64) : Int → Int64 := fun z => if z = 0 then f 0 * w else f z * w + f (z - 1) * l
def dpN (A : xAs) (P a b : Int) : Nat → Int → Int64
  | 0 => fun z => if z = 0 then 1 else 0
  | k + 1 => if bitI P k = 1 then dpF (l64 (wAll A k - sLW A k a b)) (l64 (sLW A k a b)) (dpN A P a b k) else dpN A P a b k
def dpG (o : Nat) (w l : Int64) (x : Int32) (ν : xm) : Option ((Int32 × xm) ⊕ xm) := if x ≤ 0 then some (.inr ν) else xbd (xgJ ν o 9 x) fun a => xbd (xgJ ν o 9 (x - 1)) fun b => xbd (xsJ ν o 9 x (a * w + b * l)) fun ν' => some (.inl (x + (-1), ν'))
theorem dpG_ok {o : Nat} {w l : Int64} {μ : xm} {f : Int → Int64} (h : ∀ z, 0 ≤ z → z < 9 → gl μ o z = f z) : xok (xloop xfu (fun v => dpG o w l v.1 v.2) (j32 8, μ)) (fun ν => gi ν = gi μ ∧ ∀ z, 0 ≤ z → z < 9 → gl ν o z = if z = 0 then f 0 else dpF w l f z) := by
  refine xok_for (fun k v => v.1 = j32 (8 - k) ∧ gi v.2 = gi μ ∧ ∀ z, 0 ≤ z → z < 9 → gl v.2 o z = if 8 - (k : Int) < z then dpF w l f z else f z) 8 (by omega) ⟨rfl, rfl, fun z h1 h2 => ?_⟩ ?_ ?_
  · rw [if_neg (by omega)]; exact h z h1 h2
  · intro k v hk hv
    obtain ⟨v1, ν⟩ := v
    obtain ⟨h1, h2, h3⟩ := hv
    simp only at h1 h2 h3
    subst h1
    show xok (dpG o w l (j32 (8 - k)) ν) _
    have g1 := h3 (8 - k) (by omega) (by omega)
    have g2 := h3 (8 - k - 1) (by omega) (by omega)
    rw [if_neg (by omega)] at g1 g2
    unfold dpG
    simp (disch := omega) only [Bool.false_eq_true, lits, jj, jc, jm, Int.cast_ofNat_Int, j_bi0, j_bi1, not_true, not_false_eq_true, if_true, if_false, xe, xok_some, Sum.elim_inl, Sum.elim_inr, Int.reduceEq, Int.reduceLT, Int.reduceLE, Int.reduceAdd, Int.reduceSub, Int.reduceMul, show ¬ ((8 : Int) - k ≤ 0) by omega, g1, g2]
    refine ⟨by rw [show (8 : Int) - k + -1 = 8 - ((k + 1 : Nat) : Int) by omega], h2, fun z hz1 hz2 => ?_⟩
    by_cases c : z = 8 - (k : Int)
    · rw [c, gl_wl, if_pos (by omega)]
      unfold dpF
      rw [if_neg (by omega)]
    · rw [gl_wl_z (by omega), h3 z hz1 hz2]
      by_cases d : 8 - (k : Int) < z
      · rw [if_pos d, if_pos (by omega)]
      · rw [if_neg d, if_neg (by omega)]
  · intro v hv
    obtain ⟨v1, ν⟩ := v
    obtain ⟨h1, h2, h3⟩ := hv
    simp only at h1 h2 h3
    subst h1
    show xok (dpG o w l (j32 (8 - ((8 : Nat) : Int))) ν) _
    unfold dpG
    simp (disch := omega) only [Bool.false_eq_true, lits, jj, jc, jm, Int.cast_ofNat_Int, j_bi0, j_bi1, not_true, not_false_eq_true, if_true, if_false, xe, xok_some, Sum.elim_inl, Sum.elim_inr, Int.reduceEq, Int.reduceLT, Int.reduceLE, Int.reduceAdd, Int.reduceSub, Int.reduceMul, Int.le_refl]
    refine ⟨h2, fun z hz1 hz2 => ?_⟩
    rw [h3 z hz1 hz2]
    by_cases d : z = 0
    · rw [if_neg (by omega), if_pos d, d]
    · rw [if_pos (by omega), if_neg d]
theorem eX10_late69 (x : Int32) (ν : xm) (l w : Int64) : fX10_countLate_b69 x ν l w = dpG iC_ways_late w l x ν := rfl
theorem eX12_late81 (x : Int32) (ν : xm) {l w : Int} (hl : 0 ≤ l ∧ l ≤ 100) (hw : 0 ≤ w ∧ w ≤ 100) : fX12_hangs_b81 x ν (j32 l) (j32 w) = dpG iM_lateBy (l64 w) (l64 l) x ν := by
  unfold fX12_hangs_b81 dpG
  rw [l_of (by omega), l_of (by omega)]
  rfl
theorem dp_end {o : Nat} {w l : Int64} {ν : xm} {f : Int → Int64} (h : ∀ z, 0 ≤ z → z < 9 → gl ν o z = if z = 0 then f 0 else dpF w l f z) : ∀ z, 0 ≤ z → z < 9 → gl (wl ν o 0 (gl ν o 0 * w)) o z = dpF w l f z := by
  intro z h1 h2
  by_cases c : z = 0
  · rw [c, gl_wl, h 0 (by omega) (by omega), if_pos rfl]
    unfold dpF
    rw [if_pos rfl]
  · rw [gl_wl_z (by omega), h z h1 h2, if_neg c]
/-- a row of longs written from 0 on -/
def fl (μ : xm) (o : Nat) (v : Int64) : Nat → xm
  | 0 => μ
  | k + 1 => wl (fl μ o v k) o k v
theorem fl_gi {μ : xm} {o : Nat} {v : Int64} : ∀ k, gi (fl μ o v k) = gi μ
  | 0 => rfl
  | k + 1 => (show gi (wl (fl μ o v k) o k v) = gi (fl μ o v k) from rfl).trans (fl_gi k)
theorem fl_in {μ : xm} {o : Nat} {v : Int64} : ∀ (k : Nat) (z : Int), 0 ≤ z → z < k → gl (fl μ o v k) o z = v
  | 0, z, h1, h2 => by omega
  | k + 1, z, h1, h2 => by
    show gl (wl (fl μ o v k) o k v) o z = v
    by_cases e : z = k
    · subst e; exact gl_wl
    · rw [gl_wl_z (by omega)]; exact fl_in k z h1 (by omega)
theorem eJ7_fillJ {μ : xm} {o len : Nat} {v : Int64} (h : (xkd o).2 = len) (hl : len ≤ 100000) : fJ7_fill_d0a16 o v μ = some (fl μ o v len) := by
  unfold fJ7_fill_d0a16
  rw [h, show Int32.ofNat len = j32 (len : Int) from (Int32.ofInt_eq_ofNat).symm]
  simp only [xlt_e]
  have key := xloop_for (b := fun w => fJ7_fill_d0a16_b6 w.1 w.2 o v (j32 (len : Int))) (fun k => (j32 k, fl μ o v k)) len (r := fl μ o v len) (a := (0, μ)) (by omega) rfl ?_ ?_
  · rw [key]; rfl
  · intro k hk
    show fJ7_fill_d0a16_b6 _ _ o v _ = _
    unfold fJ7_fill_d0a16_b6
    rw [h]
    simp (disch := omega) only [Bool.false_eq_true, lits, jj, jc, jm, Int.cast_ofNat_Int, j_bi0, j_bi1, not_true, not_false_eq_true, if_true, if_false, xe, xok_some, Sum.elim_inl, Sum.elim_inr, Int.reduceEq, Int.reduceLT, Int.reduceLE, Int.reduceAdd, Int.reduceSub, Int.reduceMul, show ¬ (len : Int) ≤ (k : Int) by omega]
    rfl
  · show fJ7_fill_d0a16_b6 _ _ o v _ = _
    unfold fJ7_fill_d0a16_b6
    simp (disch := omega) only [Bool.false_eq_true, lits, jj, jc, jm, Int.cast_ofNat_Int, j_bi0, j_bi1, not_true, not_false_eq_true, if_true, if_false, xe, xok_some, Sum.elim_inl, Sum.elim_inr, Int.reduceEq, Int.reduceLT, Int.reduceLE, Int.reduceAdd, Int.reduceSub, Int.reduceMul, Int.le_refl]
theorem CH.gi0 {A : xAs} {μ μ' : xm} {R : xr} {n : Nat} (hC : CH A μ R n) (h : gi μ' = gi μ) : CH A μ' R n := hC.ref (fun o _ => congrFun h o)
theorem RH_gi {A : xAs} {μ μ' : xm} (hA : RH A μ) (h : gi μ' = gi μ) : RH A μ' := RH.keep hA (fun o _ _ => congrFun h o)
theorem eX10_countLate {A : xAs} {μ : xm} {R : xr} {n : Nat} (hC : CH A μ R n) (hI : Inv A) {P a b : Int} (hP : 0 ≤ P ∧ P < 256) (ha : 0 ≤ a ∧ a ≤ 600) (hb : 0 ≤ b ∧ b ≤ 1) : xok (fX10_countLate (j32 P) (j32 a) (j32 b) μ) (fun ν => gi ν = gi μ ∧ ∀ z, 0 ≤ z → z < 9 → gl ν iC_ways_late z = dpN A P a b 8 z) := by
  unfold fX10_countLate
  rw [eJ7_fillJ (len := 9) rfl (by omega)]
  have q1 : gi (fl μ iC_ways_late 0 9) = gi μ := fl_gi 9
  have q2 : ∀ z : Int, 0 ≤ z → z < 9 → gl (fl μ iC_ways_late 0 9) iC_ways_late z = 0 := fun z h1 h2 => fl_in 9 z h1 (by omega)
  generalize fl μ iC_ways_late 0 9 = ν0 at q1 q2
  simp (disch := omega) only [Bool.false_eq_true, lits, jj, jc, jm, Int.cast_ofNat_Int, j_bi0, j_bi1, not_true, not_false_eq_true, if_true, if_false, xe, xok_some, Sum.elim_inl, Sum.elim_inr, Int.reduceEq, Int.reduceLT, Int.reduceLE, Int.reduceAdd, Int.reduceSub, Int.reduceMul]
  have q3 : gi (wl ν0 iC_ways_late 0 1) = gi μ := q1
  have q4 : ∀ z : Int, 0 ≤ z → z < 9 → gl (wl ν0 iC_ways_late 0 1) iC_ways_late z = dpN A P a b 0 z := by
    intro z h1 h2
    unfold dpN
    by_cases c : z = 0
    · rw [c, gl_wl, if_pos rfl]
    · rw [gl_wl_z (by omega), q2 z h1 h2, if_neg c]
  generalize wl ν0 iC_ways_late 0 1 = ν1 at q3 q4
  rw [xok_bd]
  refine xok_mono (P := fun ν => gi ν = gi μ ∧ ∀ z, 0 ≤ z → z < 9 → gl ν iC_ways_late z = dpN A P a b 8 z) ?_ (fun ν hν => (xok_some (P := fun ν => gi ν = gi μ ∧ ∀ z, 0 ≤ z → z < 9 → gl ν iC_ways_late z = dpN A P a b 8 z)).mpr hν)
  refine xok_for (fun k v => v.1 = j32 k ∧ gi v.2 = gi μ ∧ ∀ z, 0 ≤ z → z < 9 → gl v.2 iC_ways_late z = dpN A P a b k z) 8 (by omega) ⟨rfl, q3, q4⟩ ?_ ?_
  · intro k v hk hv
    obtain ⟨v1, ν⟩ := v
    obtain ⟨h1, h2, h3⟩ := hv
    simp only at h1 h2 h3
    subst h1
    have hC2 := hC.gi0 h2
    have hk8 : (0 : Int) ≤ k ∧ (k : Int) < 8 := by omega
    have e1 := eX10_lateEnds hC2 hI hk8 ha hb
    have e2 := eX10_weightsOf hC2 hk8
    have b1 := bitI_01 P k
    have b2 := sLW_b hI (a := a) (b := b) hk8
    have b3 := wAll_b hI hk8
    show xok (fX10_countLate_b18 (j32 k) ν (j32 P) (j32 a) (j32 b)) _
    unfold fX10_countLate_b18
    by_cases c : bitI P k = 1
    · simp (disch := omega) only [Bool.false_eq_true, lits, jj, jc, jm, Int.cast_ofNat_Int, j_bi0, j_bi1, not_true, not_false_eq_true, if_true, if_false, xe, xok_some, Sum.elim_inl, Sum.elim_inr, Int.reduceEq, Int.reduceLT, Int.reduceLE, Int.reduceAdd, Int.reduceSub, Int.reduceMul, show ¬ (8 : Int) ≤ k by omega, j_bit, c, e1, e2, l_of, l_sub]
      rw [xok_bd]
      refine xok_mono (dpG_ok h3) (fun ν1 hν => ?_)
      have g0 := hν.2
      simp (disch := omega) only [Bool.false_eq_true, lits, jj, jc, jm, Int.cast_ofNat_Int, j_bi0, j_bi1, not_true, not_false_eq_true, if_true, if_false, xe, xok_some, Sum.elim_inl, Sum.elim_inr, Int.reduceEq, Int.reduceLT, Int.reduceLE, Int.reduceAdd, Int.reduceSub, Int.reduceMul]
      refine ⟨rfl, hν.1.trans h2, ?_⟩
      have := dp_end g0
      unfold dpN
      rw [if_pos c]
      exact this
    · simp (disch := omega) only [Bool.false_eq_true, lits, jj, jc, jm, Int.cast_ofNat_Int, j_bi0, j_bi1, not_true, not_false_eq_true, if_true, if_false, xe, xok_some, Sum.elim_inl, Sum.elim_inr, Int.reduceEq, Int.reduceLT, Int.reduceLE, Int.reduceAdd, Int.reduceSub, Int.reduceMul, show ¬ (8 : Int) ≤ k by omega, j_bit, show bitI P k = 0 by omega]
      refine ⟨rfl, h2, ?_⟩
      unfold dpN
      rw [if_neg c]
      exact h3
  · intro v hv
    obtain ⟨v1, ν⟩ := v
    obtain ⟨h1, h2, h3⟩ := hv
    simp only at h1 h2 h3
    subst h1
    show xok (fX10_countLate_b18 (j32 ((8 : Nat) : Int)) ν (j32 P) (j32 a) (j32 b)) _
    unfold fX10_countLate_b18
    simp (disch := omega) only [Bool.false_eq_true, lits, jj, jc, jm, Int.cast_ofNat_Int, j_bi0, j_bi1, not_true, not_false_eq_true, if_true, if_false, xe, xok_some, Sum.elim_inl, Sum.elim_inr, Int.reduceEq, Int.reduceLT, Int.reduceLE, Int.reduceAdd, Int.reduceSub, Int.reduceMul, Int.le_refl]
    exact ⟨h2, h3⟩
theorem eX12_hangs {A : xAs} {μ : xm} (hA : RH A μ) (hI : Inv A) {P a b c : Int} (hP : 0 ≤ P ∧ P < 256) (ha : 0 ≤ a ∧ a ≤ 600) (hb : 0 ≤ b ∧ b ≤ 1) (hc : 0 ≤ c ∧ c ≤ 8) : xok (fX12_hangs (j32 P) (j32 a) (j32 c) (j32 b) μ) (fun q => q.1 = l64 (bW A b) * dpN A P a b 8 c ∧ gi q.2 = gi μ) := by
  have h5 := hI.bridge
  unfold fX12_hangs
  rw [xok_bd]
  refine xok_mono (P := fun ν => gi ν = gi μ ∧ ∀ z, 0 ≤ z → z < 9 → gl ν iM_lateBy z = dpN A P a b 0 z) ?_ (fun ν1 hν1 => ?_)
  · refine xok_for (fun k v => v.1 = j32 k ∧ gi v.2 = gi μ ∧ ∀ z : Int, 0 ≤ z → z < k → gl v.2 iM_lateBy z = dpN A P a b 0 z) 9 (by omega) ⟨rfl, rfl, fun z h1 h2 => by omega⟩ ?_ ?_
    · intro k v hk hv
      obtain ⟨v1, ν⟩ := v
      obtain ⟨h1, h2, h3⟩ := hv
      simp only at h1 h2 h3
      subst h1
      show xok (fX12_hangs_b3 (j32 k) ν) _
      unfold fX12_hangs_b3
      by_cases d : (k : Int) = 0
      · simp (disch := omega) only [Bool.false_eq_true, lits, jj, jc, jm, Int.cast_ofNat_Int, j_bi0, j_bi1, not_true, not_false_eq_true, if_true, if_false, xe, xok_some, Sum.elim_inl, Sum.elim_inr, Int.reduceEq, Int.reduceLT, Int.reduceLE, Int.reduceAdd, Int.reduceSub, Int.reduceMul, show ¬ (9 : Int) ≤ k by omega, d]
        refine ⟨?_, h2, fun z hz1 hz2 => ?_⟩
        · have hk0 : k = 0 := by omega
          subst hk0; rfl
        · rw [show z = 0 by omega, gl_wl]; rfl
      · simp (disch := omega) only [Bool.false_eq_true, lits, jj, jc, jm, Int.cast_ofNat_Int, j_bi0, j_bi1, not_true, not_false_eq_true, if_true, if_false, xe, xok_some, Sum.elim_inl, Sum.elim_inr, Int.reduceEq, Int.reduceLT, Int.reduceLE, Int.reduceAdd, Int.reduceSub, Int.reduceMul, show ¬ (9 : Int) ≤ k by omega, d]
        refine ⟨rfl, h2, fun z hz1 hz2 => ?_⟩
        by_cases e : z = k
        · rw [e, gl_wl]; unfold dpN; rw [if_neg d]
        · rw [gl_wl_z (by omega)]; exact h3 z hz1 (by omega)
    · intro v hv
      obtain ⟨v1, ν⟩ := v
      obtain ⟨h1, h2, h3⟩ := hv
      simp only at h1 h2 h3
      subst h1
      show xok (fX12_hangs_b3 (j32 ((9 : Nat) : Int)) ν) _
      unfold fX12_hangs_b3
      simp (disch := omega) only [Bool.false_eq_true, lits, jj, jc, jm, Int.cast_ofNat_Int, j_bi0, j_bi1, not_true, not_false_eq_true, if_true, if_false, xe, xok_some, Sum.elim_inl, Sum.elim_inr, Int.reduceEq, Int.reduceLT, Int.reduceLE, Int.reduceAdd, Int.reduceSub, Int.reduceMul, Int.le_refl]
      exact ⟨h2, fun z hz1 hz2 => h3 z hz1 (by omega)⟩
  · rw [xok_bd]
    refine xok_mono (P := fun ν => gi ν = gi μ ∧ ∀ z, 0 ≤ z → z < 9 → gl ν iM_lateBy z = dpN A P a b 8 z) ?_ (fun ν2 hν2 => ?_)
    · refine xok_for (fun k v => v.1 = j32 k ∧ gi v.2 = gi μ ∧ ∀ z, 0 ≤ z → z < 9 → gl v.2 iM_lateBy z = dpN A P a b k z) 8 (by omega) ⟨rfl, hν1.1, hν1.2⟩ ?_ ?_
      · intro k v hk hv
        obtain ⟨v1, ν⟩ := v
        obtain ⟨h1, h2, h3⟩ := hv
        simp only at h1 h2 h3
        subst h1
        have hA2 := RH_gi hA h2
        have hk8 : (0 : Int) ≤ k ∧ (k : Int) < 8 := by omega
        have e1 := eX12_lateWeight hA2 hI hk8 ha hb
        have e2 := eX12_weightsOf hA2 hI hk8
        have b1 := bitI_01 P k
        have b2 := sLW_b hI (a := a) (b := b) hk8
        have b3 := wAll_b hI hk8
        have b4 := sLW_all hI (a := a) (b := b) hk8
        show xok (fX12_hangs_b36 (j32 k) ν (j32 P) (j32 a) (j32 b)) _
        unfold fX12_hangs_b36
        by_cases c : bitI P k = 1
        · simp (disch := omega) only [Bool.false_eq_true, lits, jj, jc, jm, Int.cast_ofNat_Int, j_bi0, j_bi1, not_true, not_false_eq_true, if_true, if_false, xe, xok_some, Sum.elim_inl, Sum.elim_inr, Int.reduceEq, Int.reduceLT, Int.reduceLE, Int.reduceAdd, Int.reduceSub, Int.reduceMul, show ¬ (8 : Int) ≤ k by omega, j_bit, c, e1, e2, eX12_late81, l_of]
          rw [xok_bd]
          refine xok_mono (dpG_ok h3) (fun ν1 hν => ?_)
          have g0 := hν.2
          simp (disch := omega) only [Bool.false_eq_true, lits, jj, jc, jm, Int.cast_ofNat_Int, j_bi0, j_bi1, not_true, not_false_eq_true, if_true, if_false, xe, xok_some, Sum.elim_inl, Sum.elim_inr, Int.reduceEq, Int.reduceLT, Int.reduceLE, Int.reduceAdd, Int.reduceSub, Int.reduceMul]
          refine ⟨rfl, hν.1.trans h2, ?_⟩
          have := dp_end g0
          unfold dpN
          rw [if_pos c]
          exact this
        · simp (disch := omega) only [Bool.false_eq_true, lits, jj, jc, jm, Int.cast_ofNat_Int, j_bi0, j_bi1, not_true, not_false_eq_true, if_true, if_false, xe, xok_some, Sum.elim_inl, Sum.elim_inr, Int.reduceEq, Int.reduceLT, Int.reduceLE, Int.reduceAdd, Int.reduceSub, Int.reduceMul, show ¬ (8 : Int) ≤ k by omega, j_bit, show bitI P k = 0 by omega]
          refine ⟨rfl, h2, ?_⟩
          unfold dpN
          rw [if_neg c]
          exact h3
      · intro v hv
        obtain ⟨v1, ν⟩ := v
        obtain ⟨h1, h2, h3⟩ := hv
        simp only at h1 h2 h3
        subst h1
        show xok (fX12_hangs_b36 (j32 ((8 : Nat) : Int)) ν (j32 P) (j32 a) (j32 b)) _
        unfold fX12_hangs_b36
        simp (disch := omega) only [Bool.false_eq_true, lits, jj, jc, jm, Int.cast_ofNat_Int, j_bi0, j_bi1, not_true, not_false_eq_true, if_true, if_false, xe, xok_some, Sum.elim_inl, Sum.elim_inr, Int.reduceEq, Int.reduceLT, Int.reduceLE, Int.reduceAdd, Int.reduceSub, Int.reduceMul, Int.le_refl]
        exact ⟨h2, h3⟩
    · have hA2 := RH_gi hA hν2.1
      have e1 := eX12_bridgeWeight hA2 hb
      rw [show (if b = 1 then A iM 53 else A iM 54 - A iM 53) = bW A b from rfl] at e1
      simp (disch := omega) only [Bool.false_eq_true, lits, jj, jc, jm, Int.cast_ofNat_Int, j_bi0, j_bi1, not_true, not_false_eq_true, if_true, if_false, xe, xok_some, Sum.elim_inl, Sum.elim_inr, Int.reduceEq, Int.reduceLT, Int.reduceLE, Int.reduceAdd, Int.reduceSub, Int.reduceMul, e1]
      rw [l_of (by unfold bW; split <;> omega), hν2.2 c hc.1 (by omega)]
      exact ⟨rfl, hν2.1⟩
theorem s_hang {A : xAs} {μ : xm} {R : xr} {n : Nat} (hA : RH A μ) (hC : CH A μ R n) (hI : Inv A) (a1 a2 a3 : Int32) : ∃ q, fX11_hang a1 a2 a3 μ = some q ∧ ∃ q2, fX12_hang a1 a2 a3 q.2 = some q2 ∧ q2.1 = q.1 ∧ xStp μ R n q2.2 := by
  obtain ⟨P, rfl, hP⟩ := j32_ex a1
  obtain ⟨a, rfl, ha⟩ := j32_ex a2
  obtain ⟨c, rfl, hc⟩ := j32_ex a3
  have h5 := hI.bridge
  unfold fX11_hang
  simp only [lits]
  rw [eX11_within hP (by omega) (by omega), eX11_within ha (by omega) (by omega)]
  have f0 : ∀ ν, fX12_hang (j32 P) (j32 a) (j32 c) ν = xbd (some (j32 (bi (1 ≤ P ∧ P ≤ 255)))) fun q1 => if q1 = j32 0 then (some ((-1), ν)) else (xbd (some (j32 (bi (0 ≤ a ∧ a ≤ 600)))) fun q2 => if q2 = j32 0 then (some ((-1), ν)) else (xbd (fX12_bits (j32 P)) fun q3 => xbd (fX12_in (j32 c) (j32 0) q3) fun q4 => if q4 = j32 0 then (some ((-1), ν)) else (xbd (fX12_hangs (j32 P) (j32 a) (j32 c) (j32 0) ν) fun q5 => xbd (fX12_hangs (j32 P) (j32 a) (j32 c) (j32 1) q5.2) fun q6 => some (q5.1 + q6.1, q6.2)))) := by
    intro ν
    unfold fX12_hang
    simp only [lits]
    rw [eX12_in hP (by omega) (by omega), eX12_in ha (by omega) (by omega)]
  by_cases c1 : 1 ≤ P ∧ P ≤ 255
  · by_cases c2 : 0 ≤ a ∧ a ≤ 600
    · have e1 := eJ6_bitCount (P := P) (by omega)
      have e2 := eX12_bits (P := P) (by omega)
      have hpc := pc_b P
      have e3 := eX11_within hc (a := 0) (b := pc P) (by omega) (by omega)
      have e4 := eX12_in hc (a := 0) (b := pc P) (by omega) (by omega)
      by_cases c3 : 0 ≤ c ∧ c ≤ pc P
      · obtain ⟨ν1, k1, g1, t1⟩ := eX10_countLate hC hI (P := P) (a := a) (b := 0) (by omega) c2 (by omega)
        have hC1 := hC.gi0 g1
        obtain ⟨ν2, k2, g2, t2⟩ := eX10_countLate hC1 hI (P := P) (a := a) (b := 1) (by omega) c2 (by omega)
        have hC2 := hC1.gi0 g2
        have hA2 : RH A ν2 := RH_gi hA (g2.trans g1)
        obtain ⟨q1, k3, t3, g3⟩ := eX12_hangs hA2 hI (P := P) (a := a) (b := 0) (c := c) (by omega) c2 (by omega) (by omega)
        have hA3 : RH A q1.2 := RH_gi hA2 g3
        obtain ⟨q2, k4, t4, g4⟩ := eX12_hangs hA3 hI (P := P) (a := a) (b := 1) (c := c) (by omega) c2 (by omega) (by omega)
        have w0 := eX10_bridgeWeight hC1 (b := 0) (by omega)
        have w1 := eX10_bridgeWeight hC2 (b := 1) (by omega)
        rw [show (if (0 : Int) = 1 then A iM 53 else A iM 54 - A iM 53) = bW A 0 from rfl] at w0
        rw [show (if (1 : Int) = 1 then A iM 53 else A iM 54 - A iM 53) = bW A 1 from rfl] at w1
        have y0 : -2147483648 ≤ bW A 0 ∧ bW A 0 < 2147483648 := by unfold bW; split <;> omega
        have y1 : -2147483648 ≤ bW A 1 ∧ bW A 1 < 2147483648 := by unfold bW; split <;> omega
        have s0 : fX10_lateTogether_b6 (l64 0) (j32 0) μ (j32 P) (j32 a) (j32 c) = some (.inl (l64 0 + l64 (bW A 0) * dpN A P a 0 8 c, j32 1, ν1)) := by
          unfold fX10_lateTogether_b6
          simp (disch := omega) only [Bool.false_eq_true, lits, jj, jc, jm, Int.cast_ofNat_Int, j_bi0, j_bi1, not_true, not_false_eq_true, if_true, if_false, xe, xok_some, Sum.elim_inl, Sum.elim_inr, Int.reduceEq, Int.reduceLT, Int.reduceLE, Int.reduceAdd, Int.reduceSub, Int.reduceMul, k1, show ¬ c < 0 by omega, show ¬ 9 ≤ c by omega, w0, t1, l_of]
        have s1 : fX10_lateTogether_b6 (l64 0 + l64 (bW A 0) * dpN A P a 0 8 c) (j32 1) ν1 (j32 P) (j32 a) (j32 c) = some (.inl (l64 0 + l64 (bW A 0) * dpN A P a 0 8 c + l64 (bW A 1) * dpN A P a 1 8 c, j32 2, ν2)) := by
          unfold fX10_lateTogether_b6
          simp (disch := omega) only [Bool.false_eq_true, lits, jj, jc, jm, Int.cast_ofNat_Int, j_bi0, j_bi1, not_true, not_false_eq_true, if_true, if_false, xe, xok_some, Sum.elim_inl, Sum.elim_inr, Int.reduceEq, Int.reduceLT, Int.reduceLE, Int.reduceAdd, Int.reduceSub, Int.reduceMul, k2, show ¬ c < 0 by omega, show ¬ 9 ≤ c by omega, w1, t2, l_of]
        have s2 : fX10_lateTogether_b6 (l64 0 + l64 (bW A 0) * dpN A P a 0 8 c + l64 (bW A 1) * dpN A P a 1 8 c) (j32 2) ν2 (j32 P) (j32 a) (j32 c) = some (.inr (l64 0 + l64 (bW A 0) * dpN A P a 0 8 c + l64 (bW A 1) * dpN A P a 1 8 c, ν2)) := by
          unfold fX10_lateTogether_b6
          simp (disch := omega) only [Bool.false_eq_true, lits, jj, jc, jm, Int.cast_ofNat_Int, j_bi0, j_bi1, not_true, not_false_eq_true, if_true, if_false, xe, xok_some, Sum.elim_inl, Sum.elim_inr, Int.reduceEq, Int.reduceLT, Int.reduceLE, Int.reduceAdd, Int.reduceSub, Int.reduceMul, Int.le_refl]
        have key : xloop (999997 + 1 + 1 + 1) (fun v => fX10_lateTogether_b6 v.1 v.2.1 v.2.2 (j32 P) (j32 a) (j32 c)) (l64 0, j32 0, μ) = some (l64 0 + l64 (bW A 0) * dpN A P a 0 8 c + l64 (bW A 1) * dpN A P a 1 8 c, ν2) := (xl_l s0).trans ((xl_l s1).trans (xl_r s2))
        have kk : fX10_lateTogether (j32 P) (j32 a) (j32 c) μ = some (l64 0 + l64 (bW A 0) * dpN A P a 0 8 c + l64 (bW A 1) * dpN A P a 1 8 c, ν2) := by
          unfold fX10_lateTogether
          rw [show xloop xfu (fun v => fX10_lateTogether_b6 v.1 v.2.1 v.2.2 (j32 P) (j32 a) (j32 c)) (0, 0, μ) = _ from key]
          rfl
        refine ⟨(l64 0 + l64 (bW A 0) * dpN A P a 0 8 c + l64 (bW A 1) * dpN A P a 1 8 c, ν2), ?_, (q1.1 + q2.1, q2.2), ?_, ?_, ?_⟩
        · simp (disch := omega) only [Bool.false_eq_true, lits, jj, jc, jm, Int.cast_ofNat_Int, j_bi0, j_bi1, not_true, not_false_eq_true, if_true, if_false, xe, xok_some, Sum.elim_inl, Sum.elim_inr, Int.reduceEq, Int.reduceLT, Int.reduceLE, Int.reduceAdd, Int.reduceSub, Int.reduceMul, eq_true c1, eq_true c2, e1, e3, eq_true c3, kk]
        · rw [f0]
          simp (disch := omega) only [Bool.false_eq_true, lits, jj, jc, jm, Int.cast_ofNat_Int, j_bi0, j_bi1, not_true, not_false_eq_true, if_true, if_false, xe, xok_some, Sum.elim_inl, Sum.elim_inr, Int.reduceEq, Int.reduceLT, Int.reduceLE, Int.reduceAdd, Int.reduceSub, Int.reduceMul, eq_true c1, eq_true c2, e2, e4, eq_true c3, k3, k4]
        · rw [t3, t4, show l64 0 = 0 from rfl, Int64.zero_add]
        · have g := g4.trans (g3.trans (g2.trans g1))
          exact ⟨LK.of (fun o _ => congrFun g o), A, RH_gi hA g, hC.gi0 g, hI⟩
      · refine ⟨(-1, μ), ?_, (-1, μ), ?_, rfl, xStp.same hA hC hI⟩
        · simp (disch := omega) only [Bool.false_eq_true, lits, jj, jc, jm, Int.cast_ofNat_Int, j_bi0, j_bi1, not_true, not_false_eq_true, if_true, if_false, xe, xok_some, Sum.elim_inl, Sum.elim_inr, Int.reduceEq, Int.reduceLT, Int.reduceLE, Int.reduceAdd, Int.reduceSub, Int.reduceMul, eq_true c1, eq_true c2, e1, e3, eq_false c3]
        · rw [f0]; simp (disch := omega) only [Bool.false_eq_true, lits, jj, jc, jm, Int.cast_ofNat_Int, j_bi0, j_bi1, not_true, not_false_eq_true, if_true, if_false, xe, xok_some, Sum.elim_inl, Sum.elim_inr, Int.reduceEq, Int.reduceLT, Int.reduceLE, Int.reduceAdd, Int.reduceSub, Int.reduceMul, eq_true c1, eq_true c2, e2, e4, eq_false c3]
    · refine ⟨(-1, μ), ?_, (-1, μ), ?_, rfl, xStp.same hA hC hI⟩
      · simp (disch := omega) only [Bool.false_eq_true, lits, jj, jc, jm, Int.cast_ofNat_Int, j_bi0, j_bi1, not_true, not_false_eq_true, if_true, if_false, xe, xok_some, Sum.elim_inl, Sum.elim_inr, Int.reduceEq, Int.reduceLT, Int.reduceLE, Int.reduceAdd, Int.reduceSub, Int.reduceMul, eq_true c1, eq_false c2]
      · rw [f0]; simp (disch := omega) only [Bool.false_eq_true, lits, jj, jc, jm, Int.cast_ofNat_Int, j_bi0, j_bi1, not_true, not_false_eq_true, if_true, if_false, xe, xok_some, Sum.elim_inl, Sum.elim_inr, Int.reduceEq, Int.reduceLT, Int.reduceLE, Int.reduceAdd, Int.reduceSub, Int.reduceMul, eq_true c1, eq_false c2]
  · refine ⟨(-1, μ), ?_, (-1, μ), ?_, rfl, xStp.same hA hC hI⟩
    · simp (disch := omega) only [Bool.false_eq_true, lits, jj, jc, jm, Int.cast_ofNat_Int, j_bi0, j_bi1, not_true, not_false_eq_true, if_true, if_false, xe, xok_some, Sum.elim_inl, Sum.elim_inr, Int.reduceEq, Int.reduceLT, Int.reduceLE, Int.reduceAdd, Int.reduceSub, Int.reduceMul, eq_false c1]
    · rw [f0]; simp (disch := omega) only [Bool.false_eq_true, lits, jj, jc, jm, Int.cast_ofNat_Int, j_bi0, j_bi1, not_true, not_false_eq_true, if_true, if_false, xe, xok_some, Sum.elim_inl, Sum.elim_inr, Int.reduceEq, Int.reduceLT, Int.reduceLE, Int.reduceAdd, Int.reduceSub, Int.reduceMul, eq_false c1]
