/-! rest: the cheapest for one, the class -/
def abF (c : Int) : Int → Int := fun x => if c < x then x - c else 0
def beF (c : Int) : Int → Int := fun x => if x < c then c - x else 0
def cstE (A : xAs) (m t : Int) (ah : Int → Int) (p b s : Int) : Int := sumTo (fun e => wWt A p e * (A iM_worthOf (24 * p + A iM_minuteOf m / 60) * TLk A (A iM_minuteOf m) ah b (A iM_peopleOf m) p 8 (abF (s + wWay A p e b)) + t * ELk A (A iM_minuteOf m) ah b (A iM_peopleOf m) p 8 (beF (s + wWay A p e b)))) (nE A p)
theorem eX6_costOf {A : xAs} {ν : xm} {R' : xr} {n a : Nat} (hC : CH A ν R' n) (hI : Inv A) {m p b t s : Int} {ah : Int → Int} (hm : 0 ≤ m ∧ m < A iM 1) (hp : P8 p) (hb : 0 ≤ b ∧ b ≤ 1) (ht : 0 ≤ t ∧ t ≤ 99) (hs : -200 ≤ s ∧ s ≤ 1500) (hR : R' iC_rest 4 = some a) (hV : bVl (vAl A (A iM_minuteOf m) ah b (A iM_peopleOf m) p)) (hT : TY (vAl A (A iM_minuteOf m) ah b (A iM_peopleOf m) p) (TLk A (A iM_minuteOf m) ah b (A iM_peopleOf m) p 8) a ν) (hE : TY (vAl A (A iM_minuteOf m) ah b (A iM_peopleOf m) p) (ELk A (A iM_minuteOf m) ah b (A iM_peopleOf m) p 8) iC_rest_each ν) : fX6_costOf (oM m) (j32 p) (j32 s) (j32 b) (j32 t) ν R' = some (l64 (cstE A m t ah p b s)) := by
  have hM := hI.minuteOf m hm.1 hm.2
  have e1 := eC_hour hC hI hm
  have e2 := eX5_worthAt hC hp (h := A iM_minuteOf m / 60) (by omega)
  have wb := hI.worthOf (24 * p + A iM_minuteOf m / 60) (by omega) (by omega)
  have e3 := eX10_endsOf hC hI hp
  have hn := wEnds_b hI hp
  have key : xloop xfu (fun v => fX6_costOf_b20 v.1 v.2 (j32 p) (j32 s) (j32 b) (j32 t) ν R' (j32 (A iM_worthOf (24 * p + A iM_minuteOf m / 60)))) (l64 0, j32 0) = some (l64 (cstE A m t ah p b s)) := by
    unfold cstE
    refine xloop_for (fun k : Nat => (l64 (sumTo (fun e => wWt A p e * (A iM_worthOf (24 * p + A iM_minuteOf m / 60) * TLk A (A iM_minuteOf m) ah b (A iM_peopleOf m) p 8 (abF (s + wWay A p e b)) + t * ELk A (A iM_minuteOf m) ah b (A iM_peopleOf m) p 8 (beF (s + wWay A p e b)))) k), j32 k)) (nE A p) (by unfold nE; omega) rfl ?_ ?_
    · intro k hk
      have hke : 0 ≤ (k : Int) ∧ (k : Int) < wEnds A p := by unfold nE at hk; omega
      have f2 := eX10_takes hC hI hp hke hb
      have f3 := eX10_weightOf hC hI hp hke
      have bW1 := wWay_b hI (b := b) hp hke
      have bw := wWt_b hI hp hke
      have g1 := above_ok hT hV (c := s + wWay A p k b) (by omega)
      have g2 := below_ok hE hV (c := s + wWay A p k b) (by omega)
      rw [sumTo_s]
      generalize sumTo (fun e => wWt A p e * (A iM_worthOf (24 * p + A iM_minuteOf m / 60) * TLk A (A iM_minuteOf m) ah b (A iM_peopleOf m) p 8 (abF (s + wWay A p e b)) + t * ELk A (A iM_minuteOf m) ah b (A iM_peopleOf m) p 8 (beF (s + wWay A p e b)))) k = S
      show fX6_costOf_b20 (l64 S) (j32 k) _ _ _ _ ν R' _ = _
      unfold fX6_costOf_b20
      simp only [lits]
      rw [e3, xbd_e, if_neg (by rw [j_le (by omega) (by omega)]; omega), f2, xbd_e, xlt_e, j_add, f3, xbd_e, hR, xbd_e, g1, xbd_e, g2, xbd_e, xlt_e, xlt_e, l_of (by omega), l_of (by omega), l_of (by omega), l_mul, l_mul, l_add, l_mul, l_add, j_add]
      rfl
    · show fX6_costOf_b20 _ (j32 (nE A p : Nat)) _ _ _ _ ν R' _ = _
      rw [show ((nE A p : Nat) : Int) = wEnds A p by unfold nE; omega]
      unfold fX6_costOf_b20
      simp (disch := omega) only [Bool.false_eq_true, lits, jj, jc, jm, Int.cast_ofNat_Int, j_bi0, j_bi1, not_true, not_false_eq_true, if_true, if_false, xe, xok_some, Sum.elim_inl, Sum.elim_inr, Int.reduceEq, Int.reduceLT, Int.reduceLE, Int.reduceAdd, Int.reduceSub, Int.reduceMul, e3, Int.le_refl]
  unfold fX6_costOf
  simp only [lits]
  rw [e1, xbd_e, e2, xbd_e, show (0 : Int64) = l64 0 from rfl, key, xbd_e]
/-- what it costs p to set out 5 i minutes ahead -/
def cRst (A : xAs) (m t : Int) (ah : Int → Int) (p : Int) (k : Nat) (i : Int) : Int := sumTo (fun b => bW A b * cstE A m t ah p b (A iM_minuteOf m - 5 * i)) k
def amF (c : Int → Int64) : Nat → Nat
  | 0 => 0
  | k + 1 => if lg_cmp (c ((k + 1 : Nat) : Int)) (c (amF c k : Nat)) < 0 then k + 1 else amF c k
theorem amF_le {c : Int → Int64} : ∀ k, amF c k ≤ k
  | 0 => Nat.le_refl _
  | k + 1 => by
    have := amF_le (c := c) k
    have e : amF c (k + 1) = if lg_cmp (c ((k + 1 : Nat) : Int)) (c (amF c k : Nat)) < 0 then k + 1 else amF c k := rfl
    rw [e]
    split <;> omega
def frC (μ ν : xm) : Prop := (∀ a, (a < 52 ∨ 60 < a) → gi ν a = gi μ a) ∧ ∀ a, (a < 51 ∨ 60 < a) → gl ν a = gl μ a
theorem frC.rf {μ : xm} : frC μ μ := ⟨fun _ _ => rfl, fun _ _ => rfl⟩
theorem frC.tr {μ ν ρ : xm} (h1 : frC μ ν) (h2 : frC ν ρ) : frC μ ρ := ⟨fun a h => (h2.1 a h).trans (h1.1 a h), fun a h => (h2.2 a h).trans (h1.2 a h)⟩
theorem frT.c {μ ν : xm} (h : frT μ ν) : frC μ ν := ⟨h.1, fun a q => h.2 a (by omega)⟩
theorem frC.CH {A : xAs} {μ ν : xm} {R : xr} {n : Nat} (h : frC μ ν) (hC : CH A μ R n) : CH A ν R n := by
  have h2 : frT μ (ν.1, μ.2) := ⟨fun a q => h.1 a q, fun a q => rfl⟩
  exact (h2.CH hC).gi0 rfl
theorem bW_b {A : xAs} (hI : Inv A) {b : Int} : 0 ≤ bW A b ∧ bW A b ≤ 100 := by
  have := hI.bridge
  unfold bW; split <;> omega
/-- one state of the bridge -/
theorem ch47 {A : xAs} {ν : xm} {R' : xr} {n a : Nat} (hC : CH A ν R' n) (hI : Inv A) {m p b t : Int} {ah : Int → Int} (hm : 0 ≤ m ∧ m < A iM 1) (hp : P8 p) (hb : 0 ≤ b ∧ b ≤ 1) (ht : 0 ≤ t ∧ t ≤ 99) (hR : R' iC_rest 4 = some a) (ha : a = 52 ∨ a = 55) (hV : bVl (vAl A (A iM_minuteOf m) ah b (A iM_peopleOf m) p)) (hT : TY (vAl A (A iM_minuteOf m) ah b (A iM_peopleOf m) p) (TLk A (A iM_minuteOf m) ah b (A iM_peopleOf m) p 8) a ν) (hE : TY (vAl A (A iM_minuteOf m) ah b (A iM_peopleOf m) p) (ELk A (A iM_minuteOf m) ah b (A iM_peopleOf m) p 8) iC_rest_each ν) {f : Int → Int} (hf : ∀ i : Nat, i < 25 → gl ν iC_rest_costs i = l64 (f i)) (q : xm) : xok (xloop xfu (fun v => fX6_cheapest_b47 v.1 v.2 (oM m) (j32 p) (j32 t) (j32 b) (j32 (bW A b)) (q, R')) (j32 0, ν)) (fun ν' => (gi ν' = gi ν ∧ ∀ a, a ≠ 51 → gl ν' a = gl ν a) ∧ ∀ i : Nat, i < 25 → gl ν' iC_rest_costs i = l64 (f i + bW A b * cstE A m t ah p b (A iM_minuteOf m - 5 * i))) := by
  have hM := hI.minuteOf m hm.1 hm.2
  have hbw := bW_b hI (b := b)
  refine xok_for (fun k s => s.1 = j32 k ∧ (gi s.2 = gi ν ∧ ∀ a, a ≠ 51 → gl s.2 a = gl ν a) ∧ ∀ i : Nat, i < 25 → gl s.2 iC_rest_costs i = l64 (if i < k then f i + bW A b * cstE A m t ah p b (A iM_minuteOf m - 5 * i) else f i)) 25 (by omega) ⟨rfl, ⟨rfl, fun _ _ => rfl⟩, fun i hi => by rw [if_neg (by omega)]; exact hf i hi⟩ ?_ ?_
  · intro k s hk hs
    obtain ⟨s1, σ⟩ := s
    obtain ⟨g1, ⟨g2, g3⟩, g4⟩ := hs
    simp only at g1 g2 g3 g4
    subst g1
    have hCσ := hC.gi0 g2
    have tt : ∀ {o : Nat} {V : List Int} {Φ : (Int → Int) → Int}, (o = 52 ∨ o = 55 ∨ o = 58) → TY V Φ o ν → TY V Φ o σ := fun {o V Φ} ho h => by
      obtain ⟨n', wt, h1, h2, h3, h4, h5⟩ := h
      exact ⟨n', wt, by rw [g2]; exact h1, by rw [g2]; exact h2, by rw [g2]; exact h3, by rw [g3 _ (by omega)]; exact h4, by rw [g2]; exact h5⟩
    have e1 := eX6_costOf hCσ hI hm hp hb ht (s := A iM_minuteOf m - 5 * k) (by omega) hR hV (tt (by omega) hT) (tt (Or.inr (Or.inr rfl)) hE)
    have e2 := g4 k hk
    rw [if_neg (by omega)] at e2
    have e3 : gi σ (oM m) 1 = A iM_minuteOf m := hCσ.minute m hm.1 hm.2
    have st : fX6_cheapest_b47 (j32 k) σ (oM m) (j32 p) (j32 t) (j32 b) (j32 (bW A b)) (q, R') = some (.inl (j32 ((k : Int) + 1), wl σ iC_rest_costs k (l64 (f k + bW A b * cstE A m t ah p b (A iM_minuteOf m - 5 * k))))) := by
      unfold fX6_cheapest_b47
      simp only [lits]
      rw [if_neg (by rw [j_le (by omega) (by omega)]; omega), j_gJ (by omega), xbd_e, e2, j_rd]
      show xbd (fX6_costOf (oM m) (j32 p) (j32 (gi σ (oM m) 1) - j32 (k : Int) * j32 5) (j32 b) (j32 t) σ R') _ = _
      rw [e3, j_mul, j_sub, show (k : Int) * 5 = 5 * k by omega, e1, xbd_e, l_of (by omega), l_mul, l_add, j_sJ (by omega), xbd_e, xlt_e, j_add]
    show xok (fX6_cheapest_b47 (j32 k) σ _ _ _ _ _ _) _
    rw [st, xok_some]
    refine ⟨rfl, ⟨g2, fun a ha => ?_⟩, fun i hi => ?_⟩
    · funext y
      rw [gl_wl_o ha, g3 a ha]
    · by_cases c : i = k
      · subst c
        rw [if_pos (by omega)]
        exact gl_wl
      · show gl (wl σ _ _ _) _ _ = _
        rw [gl_wl_z (by omega), g4 i hi]
        by_cases c2 : i < k
        · rw [if_pos c2, if_pos (by omega)]
        · rw [if_neg c2, if_neg (by omega)]
  · intro s hs
    obtain ⟨s1, σ⟩ := s
    obtain ⟨g1, g2, g4⟩ := hs
    simp only at g1 g2 g4
    subst g1
    show xok (fX6_cheapest_b47 (j32 (25 : Nat)) σ _ _ _ _ _ _) _
    unfold fX6_cheapest_b47
    simp (disch := omega) only [Bool.false_eq_true, lits, jj, jc, jm, Int.cast_ofNat_Int, j_bi0, j_bi1, not_true, not_false_eq_true, if_true, if_false, xe, xok_some, Sum.elim_inl, Sum.elim_inr, Int.reduceEq, Int.reduceLT, Int.reduceLE, Int.reduceAdd, Int.reduceSub, Int.reduceMul, show ((25 : Nat) : Int) = 25 from rfl]
    exact ⟨g2, fun i hi => by rw [g4 i hi, if_pos hi]⟩
theorem cheap_ok {A : xAs} {ν : xm} {R : xr} {n a c : Nat} (hC : CH A ν R n) (hI : Inv A) {m p t : Int} {ah : Int → Int} (hm : 0 ≤ m ∧ m < A iM 1) (hp : inc (A iM_peopleOf m) p) (h4 : pc (A iM_peopleOf m) ≤ 4) (ht : 0 ≤ t ∧ t ≤ 99) (hah : ∀ z, P8 z → gi ν iC_rest_aheads z = ah z ∧ 0 ≤ ah z ∧ ah z ≤ 120) (hR : RRl R R a c) : ∃ ν' R' a' c', fX6_cheapest (oM m) (j32 p) (j32 t) ν R = some (j32 (5 * (amF (fun i => l64 (cRst A m t ah p 2 i)) 24 : Nat)), ν', R') ∧ RRl R R' a' c' ∧ CH A ν' R' n ∧ frC ν ν' := by
  have hM := hI.minuteOf m hm.1 hm.2
  have hP := hI.peopleOf m hm.1 hm.2
  have hp8 : P8 p := ⟨hp.1, hp.2.1⟩
  obtain ⟨ν0, hν0⟩ : ∃ ν0, ν0 = fl ν iC_rest_costs 0 25 := ⟨_, rfl⟩
  have f1 : fJ7_fill_d0a16 iC_rest_costs 0 ν = some ν0 := by rw [hν0]; exact eJ7_fillJ (by decide +kernel) (by omega)
  have f2 : gi ν0 = gi ν := by rw [hν0]; exact fl_gi _
  have f3 : ∀ i : Nat, i < 25 → gl ν0 iC_rest_costs i = l64 0 := fun i hi => by rw [hν0]; exact fl_in 25 i (by omega) (by omega)
  have f4 : frC ν ν0 := ⟨fun a _ => congrFun f2 a, fun a q => by
    rw [hν0]
    have : ∀ k, gl (fl ν iC_rest_costs 0 k) a = gl ν a := by
      intro k
      induction k with
      | zero => rfl
      | succ k ih => funext y; show gl (wl (fl ν iC_rest_costs 0 k) iC_rest_costs k 0) a y = _; rw [gl_wl_o (by show a ≠ 51; omega), ih]
    exact this 25⟩
  have key : xok (xloop xfu (fun v => fX6_cheapest_b11 v.1 v.2.1 v.2.2 (oM m) (j32 p) (j32 t)) (j32 0, ν0, R)) (fun q => (∀ i : Nat, i < 25 → gl q.1 iC_rest_costs i = l64 (cRst A m t ah p 2 i)) ∧ ∃ a' c', RRl R q.2 a' c' ∧ CH A q.1 q.2 n ∧ frC ν q.1) := by
    refine xok_for (fun k s => s.1 = j32 k ∧ (∀ i : Nat, i < 25 → gl s.2.1 iC_rest_costs i = l64 (cRst A m t ah p k i)) ∧ ∃ a' c', RRl R s.2.2 a' c' ∧ CH A s.2.1 s.2.2 n ∧ frC ν s.2.1) 2 (by omega) ⟨rfl, f3, a, c, hR, f4.CH hC, f4⟩ ?_ ?_
    · intro k s hk hs
      obtain ⟨s1, σ, R1⟩ := s
      obtain ⟨g1, g2, a1, c1, g3, g4, g5⟩ := hs
      simp only at g1 g2 g3 g4 g5
      subst g1
      have hb : 0 ≤ (k : Int) ∧ (k : Int) ≤ 1 := by omega
      have e1 : fX10_bridgeWeight (j32 k) σ = some (j32 (bW A k)) := eX10_bridgeWeight g4 hb
      have bw := bW_b hI (b := k)
      have hah1 : ∀ z, P8 z → gi σ iC_rest_aheads z = ah z ∧ 0 ≤ ah z ∧ ah z ≤ 120 := fun z hz => by rw [g5.1 _ (Or.inl (by decide))]; exact hah z hz
      have ec : ∀ i : Int, cRst A m t ah p (k + 1) i = cRst A m t ah p k i + bW A k * cstE A m t ah p k (A iM_minuteOf m - 5 * i) := fun _ => rfl
      show xok (fX6_cheapest_b11 (j32 k) σ R1 _ _ _) _
      by_cases cb : 0 < bW A k
      · have hR1 : RRl R1 R1 a1 c1 := ⟨g3.1, g3.2.1, g3.2.2.1, fun _ _ _ => rfl⟩
        obtain ⟨σ1, R2, a2, c2, r1, r2, r3, r4, r5, r6⟩ := gath_ok g4 hI hm hp h4 hb hah1 hR1
        have hV := vAl_b hI (b := k) hM (fun z hz => (hah z hz).2) hP hp h4
        have hpl := r2.2.2.1
        obtain ⟨σ2, u1, ⟨u2, u3⟩, u4⟩ := ch47 r3 hI hm hp8 hb ht r2.1 (by omega) hV r5 r6 (f := fun i => cRst A m t ah p k i) (fun i hi => by rw [r4.2 _ (Or.inl (by decide))]; exact g2 i hi) σ1
        unfold fX6_cheapest_b11
        simp only [lits] at u1 ⊢
        rw [if_neg (by rw [j_le (by omega) (by omega)]; omega), e1, xbd_e, if_pos (by rw [j_lt (by omega) (by omega)]; exact cb), r1, xbd_e, u1, xbd_e, xlt_e, j_add, xok_some]
        have fr : frC σ σ2 := r4.c.tr ⟨fun a _ => congrFun u2 a, fun a q => u3 a (by omega)⟩
        have hRf : RRl R R2 a2 c2 := ⟨r2.1, r2.2.1, r2.2.2.1, fun i j h => (r2.2.2.2 i j h).trans (g3.2.2.2 i j h)⟩
        exact ⟨rfl, fun i hi => by rw [ec]; exact u4 i hi, a2, c2, hRf, r3.gi0 u2, g5.tr fr⟩
      · have hz : bW A k = 0 := by omega
        unfold fX6_cheapest_b11
        simp only [lits]
        rw [if_neg (by rw [j_le (by omega) (by omega)]; omega), e1, xbd_e, if_neg (by rw [j_lt (by omega) (by omega)]; exact cb), xlt_e, j_add, xok_some]
        exact ⟨rfl, fun i hi => by rw [ec, hz, Int.zero_mul, Int.add_zero]; exact g2 i hi, a1, c1, g3, g4, g5⟩
    · intro s hs
      obtain ⟨s1, σ, R1⟩ := s
      obtain ⟨g1, g2, a1, c1, g3, g4, g5⟩ := hs
      simp only at g1 g2 g3 g4 g5
      subst g1
      show xok (fX6_cheapest_b11 (j32 (2 : Nat)) σ R1 _ _ _) _
      unfold fX6_cheapest_b11
      simp (disch := omega) only [Bool.false_eq_true, lits, jj, jc, jm, Int.cast_ofNat_Int, j_bi0, j_bi1, not_true, not_false_eq_true, if_true, if_false, xe, xok_some, Sum.elim_inl, Sum.elim_inr, Int.reduceEq, Int.reduceLT, Int.reduceLE, Int.reduceAdd, Int.reduceSub, Int.reduceMul, show ((2 : Nat) : Int) = 2 from rfl]
      exact ⟨g2, a1, c1, g3, g4, g5⟩
  obtain ⟨q, q1, q2, a', c', q3, q4, q5⟩ := key
  obtain ⟨q, R'⟩ := q
  simp only at q2 q3 q4 q5
  have am : xloop xfu (fun v => fX6_cheapest_b107 v.1 v.2 (q, R')) (j32 0, j32 1) = some (j32 (amF (fun i => l64 (cRst A m t ah p 2 i)) 24 : Nat)) := by
    refine xloop_for (fun k : Nat => (j32 (amF (fun i => l64 (cRst A m t ah p 2 i)) k : Nat), j32 ((k : Int) + 1))) 24 (by omega) rfl ?_ ?_
    · intro k hk
      have hle := amF_le (c := fun i => l64 (cRst A m t ah p 2 i)) k
      have e : amF (fun i => l64 (cRst A m t ah p 2 i)) (k + 1) = if lg_cmp (l64 (cRst A m t ah p 2 ((k + 1 : Nat) : Int))) (l64 (cRst A m t ah p 2 (amF (fun i => l64 (cRst A m t ah p 2 i)) k : Nat))) < 0 then k + 1 else amF (fun i => l64 (cRst A m t ah p 2 i)) k := rfl
      generalize amF (fun i => l64 (cRst A m t ah p 2 i)) (k + 1) = Y at *
      generalize amF (fun i => l64 (cRst A m t ah p 2 i)) k = B at *
      have c1 := q2 (k + 1) (by omega)
      have c2 := q2 B (by omega)
      show fX6_cheapest_b107 (j32 (B : Nat)) (j32 ((k : Int) + 1)) (q, R') = _
      unfold fX6_cheapest_b107
      simp only [lits]
      rw [if_neg (by rw [j_le (by omega) (by omega)]; omega)]
      show xbd (xgJ q iC_rest_costs 25 (j32 ((k : Int) + 1))) (fun v22 => xbd (xgJ q iC_rest_costs 25 (j32 (B : Int))) _) = _
      rw [j_gJ (by omega), xbd_e, j_gJ (by omega), xbd_e, show (k : Int) + 1 = ((k + 1 : Nat) : Int) from rfl, c1, c2]
      by_cases d : lg_cmp (l64 (cRst A m t ah p 2 ((k + 1 : Nat) : Int))) (l64 (cRst A m t ah p 2 (B : Nat))) < 0
      · rw [if_neg (by rw [show j32 0 = (0 : Int32) from rfl, out_step]; exact not_not_intro d), xlt_e, j_add]
        rw [if_pos d] at e
        rw [e]
      · rw [if_pos (by rw [show j32 0 = (0 : Int32) from rfl, out_step]; exact d), xlt_e, j_add]
        rw [if_neg d] at e
        rw [e]
    · show fX6_cheapest_b107 _ (j32 (((24 : Nat) : Int) + 1)) (q, R') = _
      unfold fX6_cheapest_b107
      simp (disch := omega) only [Bool.false_eq_true, lits, jj, jc, jm, Int.cast_ofNat_Int, j_bi0, j_bi1, not_true, not_false_eq_true, if_true, if_false, xe, xok_some, Sum.elim_inl, Sum.elim_inr, Int.reduceEq, Int.reduceLT, Int.reduceLE, Int.reduceAdd, Int.reduceSub, Int.reduceMul, show ((24 : Nat) : Int) + 1 = 25 from rfl]
  refine ⟨q, R', a', c', ?_, q3, q4, q5⟩
  unfold fX6_cheapest
  simp only [lits] at am q1 ⊢
  rw [f1, xbd_e, q1, xbd_e, am, xbd_e, j_mul, Int.mul_comm]
