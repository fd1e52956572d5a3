/-! rest: the class's gathering -/
def TLk (A : xAs) (M : Int) (ah : Int → Int) (b P p : Int) (k : Nat) (φ : Int → Int) : Int := EXA A M ah b (oLp P p k) (fun l => φ (fmL M l))
def vS (A : xAs) (M : Int) (ah : Int → Int) (b y : Int) (φ : Int → Int) (k : Nat) : Int := sumTo (fun e => wWt A y e * φ (thF A M ah b y e)) k
def ELk (A : xAs) (M : Int) (ah : Int → Int) (b P p : Int) (k : Nat) (φ : Int → Int) : Int := sumTo (fun y => if inc P y ∧ y ≠ p then PRd A P p y 8 * vS A M ah b y φ (nE A y) else 0) k
/-- the ends of one of the others -/
theorem go77 {A : xAs} {ν : xm} {R R' : xr} {n a c : Nat} (hC : CH A ν R' n) (hI : Inv A) {m p b y : Int} {ah : Int → Int} (hm : 0 ≤ m ∧ m < A iM 1) (hp : inc (A iM_peopleOf m) p) (h4 : pc (A iM_peopleOf m) ≤ 4) (hb : 0 ≤ b ∧ b ≤ 1) (hah : ∀ z, P8 z → gi ν iC_rest_aheads z = ah z ∧ 0 ≤ ah z ∧ ah z ≤ 120) (hR : RRl R R' a c) (hy : inc (A iM_peopleOf m) y) (hyp : y ≠ p) {Φ Ψ : (Int → Int) → Int} (hT : TY (vAl A (A iM_minuteOf m) ah b (A iM_peopleOf m) p) Φ a ν) (hE : TY (vAl A (A iM_minuteOf m) ah b (A iM_peopleOf m) p) Ψ iC_rest_each ν) {W : Int} : xok (xbd (fX8_empty c ν) fun q => xloop xfu (fun v => fX6_gatherOthers_b77 v.1 v.2 (oM m) (j32 b) (j32 y) R' (l64 W)) (j32 0, q)) (fun ν' => TY (vAl A (A iM_minuteOf m) ah b (A iM_peopleOf m) p) (fun φ => sumTo (fun e => wWt A y e * Φ (fun x => φ (max (thF A (A iM_minuteOf m) ah b y e) x))) (nE A y)) c ν' ∧ TY (vAl A (A iM_minuteOf m) ah b (A iM_peopleOf m) p) (fun φ => Ψ φ + W * vS A (A iM_minuteOf m) ah b y φ (nE A y)) iC_rest_each ν' ∧ frT ν ν') := by
  have hM := hI.minuteOf m hm.1 hm.2
  have hP := hI.peopleOf m hm.1 hm.2
  obtain ⟨M, hMe⟩ : ∃ M, A iM_minuteOf m = M := ⟨_, rfl⟩
  obtain ⟨P, hPe⟩ : ∃ P, A iM_peopleOf m = P := ⟨_, rfl⟩
  rw [hPe] at hp h4 hy hP
  rw [hMe] at hM
  rw [hMe, hPe] at hT hE
  rw [hMe, hPe]
  have hV := vAl_b hI (b := b) hM (fun z hz => (hah z hz).2) hP hp h4
  have hy8 : P8 y := ⟨hy.1, hy.2.1⟩
  have hay := hah y hy8
  have hnE := wEnds_b hI hy8
  obtain ⟨V, hVe⟩ : ∃ V, vAl A M ah b P p = V := ⟨_, rfl⟩
  rw [hVe] at hT hE hV ⊢
  have hpl := hR.2.2.1
  obtain ⟨t1, t2, t3⟩ := empty_ok (o := c) (ν := ν)
  rw [t1, xbd_e]
  have hmem : ∀ e : Nat, e < nE A y → thF A M ah b y e ∈ V := fun e he => by
    rw [← hVe]
    obtain ⟨z, hz⟩ := nat_of hy8.1
    subst hz
    exact List.mem_cons_of_mem _ (vO_in hy hyp he 8 (by omega))
  have hmax : ∀ t ∈ V, ∀ x ∈ V, max t x ∈ V := fun t ht x hx => by rw [← hVe] at ht hx ⊢; exact vAl_max ht hx
  have e0 : ∀ (o' : Nat), (fun φ : Int → Int => sumTo (fun e => wWt A y e * Φ (fun x => φ (max (thF A M ah b y e) x))) 0) = (fun _ => (0 : Int)) := fun _ => rfl
  refine xok_for (fun k s => s.1 = j32 k ∧ TY V Φ a s.2 ∧ TY V (fun φ => sumTo (fun e => wWt A y e * Φ (fun x => φ (max (thF A M ah b y e) x))) k) c s.2 ∧ TY V (fun φ => Ψ φ + W * vS A M ah b y φ k) iC_rest_each s.2 ∧ frT ν s.2) (nE A y) (by unfold nE; omega) ⟨rfl, TY_fT hT t3 (by omega), TY_mono t2 (fun x hx => absurd hx (List.not_mem_nil)), ?_, t3.fr (by omega)⟩ ?_ ?_
  · have e1 : (fun φ : Int → Int => Ψ φ + W * vS A M ah b y φ 0) = Ψ := by
      funext φ
      show Ψ φ + W * 0 = Ψ φ
      rw [Int.mul_zero]; omega
    show TY V (fun φ => Ψ φ + W * vS A M ah b y φ 0) iC_rest_each _
    rw [e1]
    exact TY_fT hE t3 (by show 58 ≠ c ∧ 58 ≠ c + 1 ∧ 58 + 1 ≠ c ∧ 58 + 2 ≠ c + 2; omega)
  · intro k s hk hs
    obtain ⟨s1, σ⟩ := s
    obtain ⟨g1, g2, g3, g4, g5⟩ := hs
    simp only at g1 g2 g3 g4 g5
    subst g1
    have hCσ := g5.CH hC
    have hke : 0 ≤ (k : Int) ∧ (k : Int) < wEnds A y := by unfold nE at hk; omega
    have f1 := eX10_endsOf hCσ hI hy8
    have f2 := eX10_takes hCσ hI hy8 hke hb
    have f3 := eX10_weightOf hCσ hI hy8 hke
    have f4 : gi σ (oM m) 1 = M := by rw [hCσ.minute m hm.1 hm.2, hMe]
    have f5 : gi σ iC_rest_aheads y = ah y := by rw [g5.1 _ (Or.inl (by decide))]; exact hay.1
    have bt := thF_b hI (b := b) hM (fun z hz => (hah z hz).2) hy8 hk
    have bw := wWt_b hI hy8 hke
    have bW := wWay_b hI (b := b) hy8 hke
    have hth := hmem k hk
    obtain ⟨σ1, r1, r2, r3⟩ := add_ok g4 hV (v := thF A M ah b y k) (x := W * wWt A y k) hth
    have f6 := eX10_weightOf ((r3.fr (Or.inr (Or.inr rfl))).CH hCσ) hI hy8 hke
    have g2' := TY_fT g2 r3 (by show a ≠ 58 ∧ a ≠ 58 + 1 ∧ a + 1 ≠ 58 ∧ a + 2 ≠ 58 + 2; omega)
    have g3' := TY_fT g3 r3 (by show c ≠ 58 ∧ c ≠ 58 + 1 ∧ c + 1 ≠ 58 ∧ c + 2 ≠ 58 + 2; omega)
    obtain ⟨σ2, u1, u2, u3⟩ := spread_ok hpl ⟨hR.1, hR.2.1⟩ g2' g3' hV hV (t := thF A M ah b y k) (w := wWt A y k) (by omega) (by omega) (fun x hx => hmax _ hth x hx)
    have st : fX6_gatherOthers_b77 (j32 k) σ (oM m) (j32 b) (j32 y) R' (l64 W) = some (.inl (j32 ((k : Int) + 1), σ2)) := by
      unfold fX6_gatherOthers_b77
      simp (disch := omega) only [Bool.false_eq_true, lits, jj, jc, jm, Int.cast_ofNat_Int, j_bi0, j_bi1, not_true, not_false_eq_true, if_true, if_false, xe, xok_some, Sum.elim_inl, Sum.elim_inr, Int.reduceEq, Int.reduceLT, Int.reduceLE, Int.reduceAdd, Int.reduceSub, Int.reduceMul, f1, show ¬ wEnds A y ≤ (k : Int) by omega, f5, f2, f4, f3]
      rw [j_max (by omega) (by omega), show max M (M - ah y + wWay A y k b) = thF A M ah b y k from rfl, l_of (by omega), l_mul, r1, xbd_e, f6, xbd_e, u1, xbd_e]
    show xok (fX6_gatherOthers_b77 (j32 k) σ (oM m) (j32 b) (j32 y) R' (l64 W)) _
    rw [st, xok_some]
    refine ⟨rfl, TY_fT g2' u3 (by omega), ?_, ?_, (g5.tr (r3.fr (Or.inr (Or.inr rfl)))).tr (u3.fr (by omega))⟩
    · exact u2
    · have e1 : (fun φ : Int → Int => Ψ φ + W * vS A M ah b y φ (k + 1)) = (fun φ : Int → Int => (Ψ φ + W * vS A M ah b y φ k) + (W * wWt A y k) * φ (thF A M ah b y k)) := by
        funext φ
        show Ψ φ + W * (vS A M ah b y φ k + wWt A y k * φ (thF A M ah b y k)) = _
        rw [Int.mul_add, Int.mul_assoc]; omega
      show TY V (fun φ => Ψ φ + W * vS A M ah b y φ (k + 1)) iC_rest_each σ2
      rw [e1]
      exact TY_fT r2 u3 (by show 58 ≠ c ∧ 58 ≠ c + 1 ∧ 58 + 1 ≠ c ∧ 58 + 2 ≠ c + 2; omega)
  · intro s hs
    obtain ⟨s1, σ⟩ := s
    obtain ⟨g1, g2, g3, g4, g5⟩ := hs
    simp only at g1 g2 g3 g4 g5
    subst g1
    have f1 := eX10_endsOf (g5.CH hC) hI hy8
    show xok (fX6_gatherOthers_b77 (j32 (nE A y : Nat)) σ _ _ _ _ _) _
    rw [show ((nE A y : Nat) : Int) = wEnds A y by unfold nE; omega]
    unfold fX6_gatherOthers_b77
    simp (disch := omega) only [Bool.false_eq_true, lits, jj, jc, jm, Int.cast_ofNat_Int, j_bi0, j_bi1, not_true, not_false_eq_true, if_true, if_false, xe, xok_some, Sum.elim_inl, Sum.elim_inr, Int.reduceEq, Int.reduceLT, Int.reduceLE, Int.reduceAdd, Int.reduceSub, Int.reduceMul, f1, Int.le_refl]
    exact ⟨g3, g4, g5⟩
theorem xbd_xbd {α β γ : Type} {x : Option α} {f : α → Option β} {g : β → Option γ} : xbd x (fun a => xbd (f a) g) = xbd (xbd x f) g := by
  cases x <;> rfl
/-- one of the others -/
theorem go29 {A : xAs} {ν : xm} {R R' : xr} {n a c : Nat} (hC : CH A ν R' n) (hI : Inv A) {m p b : Int} {ah : Int → Int} (hm : 0 ≤ m ∧ m < A iM 1) (hp : inc (A iM_peopleOf m) p) (h4 : pc (A iM_peopleOf m) ≤ 4) (hb : 0 ≤ b ∧ b ≤ 1) (hah : ∀ z, P8 z → gi ν iC_rest_aheads z = ah z ∧ 0 ≤ ah z ∧ ah z ≤ 120) (hR : RRl R R' a c) {k : Nat} (hk : k < 8) (hT : TY (vAl A (A iM_minuteOf m) ah b (A iM_peopleOf m) p) (TLk A (A iM_minuteOf m) ah b (A iM_peopleOf m) p k) a ν) (hE : TY (vAl A (A iM_minuteOf m) ah b (A iM_peopleOf m) p) (ELk A (A iM_minuteOf m) ah b (A iM_peopleOf m) p k) iC_rest_each ν) : ∃ ν' R'' a' c', fX6_gatherOthers_b29 (j32 k) ν R' (oM m) (j32 p) (j32 b) = some (.inl (j32 ((k : Int) + 1), ν', R'')) ∧ RRl R R'' a' c' ∧ CH A ν' R'' n ∧ frT ν ν' ∧ TY (vAl A (A iM_minuteOf m) ah b (A iM_peopleOf m) p) (TLk A (A iM_minuteOf m) ah b (A iM_peopleOf m) p (k + 1)) a' ν' ∧ TY (vAl A (A iM_minuteOf m) ah b (A iM_peopleOf m) p) (ELk A (A iM_minuteOf m) ah b (A iM_peopleOf m) p (k + 1)) iC_rest_each ν' := by
  have e1 := eC_includes hC hI hm (p := k) (by omega)
  have hp8 : P8 p := ⟨hp.1, hp.2.1⟩
  have hn := hC.fin
  have eE : ELk A (A iM_minuteOf m) ah b (A iM_peopleOf m) p (k + 1) = fun φ => ELk A (A iM_minuteOf m) ah b (A iM_peopleOf m) p k φ + (if inc (A iM_peopleOf m) k ∧ (k : Int) ≠ p then PRd A (A iM_peopleOf m) p k 8 * vS A (A iM_minuteOf m) ah b k φ (nE A k) else 0) := rfl
  have same : ¬ (inc (A iM_peopleOf m) k ∧ (k : Int) ≠ p) → TLk A (A iM_minuteOf m) ah b (A iM_peopleOf m) p (k + 1) = TLk A (A iM_minuteOf m) ah b (A iM_peopleOf m) p k ∧ ELk A (A iM_minuteOf m) ah b (A iM_peopleOf m) p (k + 1) = ELk A (A iM_minuteOf m) ah b (A iM_peopleOf m) p k := fun h => by
    constructor
    · funext φ
      unfold TLk
      rw [oLp_s, if_neg h]
    · rw [eE]
      funext φ
      rw [if_neg h, Int.add_zero]
  by_cases c1 : (k : Int) = p
  · obtain ⟨s1, s2⟩ := same (fun h => h.2 c1)
    refine ⟨ν, R', a, c, ?_, hR, hC, frT.rf, by rw [s1]; exact hT, by rw [s2]; exact hE⟩
    unfold fX6_gatherOthers_b29
    simp (disch := omega) only [Bool.false_eq_true, lits, jj, jc, jm, Int.cast_ofNat_Int, j_bi0, j_bi1, not_true, not_false_eq_true, if_true, if_false, xe, xok_some, Sum.elim_inl, Sum.elim_inr, Int.reduceEq, Int.reduceLT, Int.reduceLE, Int.reduceAdd, Int.reduceSub, Int.reduceMul, show ¬ (8 : Int) ≤ k by omega, c1, show ¬ (8 : Int) ≤ p by omega]
  · by_cases c2 : inc (A iM_peopleOf m) k
    · have e2 := eX6_weightsWithout hC hI hm hp8 (y := k) ⟨by omega, by omega⟩
      obtain ⟨ν', r1, r2, r3, r4⟩ := go77 hC hI hm hp h4 hb hah hR c2 c1 hT hE (W := PRd A (A iM_peopleOf m) p k 8)
      have hpl := hR.2.2.1
      have x1 : xIs 8 c n := ⟨by show c = 52 ∨ c = 55 ∨ c = 58; omega, hn.1⟩
      have x2 : xIs 8 a n := ⟨by show a = 52 ∨ a = 55 ∨ a = 58; omega, hn.1⟩
      have w1 := dw_49_4 hn x1 rfl
      have w2 := dw_49_5 w1 x2 rfl
      have hR2 : RRl R (xup (xup R' iC_rest 4 (some c)) iC_rest 5 (some a)) c a := by
        refine ⟨?_, xup_self, by omega, fun i j hij => ?_⟩
        · rw [xup_nek (by decide)]; exact xup_self
        · have : xup (xup R' iC_rest 4 (some c)) iC_rest 5 (some a) i j = R' i j := by
            by_cases q : i = 49
            · subst q
              rw [xup_nek (by omega), xup_nek (by omega)]
            · rw [xup_ne q, xup_ne q]
          rw [this]; exact hR.2.2.2 i j hij
      have hR3 : RRl R' (xup (xup R' iC_rest 4 (some c)) iC_rest 5 (some a)) c a := by
        refine ⟨hR2.1, hR2.2.1, hR2.2.2.1, fun i j hij => ?_⟩
        rw [hR2.2.2.2 i j hij, hR.2.2.2 i j hij]
      refine ⟨ν', _, c, a, ?_, hR2, hR3.CH w2 (r4.CH hC), r4, ?_, ?_⟩
      · unfold fX6_gatherOthers_b29
        simp only [lits] at r1 ⊢
        rw [if_neg (by rw [j_le (by omega) (by omega)]; omega), if_neg (by rw [j_eq (by omega) (by omega)]; exact c1), e1, xbd_e, if_neg (by rw [j_bi0]; exact not_not_intro c2), e2, xbd_e, hR.2.1, xbd_e, xbd_xbd, r1, xbd_e, hR.1, xbd_e, xbd_e, xlt_e, xlt_e, xlt_e, j_add]
      · have e : TLk A (A iM_minuteOf m) ah b (A iM_peopleOf m) p (k + 1) = fun φ => sumTo (fun e => wWt A k e * TLk A (A iM_minuteOf m) ah b (A iM_peopleOf m) p k (fun x => φ (max (thF A (A iM_minuteOf m) ah b k e) x))) (nE A k) := by
          funext φ
          unfold TLk
          rw [oLp_s, if_pos ⟨c2, c1⟩]
          exact TX_snoc
        rw [e]; exact r2
      · have e : ELk A (A iM_minuteOf m) ah b (A iM_peopleOf m) p (k + 1) = fun φ => ELk A (A iM_minuteOf m) ah b (A iM_peopleOf m) p k φ + PRd A (A iM_peopleOf m) p k 8 * vS A (A iM_minuteOf m) ah b k φ (nE A k) := by
          rw [eE]
          funext φ
          rw [if_pos ⟨c2, c1⟩]
        rw [e]; exact r3
    · obtain ⟨s1, s2⟩ := same (fun h => c2 h.1)
      refine ⟨ν, R', a, c, ?_, hR, hC, frT.rf, by rw [s1]; exact hT, by rw [s2]; exact hE⟩
      unfold fX6_gatherOthers_b29
      simp (disch := omega) only [Bool.false_eq_true, lits, jj, jc, jm, Int.cast_ofNat_Int, j_bi0, j_bi1, not_true, not_false_eq_true, if_true, if_false, xe, xok_some, Sum.elim_inl, Sum.elim_inr, Int.reduceEq, Int.reduceLT, Int.reduceLE, Int.reduceAdd, Int.reduceSub, Int.reduceMul, show ¬ (8 : Int) ≤ k by omega, c1, e1, eq_false c2]
theorem gath_ok {A : xAs} {ν : xm} {R : xr} {n a c : Nat} (hC : CH A ν R n) (hI : Inv A) {m p b : Int} {ah : Int → Int} (hm : 0 ≤ m ∧ m < A iM 1) (hp : inc (A iM_peopleOf m) p) (h4 : pc (A iM_peopleOf m) ≤ 4) (hb : 0 ≤ b ∧ b ≤ 1) (hah : ∀ z, P8 z → gi ν iC_rest_aheads z = ah z ∧ 0 ≤ ah z ∧ ah z ≤ 120) (hR : RRl R R a c) : ∃ ν' R' a' c', fX6_gatherOthers (oM m) (j32 p) (j32 b) ν R = some (ν', R') ∧ RRl R R' a' c' ∧ CH A ν' R' n ∧ frT ν ν' ∧ TY (vAl A (A iM_minuteOf m) ah b (A iM_peopleOf m) p) (TLk A (A iM_minuteOf m) ah b (A iM_peopleOf m) p 8) a' ν' ∧ TY (vAl A (A iM_minuteOf m) ah b (A iM_peopleOf m) p) (ELk A (A iM_minuteOf m) ah b (A iM_peopleOf m) p 8) iC_rest_each ν' := by
  have hM := hI.minuteOf m hm.1 hm.2
  have hP := hI.peopleOf m hm.1 hm.2
  have hV := vAl_b hI (b := b) hM (fun z hz => (hah z hz).2) hP hp h4
  have hpl := hR.2.2.1
  obtain ⟨t1, t2, t3⟩ := empty_ok (o := a) (ν := ν)
  have hC1 := (t3.fr (by omega)).CH hC
  have t2' := TY_mono t2 (V' := vAl A (A iM_minuteOf m) ah b (A iM_peopleOf m) p) (fun x hx => absurd hx (List.not_mem_nil))
  obtain ⟨ν2, u1, u2, u3⟩ := add_ok t2' hV (v := A iM_minuteOf m) (x := 1) (List.mem_cons_self ..)
  obtain ⟨w1, w2, w3⟩ := empty_ok (o := iC_rest_each) (ν := ν2)
  have f0 : frT ν (wr ν2 iC_rest_each 2 0) := ((t3.fr (by omega)).tr (u3.fr (by omega))).tr (w3.fr (Or.inr (Or.inr rfl)))
  have l0 : TY (vAl A (A iM_minuteOf m) ah b (A iM_peopleOf m) p) (TLk A (A iM_minuteOf m) ah b (A iM_peopleOf m) p 0) a (wr ν2 iC_rest_each 2 0) := by
    have e : TLk A (A iM_minuteOf m) ah b (A iM_peopleOf m) p 0 = fun φ => 0 + 1 * φ (A iM_minuteOf m) := by
      funext φ
      show φ (A iM_minuteOf m) = _
      omega
    rw [e]
    exact TY_fT u2 w3 (by show a ≠ 58 ∧ a ≠ 58 + 1 ∧ a + 1 ≠ 58 ∧ a + 2 ≠ 58 + 2; omega)
  have l1 : TY (vAl A (A iM_minuteOf m) ah b (A iM_peopleOf m) p) (ELk A (A iM_minuteOf m) ah b (A iM_peopleOf m) p 0) iC_rest_each (wr ν2 iC_rest_each 2 0) := TY_mono w2 (fun x hx => absurd hx (List.not_mem_nil))
  have key : xok (xloop xfu (fun v => fX6_gatherOthers_b29 v.1 v.2.1 v.2.2 (oM m) (j32 p) (j32 b)) (j32 0, wr ν2 iC_rest_each 2 0, R)) (fun q => ∃ a' c', RRl R q.2 a' c' ∧ CH A q.1 q.2 n ∧ frT ν q.1 ∧ TY (vAl A (A iM_minuteOf m) ah b (A iM_peopleOf m) p) (TLk A (A iM_minuteOf m) ah b (A iM_peopleOf m) p 8) a' q.1 ∧ TY (vAl A (A iM_minuteOf m) ah b (A iM_peopleOf m) p) (ELk A (A iM_minuteOf m) ah b (A iM_peopleOf m) p 8) iC_rest_each q.1) := by
    refine xok_for (fun k s => s.1 = j32 k ∧ ∃ a' c', RRl R s.2.2 a' c' ∧ CH A s.2.1 s.2.2 n ∧ frT ν s.2.1 ∧ TY (vAl A (A iM_minuteOf m) ah b (A iM_peopleOf m) p) (TLk A (A iM_minuteOf m) ah b (A iM_peopleOf m) p k) a' s.2.1 ∧ TY (vAl A (A iM_minuteOf m) ah b (A iM_peopleOf m) p) (ELk A (A iM_minuteOf m) ah b (A iM_peopleOf m) p k) iC_rest_each s.2.1) 8 (by omega) ⟨rfl, a, c, hR, f0.CH hC, f0, l0, l1⟩ ?_ ?_
    · intro k s hk hs
      obtain ⟨s1, σ, R1⟩ := s
      obtain ⟨g1, a1, c1, g2, g3, g4, g5, g6⟩ := hs
      simp only at g1 g2 g3 g4 g5 g6
      subst g1
      obtain ⟨ν', R'', a', c', r1, r2, r3, r4, r5, r6⟩ := go29 g3 hI hm hp h4 hb (fun z hz => by rw [g4.1 _ (Or.inl (by decide))]; exact hah z hz) g2 hk g5 g6
      exact ⟨_, r1, rfl, a', c', r2, r3, g4.tr r4, r5, r6⟩
    · intro s hs
      obtain ⟨s1, σ, R1⟩ := s
      obtain ⟨g1, a1, c1, g2, g3, g4, g5, g6⟩ := hs
      simp only at g1 g2 g3 g4 g5 g6
      subst g1
      show xok (fX6_gatherOthers_b29 (j32 (8 : Nat)) σ R1 _ _ _) _
      unfold fX6_gatherOthers_b29
      simp (disch := omega) only [Bool.false_eq_true, lits, jj, jc, jm, Int.cast_ofNat_Int, j_bi0, j_bi1, not_true, not_false_eq_true, if_true, if_false, xe, xok_some, Sum.elim_inl, Sum.elim_inr, Int.reduceEq, Int.reduceLT, Int.reduceLE, Int.reduceAdd, Int.reduceSub, Int.reduceMul, show ((8 : Nat) : Int) = 8 from rfl]
      exact ⟨a1, c1, g2, g3, g4, g5, g6⟩
  obtain ⟨q, q1, a', c', q2, q3, q4, q5, q6⟩ := key
  refine ⟨q.1, q.2, a', c', ?_, q2, q3, q4, q5, q6⟩
  have e1 : gi (wr ν a 2 0) (oM m) 1 = A iM_minuteOf m := hC1.minute m hm.1 hm.2
  unfold fX6_gatherOthers
  simp only [lits] at q1 ⊢
  rw [hR.1, xbd_e, t1, xbd_e, xbd_e, j_rd]
  show xbd (fX8_add a (j32 (gi (wr ν a 2 0) (oM m) 1)) 1 (wr ν a 2 0)) _ = _
  rw [e1, show (1 : Int64) = l64 1 from rfl, u1, xbd_e, w1, xbd_e, q1, xbd_e]
