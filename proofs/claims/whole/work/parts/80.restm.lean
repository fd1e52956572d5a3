/-! rest: the reference's days -/
def RS (G : List Int) (ah : Int → Int) (ν : xm) : Prop := gi ν iM 61 = G.length ∧ ∀ j : Nat, j < G.length → gi ν iM_goer j = G.getD j 0 ∧ gi ν iM_aheadOf j = ah (G.getD j 0)
def frW (μ ν : xm) : Prop := ∀ o, o ≠ iM_comesAt → gi ν o = gi μ o
theorem frW.rf {μ : xm} : frW μ μ := fun _ _ => rfl
theorem frW.tr {μ ν ρ : xm} (h1 : frW μ ν) (h2 : frW ν ρ) : frW μ ρ := fun o h => (h2 o h).trans (h1 o h)
theorem frW.RH {A : xAs} {μ ν : xm} (h : frW μ ν) (hA : RH A μ) : RH A ν := RH.mk (fun o ho => (h o (by rintro rfl; exact absurd ho (by decide))).trans (RH.at hA ho)) (by rw [h iM (by decide)]; exact RH.sc hA)
theorem frW.RS {G : List Int} {ah : Int → Int} {μ ν : xm} (h : frW μ ν) (hS : RS G ah μ) : RS G ah ν := by
  refine ⟨by rw [h iM (by decide)]; exact hS.1, fun j hj => ?_⟩
  rw [h iM_goer (by decide), h iM_aheadOf (by decide)]
  exact hS.2 j hj
def mxP (M : Int) (g : Nat → Int) : Nat → Int
  | 0 => M
  | k + 1 => max (mxP M g k) (g k)
theorem mxP_sh {g : Nat → Int} : ∀ (k : Nat) {M : Int}, mxP M g (k + 1) = mxP (max M (g 0)) (fun j => g (j + 1)) k
  | 0, M => rfl
  | k + 1, M => by
    show max (mxP M g (k + 1)) (g (k + 1)) = max (mxP (max M (g 0)) (fun j => g (j + 1)) k) (g (k + 1))
    rw [mxP_sh k]
theorem mxP_fm : ∀ (l : List Int) {M : Int}, mxP M (fun j => l.getD j 0) l.length = fmL M l
  | [], M => rfl
  | x :: l, M => by
    rw [List.length_cons, mxP_sh]
    show mxP (max M x) (fun j => l.getD j 0) l.length = fmL (max M x) l
    exact mxP_fm l
theorem mxP_b {M B : Int} {g : Nat → Int} : ∀ k : Nat, (0 ≤ M ∧ M ≤ B) → (∀ j, j < k → g j ≤ B) → 0 ≤ mxP M g k ∧ mxP M g k ≤ B
  | 0, h, _ => h
  | k + 1, h, hg => by
    have ih := mxP_b (M := M) (B := B) (g := g) k h (fun j hj => hg j (by omega))
    have hk := hg k (by omega)
    show 0 ≤ max (mxP M g k) (g k) ∧ max (mxP M g k) (g k) ≤ B
    omega
theorem day_ok {A : xAs} {ν : xm} (hA : RH A ν) (hI : Inv A) {m t : Int} {G l : List Int} {ah : Int → Int} {i : Nat} (hm : 0 ≤ m ∧ m < A iM 1) (ht : 0 ≤ t ∧ t ≤ 99) (hS : RS G ah ν) (hG : G.length ≤ 4) (hp : P8 (G.getD i 0)) (hi : i < G.length) (hl : l.length = G.length) (hc : ∀ j : Nat, j < G.length → gi ν iM_comesAt j = l.getD j 0 ∧ -200 ≤ l.getD j 0 ∧ l.getD j 0 ≤ 3000) : fX12_dayCost (j32 m) (j32 i) (j32 t) ν = some (l64 (dayL (A iM_minuteOf m) (A iM_worthOf (24 * G.getD i 0 + A iM_minuteOf m / 60)) t i l)) := by
  have hM := hI.minuteOf m hm.1 hm.2
  have hmt := hI.mt
  have e1 : gi ν iM_minuteOf m = A iM_minuteOf m := by rw [RH.at hA (by decide)]
  obtain ⟨M, hMe⟩ : ∃ M, A iM_minuteOf m = M := ⟨_, rfl⟩
  rw [hMe] at e1 hM ⊢
  have e2 : ∀ z, gi ν iM_worthOf z = A iM_worthOf z := fun z => by rw [RH.at hA (by decide)]
  have wb := hI.worthOf (24 * G.getD i 0 + M / 60) (by omega) (by omega)
  have hi1 := hS.2 i hi
  have hci := hc i hi
  have l1 : xloop xfu (fun v => fX12_dayCost_b11 v.1 v.2 ν) (j32 M, j32 0) = some (j32 (fmL M l)) := by
    rw [← mxP_fm l, hl]
    refine xloop_for (fun k : Nat => (j32 (mxP M (fun j => l.getD j 0) k), j32 k)) G.length (by omega) rfl ?_ ?_
    · intro k hk
      have mb := mxP_b (M := M) (B := 3000) (g := fun j => l.getD j 0) k (by omega) (fun j hj => (hc j (by omega)).2.2)
      have hck := hc k hk
      have e : mxP M (fun j => l.getD j 0) (k + 1) = max (mxP M (fun j => l.getD j 0) k) (l.getD k 0) := rfl
      rw [e]
      generalize mxP M (fun j => l.getD j 0) k = X at *
      show fX12_dayCost_b11 (j32 X) (j32 k) ν = _
      unfold fX12_dayCost_b11
      by_cases c : l.getD k 0 ≤ X
      · simp (disch := omega) only [Bool.false_eq_true, lits, jj, jc, jm, Int.cast_ofNat_Int, j_bi0, j_bi1, not_true, not_false_eq_true, if_true, if_false, xe, xok_some, Sum.elim_inl, Sum.elim_inr, Int.reduceEq, Int.reduceLT, Int.reduceLE, Int.reduceAdd, Int.reduceSub, Int.reduceMul, hS.1, show ¬ (G.length : Int) ≤ k by omega, hck.1, c, show max X (l.getD k 0) = X by omega]
        rfl
      · simp (disch := omega) only [Bool.false_eq_true, lits, jj, jc, jm, Int.cast_ofNat_Int, j_bi0, j_bi1, not_true, not_false_eq_true, if_true, if_false, xe, xok_some, Sum.elim_inl, Sum.elim_inr, Int.reduceEq, Int.reduceLT, Int.reduceLE, Int.reduceAdd, Int.reduceSub, Int.reduceMul, hS.1, show ¬ (G.length : Int) ≤ k by omega, hck.1, c, show max X (l.getD k 0) = l.getD k 0 by omega]
        rfl
    · show fX12_dayCost_b11 _ (j32 G.length) ν = _
      unfold fX12_dayCost_b11
      simp (disch := omega) only [Bool.false_eq_true, lits, jj, jc, jm, Int.cast_ofNat_Int, j_bi0, j_bi1, not_true, not_false_eq_true, if_true, if_false, xe, xok_some, Sum.elim_inl, Sum.elim_inr, Int.reduceEq, Int.reduceLT, Int.reduceLE, Int.reduceAdd, Int.reduceSub, Int.reduceMul, hS.1, Int.le_refl]
  have fb := mxP_b (M := M) (B := 3000) (g := fun j => l.getD j 0) l.length (by omega) (fun j hj => (hc j (by omega)).2.2)
  rw [mxP_fm] at fb
  obtain ⟨x, hx⟩ : ∃ x, l.getD i 0 = x := ⟨_, rfl⟩
  rw [hx] at hci
  have l2 : ∀ S0 : Int, xloop xfu (fun v => fX12_dayCost_b93 v.1 v.2 (j32 m) (j32 i) (j32 t) ν) (l64 S0, j32 0) = some (l64 (S0 + sumTo (fun j => if j ≠ (i : Int) ∧ max M (l.getD j.toNat 0) < x then (x - max M (l.getD j.toNat 0)) * t else 0) l.length)) := by
    intro S0
    rw [hl]
    refine xloop_for (fun k : Nat => (l64 (S0 + sumTo (fun j => if j ≠ (i : Int) ∧ max M (l.getD j.toNat 0) < x then (x - max M (l.getD j.toNat 0)) * t else 0) k), j32 k)) G.length (by omega) (by show (l64 (S0 + 0), j32 0) = _; rw [Int.add_zero]) ?_ ?_
    · intro k hk
      have hck := hc k hk
      rw [sumTo_s]
      show fX12_dayCost_b93 (l64 _) (j32 k) _ _ _ ν = some (.inl (l64 (S0 + (_ + (if (k : Int) ≠ (i : Int) ∧ max M (l.getD (k : Int).toNat 0) < x then (x - max M (l.getD (k : Int).toNat 0)) * t else 0))), j32 ((k + 1 : Nat) : Int)))
      rw [Int.toNat_natCast]
      generalize sumTo (fun j => if j ≠ (i : Int) ∧ max M (l.getD j.toNat 0) < x then (x - max M (l.getD j.toNat 0)) * t else 0) k = S
      obtain ⟨y, hy⟩ : ∃ y, l.getD k 0 = y := ⟨_, rfl⟩
      rw [hy] at hck ⊢
      obtain ⟨Y, hY⟩ : ∃ Y, (if (k : Int) ≠ (i : Int) ∧ max M y < x then (x - max M y) * t else 0) = Y := ⟨_, rfl⟩
      rw [hY]
      have g : fX12_dayCost_j134 (j32 (max M y)) (j32 i) (j32 t) ν (l64 (S0 + S)) (j32 k) = some (.inl (l64 (S0 + (S + Y)), j32 ((k : Int) + 1))) := by
        unfold fX12_dayCost_j134
        by_cases c1 : (k : Int) = i
        · rw [if_neg (fun h => h.1 c1)] at hY
          rw [← hY, Int.add_zero]
          simp (disch := omega) only [Bool.false_eq_true, lits, jj, jc, jm, Int.cast_ofNat_Int, j_bi0, j_bi1, not_true, not_false_eq_true, if_true, if_false, xe, xok_some, Sum.elim_inl, Sum.elim_inr, Int.reduceEq, Int.reduceLT, Int.reduceLE, Int.reduceAdd, Int.reduceSub, Int.reduceMul, c1]
        · by_cases c2 : x ≤ max M y
          · rw [if_neg (fun h => by have := h.2; omega)] at hY
            rw [← hY, Int.add_zero]
            simp (disch := omega) only [Bool.false_eq_true, lits, jj, jc, jm, Int.cast_ofNat_Int, j_bi0, j_bi1, not_true, not_false_eq_true, if_true, if_false, xe, xok_some, Sum.elim_inl, Sum.elim_inr, Int.reduceEq, Int.reduceLT, Int.reduceLE, Int.reduceAdd, Int.reduceSub, Int.reduceMul, c1, hci.1, c2]
          · rw [if_pos ⟨c1, by omega⟩] at hY
            simp (disch := omega) only [Bool.false_eq_true, lits, jj, jc, jm, Int.cast_ofNat_Int, j_bi0, j_bi1, not_true, not_false_eq_true, if_true, if_false, xe, xok_some, Sum.elim_inl, Sum.elim_inr, Int.reduceEq, Int.reduceLT, Int.reduceLE, Int.reduceAdd, Int.reduceSub, Int.reduceMul, c1, hci.1, c2]
            rw [l_of (by omega), l_of (by omega), l_mul, l_add, hY, Int.add_assoc]
      unfold fX12_dayCost_b93
      by_cases c : y ≤ M
      · rw [show max M y = M by omega] at g
        simp (disch := omega) only [Bool.false_eq_true, lits, jj, jc, jm, Int.cast_ofNat_Int, j_bi0, j_bi1, not_true, not_false_eq_true, if_true, if_false, xe, xok_some, Sum.elim_inl, Sum.elim_inr, Int.reduceEq, Int.reduceLT, Int.reduceLE, Int.reduceAdd, Int.reduceSub, Int.reduceMul, hS.1, show ¬ (G.length : Int) ≤ k by omega, hck.1, e1, c]
        exact g
      · rw [show max M y = y by omega] at g
        simp (disch := omega) only [Bool.false_eq_true, lits, jj, jc, jm, Int.cast_ofNat_Int, j_bi0, j_bi1, not_true, not_false_eq_true, if_true, if_false, xe, xok_some, Sum.elim_inl, Sum.elim_inr, Int.reduceEq, Int.reduceLT, Int.reduceLE, Int.reduceAdd, Int.reduceSub, Int.reduceMul, hS.1, show ¬ (G.length : Int) ≤ k by omega, hck.1, e1, c]
        exact g
    · show fX12_dayCost_b93 _ (j32 G.length) _ _ _ ν = _
      unfold fX12_dayCost_b93
      simp (disch := omega) only [Bool.false_eq_true, lits, jj, jc, jm, Int.cast_ofNat_Int, j_bi0, j_bi1, not_true, not_false_eq_true, if_true, if_false, xe, xok_some, Sum.elim_inl, Sum.elim_inr, Int.reduceEq, Int.reduceLT, Int.reduceLE, Int.reduceAdd, Int.reduceSub, Int.reduceMul, hS.1, Int.le_refl]
  unfold fX12_dayCost dayL
  simp only [lits] at l1 l2 ⊢
  rw [j_gI (by omega), xbd_e, e1, l1, xbd_e, j_gI (by omega), xbd_e, hci.1, j_gI (by omega), xbd_e, hi1.1, xbd_e, j_mul, j_div (by omega) (by omega), Int.tdiv_eq_ediv_of_nonneg hM.1, j_add, j_gI (by omega), xbd_e, e2, xlt_e, j_sub, l_of (by omega), l_of (by omega), l_mul, l2, xbd_e, hx]
theorem drop_getD {l : List Int} {j : Nat} (h : j < l.length) : l.drop j = l.getD j 0 :: l.drop (j + 1) := by
  rw [List.drop_eq_getElem_cons h, List.getD_eq_getElem?_getD, List.getElem?_eq_getElem h]
  rfl
theorem j_xdiv {a b : Int} (ha : 0 ≤ a ∧ a < 1000000) (hb : 0 < b ∧ b < 1000000) : xdiv (j32 a) (j32 b) = some (j32 (a / b)) := by
  unfold xdiv
  have h1 : ¬ j32 b = 0 := by rw [show (0 : Int32) = j32 0 from rfl, j_eq (by omega) (by omega)]; omega
  rw [if_neg h1, j_div (by omega) (by omega), Int.tdiv_eq_ediv_of_nonneg ha.1]
/-- how many codes -/
def prN (n : Nat → Nat) : Nat → Nat
  | 0 => 1
  | k + 1 => prN n k * n k
theorem prN_sh {n : Nat → Nat} : ∀ k, prN n (k + 1) = n 0 * prN (fun j => n (j + 1)) k
  | 0 => by show 1 * n 0 = n 0 * 1; omega
  | k + 1 => by
    show prN n (k + 1) * n (k + 1) = n 0 * (prN (fun j => n (j + 1)) k * n (k + 1))
    rw [prN_sh k, Nat.mul_assoc]
theorem prN_NL {n : Int → Nat} : ∀ l : List Int, prN (fun j => n (l.getD j 0)) l.length = NLl n l
  | [] => rfl
  | x :: l => by
    rw [List.length_cons, prN_sh]
    show n x * prN (fun j => n (l.getD j 0)) l.length = n x * NLl n l
    rw [prN_NL l]
theorem prN_b {n : Nat → Nat} : ∀ k, (∀ j, j < k → n j ≤ 5) → prN n k ≤ 5 ^ k
  | 0, _ => Nat.le_refl _
  | k + 1, h => by
    have ih := prN_b k (fun j hj => h j (by omega))
    rw [Nat.pow_succ]
    exact Nat.mul_le_mul ih (h k (by omega))
/-- one code -/
theorem aw66 {A : xAs} {ν : xm} (hA : RH A ν) (hI : Inv A) {m b : Int} {G : List Int} {ah : Int → Int} (hm : 0 ≤ m ∧ m < A iM 1) (hb : 0 ≤ b ∧ b ≤ 1) (hS : RS G ah ν) (hG : G.length ≤ 4) (hG8 : ∀ y ∈ G, P8 y) (hah : ahB ah) {cd : Nat} (hcd : cd ≤ 10000) {W : Int} : ∃ q, xloop xfu (fun v => fX12_allWith_b66 v.1 v.2.1 v.2.2.1 v.2.2.2 (j32 m) (j32 b)) (j32 cd, l64 W, j32 0, ν) = some (l64 (W * wlC (nE A) (wWt A) G cd), q) ∧ frW ν q ∧ (clC (nE A) (cmF A (A iM_minuteOf m) ah b) G cd).length = G.length ∧ ∀ j : Nat, j < G.length → gi q iM_comesAt j = (clC (nE A) (cmF A (A iM_minuteOf m) ah b) G cd).getD j 0 ∧ -200 ≤ (clC (nE A) (cmF A (A iM_minuteOf m) ah b) G cd).getD j 0 ∧ (clC (nE A) (cmF A (A iM_minuteOf m) ah b) G cd).getD j 0 ≤ 3000 := by
  have hM := hI.minuteOf m hm.1 hm.2
  have hmt := hI.mt
  obtain ⟨M, hMe⟩ : ∃ M, A iM_minuteOf m = M := ⟨_, rfl⟩
  rw [hMe] at hM ⊢
  have key : xok (xloop xfu (fun v => fX12_allWith_b66 v.1 v.2.1 v.2.2.1 v.2.2.2 (j32 m) (j32 b)) (j32 cd, l64 W, j32 0, ν)) (fun r => r.1 = l64 (W * wlC (nE A) (wWt A) G cd) ∧ frW ν r.2 ∧ (clC (nE A) (cmF A M ah b) G cd).length = G.length ∧ ∀ j : Nat, j < G.length → gi r.2 iM_comesAt j = (clC (nE A) (cmF A M ah b) G cd).getD j 0 ∧ -200 ≤ (clC (nE A) (cmF A M ah b) G cd).getD j 0 ∧ (clC (nE A) (cmF A M ah b) G cd).getD j 0 ≤ 3000) := by
    refine xok_for (fun j s => s.2.2.1 = j32 j ∧ frW ν s.2.2.2 ∧ ∃ (cr : Nat) (wp : Int) (lp : List Int), cr ≤ 10000 ∧ s.1 = j32 cr ∧ s.2.1 = l64 wp ∧ lp.length = j ∧ wp * wlC (nE A) (wWt A) (G.drop j) cr = W * wlC (nE A) (wWt A) G cd ∧ lp ++ clC (nE A) (cmF A M ah b) (G.drop j) cr = clC (nE A) (cmF A M ah b) G cd ∧ ∀ j' : Nat, j' < j → gi s.2.2.2 iM_comesAt j' = lp.getD j' 0 ∧ -200 ≤ lp.getD j' 0 ∧ lp.getD j' 0 ≤ 3000) G.length (by omega) ⟨rfl, frW.rf, cd, W, [], hcd, rfl, rfl, rfl, rfl, rfl, fun j' h => by omega⟩ ?_ ?_
    · intro j s hj hs
      obtain ⟨s1, s2, s3, σ⟩ := s
      obtain ⟨g1, g2, cr, wp, lp, g3, g4, g5, g6, g7, g8, g9⟩ := hs
      simp only at g1 g2 g4 g5 g9
      subst g1; subst g4; subst g5
      have hAσ := g2.RH hA
      have hSσ := g2.RS hS
      have h1 := hSσ.2 j hj
      have hdr := drop_getD hj
      have hmem : G.getD j 0 ∈ G := by
        rw [List.getD_eq_getElem?_getD, List.getElem?_eq_getElem hj]
        exact List.getElem_mem hj
      rw [hdr] at g7 g8
      obtain ⟨y, hy⟩ : ∃ y, G.getD j 0 = y := ⟨_, rfl⟩
      rw [hy] at h1 hmem g7 g8
      have hy8 := hG8 y hmem
      have hay := hah y hy8
      have hn := wEnds_b hI hy8
      have f1 := eX12_endsOf hAσ hI hy8
      have hnE : ((nE A y : Nat) : Int) = wEnds A y := by unfold nE; omega
      have hpos : 0 < nE A y := by omega
      have hmod : cr % nE A y < nE A y := Nat.mod_lt _ hpos
      have hdiv : cr / nE A y ≤ cr := Nat.div_le_self _ _
      have hke : 0 ≤ ((cr % nE A y : Nat) : Int) ∧ ((cr % nE A y : Nat) : Int) < wEnds A y := by omega
      have f2 : xrem (j32 cr) (j32 (wEnds A y)) = some (j32 ((cr % nE A y : Nat) : Int)) := by
        rw [j_rem (by omega) (by omega), ← hnE]; rfl
      have f3 : xdiv (j32 cr) (j32 (wEnds A y)) = some (j32 ((cr / nE A y : Nat) : Int)) := by
        rw [j_xdiv (by omega) (by omega), ← hnE]; rfl
      have f4 := eX12_weightAt hAσ hI hy8 hke
      have f5 := eX12_wayAt hAσ hI hy8 hke hb
      have bw := wWt_b hI hy8 hke
      have bWy := wWay_b hI (b := b) hy8 hke
      have e1 : gi σ iM_minuteOf m = M := by rw [RH.at hAσ (by decide), hMe]
      obtain ⟨E, hE⟩ : ∃ E : Int, ((cr % nE A y : Nat) : Int) = E := ⟨_, rfl⟩
      rw [hE] at hke f2 f4 f5 bw bWy
      have ecm : M - ah y + wWay A y E b = cmF A M ah b y E := rfl
      have ew : wlC (nE A) (wWt A) (y :: G.drop (j + 1)) cr = wWt A y E * wlC (nE A) (wWt A) (G.drop (j + 1)) (cr / nE A y) := by rw [← hE]; rfl
      have ecl : clC (nE A) (cmF A M ah b) (y :: G.drop (j + 1)) cr = cmF A M ah b y E :: clC (nE A) (cmF A M ah b) (G.drop (j + 1)) (cr / nE A y) := by rw [← hE]; rfl
      rw [ew] at g7
      rw [ecl] at g8
      have st : fX12_allWith_b66 (j32 cr) (l64 wp) (j32 j) σ (j32 m) (j32 b) = some (.inl (j32 ((cr / nE A y : Nat) : Int), l64 (wp * wWt A y E), j32 ((j : Int) + 1), wr σ iM_comesAt j (cmF A M ah b y E))) := by
        unfold fX12_allWith_b66
        simp only [lits]
        rw [j_rd, show gi σ iM ((61 : Nat) : Int) = G.length from hSσ.1, if_neg (by rw [j_le (by omega) (by omega)]; omega), j_gI (by omega), xbd_e, h1.1, f1, xbd_e, f2, xbd_e, xbd_e, f1, xbd_e, f3, xbd_e, xbd_e, f4, xbd_e, xlt_e, l_of (by omega), l_mul, j_gI (by omega), xbd_e, e1, j_gI (by omega), xbd_e, h1.2, xbd_e, f5, xbd_e, j_sub, j_add, j_sI (by omega), xbd_e, xlt_e, j_add, ecm]
      show xok (fX12_allWith_b66 (j32 cr) (l64 wp) (j32 j) σ _ _) _
      rw [st, xok_some]
      have hcb : -200 ≤ cmF A M ah b y E ∧ cmF A M ah b y E ≤ 3000 := by rw [← ecm]; omega
      refine ⟨rfl, g2.tr (fun o ho => gi_wr_f ho), cr / nE A y, wp * wWt A y E, lp ++ [cmF A M ah b y E], by omega, rfl, rfl, by rw [List.length_append, g6]; rfl, by rw [Int.mul_assoc]; exact g7, by rw [List.append_assoc]; exact g8, fun j' hj' => ?_⟩
      show gi (wr σ _ _ _) _ _ = _ ∧ _
      by_cases c : j' = j
      · subst c
        have : (lp ++ [cmF A M ah b y E]).getD j' 0 = cmF A M ah b y E := by
          have := getD_app2 (l1 := lp) (l2 := [cmF A M ah b y E]) (j := 0)
          rw [g6, Nat.add_zero] at this
          rw [this]; rfl
        rw [this, gi_wr (by omega)]
        exact ⟨rfl, hcb⟩
      · rw [gi_wr_z (by omega), getD_app1 (by omega)]
        exact g9 j' (by omega)
    · intro s hs
      obtain ⟨s1, s2, s3, σ⟩ := s
      obtain ⟨g1, g2, cr, wp, lp, g3, g4, g5, g6, g7, g8, g9⟩ := hs
      simp only at g1 g2 g4 g5 g9
      subst g1; subst g4; subst g5
      have hSσ := g2.RS hS
      rw [List.drop_length] at g7 g8
      have g8' : lp = clC (nE A) (cmF A M ah b) G cd := by
        have : lp ++ [] = clC (nE A) (cmF A M ah b) G cd := g8
        rw [List.append_nil] at this; exact this
      show xok (fX12_allWith_b66 (j32 cr) (l64 wp) (j32 G.length) σ _ _) _
      unfold fX12_allWith_b66
      simp (disch := omega) only [Bool.false_eq_true, lits, jj, jc, jm, Int.cast_ofNat_Int, j_bi0, j_bi1, not_true, not_false_eq_true, if_true, if_false, xe, xok_some, Sum.elim_inl, Sum.elim_inr, Int.reduceEq, Int.reduceLT, Int.reduceLE, Int.reduceAdd, Int.reduceSub, Int.reduceMul, hSσ.1, Int.le_refl]
      have g7' : wp * 1 = W * wlC (nE A) (wWt A) G cd := g7
      rw [Int.mul_one] at g7'
      exact ⟨by rw [g7'], g2, by rw [← g8']; exact g6, by rw [← g8']; exact g9⟩
  obtain ⟨r, r1, r2, r3, r4, r5⟩ := key
  exact ⟨r.2, by rw [r1, ← r2], r3, r4, r5⟩
theorem all_ok {A : xAs} {ν : xm} (hA : RH A ν) (hI : Inv A) {m t b : Int} {G : List Int} {ah : Int → Int} {i : Nat} (hm : 0 ≤ m ∧ m < A iM 1) (ht : 0 ≤ t ∧ t ≤ 99) (hb : 0 ≤ b ∧ b ≤ 1) (hS : RS G ah ν) (hG : G.length ≤ 4) (hG8 : ∀ y ∈ G, P8 y) (hi : i < G.length) (hah : ahB ah) : ∃ ν', fX12_allWith (j32 m) (j32 i) (j32 t) (j32 b) ν = some (l64 (bW A b * EXA A (A iM_minuteOf m) ah b G (dayL (A iM_minuteOf m) (A iM_worthOf (24 * G.getD i 0 + A iM_minuteOf m / 60)) t i)), ν') ∧ frW ν ν' := by
  have hgm : ∀ j, j < G.length → G.getD j 0 ∈ G := fun j hj => by
    rw [List.getD_eq_getElem?_getD, List.getElem?_eq_getElem hj]
    exact List.getElem_mem hj
  have hn5 : ∀ j, j < G.length → nE A (G.getD j 0) ≤ 5 ∧ 1 ≤ nE A (G.getD j 0) := fun j hj => by
    have := wEnds_b hI (hG8 _ (hgm j hj))
    unfold nE; omega
  have hNL : NLl (nE A) G ≤ 625 := by
    rw [← prN_NL]
    refine Nat.le_trans (prN_b G.length (fun j hj => (hn5 j hj).1)) ?_
    exact Nat.le_trans (Nat.pow_le_pow_right (by omega) hG) (Nat.le_refl _)
  have l1 : xloop xfu (fun v => fX12_allWith_b6 v.1 v.2 ν) (j32 1, j32 0) = some (j32 (NLl (nE A) G : Nat)) := by
    rw [← prN_NL]
    refine xloop_for (fun k : Nat => (j32 (prN (fun j => nE A (G.getD j 0)) k : Nat), j32 k)) G.length (by omega) rfl ?_ ?_
    · intro k hk
      have h1 := hS.2 k hk
      have f1 := eX12_endsOf hA hI (hG8 _ (hgm k hk))
      have hn := wEnds_b hI (hG8 _ (hgm k hk))
      have e : prN (fun j => nE A (G.getD j 0)) (k + 1) = prN (fun j => nE A (G.getD j 0)) k * nE A (G.getD k 0) := rfl
      show fX12_allWith_b6 (j32 (prN (fun j => nE A (G.getD j 0)) k : Nat)) (j32 k) ν = some (.inl (j32 ((prN (fun j => nE A (G.getD j 0)) (k + 1) : Nat) : Int), _))
      rw [e]
      generalize prN (fun j => nE A (G.getD j 0)) k = X
      unfold fX12_allWith_b6
      simp only [lits]
      rw [j_rd, show gi ν iM ((61 : Nat) : Int) = G.length from hS.1, if_neg (by rw [j_le (by omega) (by omega)]; omega), j_gI (by omega), xbd_e, h1.1, f1, xbd_e, xlt_e, j_mul, xlt_e, j_add, show wEnds A (G.getD k 0) = ((nE A (G.getD k 0) : Nat) : Int) by unfold nE; omega]
      rfl
    · show fX12_allWith_b6 _ (j32 G.length) ν = _
      unfold fX12_allWith_b6
      simp (disch := omega) only [Bool.false_eq_true, lits, jj, jc, jm, Int.cast_ofNat_Int, j_bi0, j_bi1, not_true, not_false_eq_true, if_true, if_false, xe, xok_some, Sum.elim_inl, Sum.elim_inr, Int.reduceEq, Int.reduceLT, Int.reduceLE, Int.reduceAdd, Int.reduceSub, Int.reduceMul, hS.1, Int.le_refl]
  obtain ⟨N, hN⟩ : ∃ N, NLl (nE A) G = N := ⟨_, rfl⟩
  rw [hN] at hNL l1
  have bwb := bW_b hI (b := b)
  obtain ⟨F, hF⟩ : ∃ F : List Int → Int, F = dayL (A iM_minuteOf m) (A iM_worthOf (24 * G.getD i 0 + A iM_minuteOf m / 60)) t i := ⟨_, rfl⟩
  have key : xok (xloop xfu (fun v => fX12_allWith_b43 v.1 v.2.1 v.2.2 (j32 m) (j32 i) (j32 t) (j32 b) (j32 N)) (l64 0, j32 0, ν)) (fun r => r.1 = l64 (bW A b * EXA A (A iM_minuteOf m) ah b G F) ∧ frW ν r.2) := by
    refine xok_for (fun k s => s.1 = l64 (sumTo (fun c => bW A b * (wlC (nE A) (wWt A) G c.toNat * F (clC (nE A) (cmF A (A iM_minuteOf m) ah b) G c.toNat))) k) ∧ s.2.1 = j32 k ∧ frW ν s.2.2) N (by omega) ⟨rfl, rfl, frW.rf⟩ ?_ ?_
    · intro k s hk hs
      obtain ⟨s1, s2, σ⟩ := s
      obtain ⟨g1, g2, g3⟩ := hs
      simp only at g1 g2 g3
      subst g1; subst g2
      have hAσ := g3.RH hA
      have hSσ := g3.RS hS
      have f1 : fX12_bridgeWeight (j32 b) σ = some (j32 (bW A b)) := eX12_bridgeWeight hAσ hb
      obtain ⟨q, q1, q2, q3, q4⟩ := aw66 hAσ hI hm hb hSσ hG hG8 hah (cd := k) (by omega) (W := bW A b)
      have f2 := day_ok (q2.RH hAσ) hI (t := t) hm ht (q2.RS hSσ) hG (hG8 _ (hgm i hi)) hi q3 q4
      rw [← hF] at f2
      show xok (fX12_allWith_b43 (l64 _) (j32 k) σ _ _ _ _ _) _
      unfold fX12_allWith_b43
      simp only [lits] at q1 ⊢
      rw [if_neg (by rw [j_le (by omega) (by omega)]; omega), f1, xbd_e, xlt_e, l_of (by omega), q1, xbd_e, f2, xbd_e, l_mul, l_add, xlt_e, xlt_e, j_add, xok_some]
      refine ⟨?_, rfl, g3.tr q2⟩
      show l64 _ = l64 (sumTo _ (k + 1))
      rw [sumTo_s, Int.toNat_natCast, Int.mul_assoc]
    · intro s hs
      obtain ⟨s1, s2, σ⟩ := s
      obtain ⟨g1, g2, g3⟩ := hs
      simp only at g1 g2 g3
      subst g1; subst g2
      show xok (fX12_allWith_b43 (l64 _) (j32 N) σ _ _ _ _ _) _
      unfold fX12_allWith_b43
      simp (disch := omega) only [Bool.false_eq_true, lits, jj, jc, jm, Int.cast_ofNat_Int, j_bi0, j_bi1, not_true, not_false_eq_true, if_true, if_false, xe, xok_some, Sum.elim_inl, Sum.elim_inr, Int.reduceEq, Int.reduceLT, Int.reduceLE, Int.reduceAdd, Int.reduceSub, Int.reduceMul, Int.le_refl]
      refine ⟨?_, g3⟩
      rw [sumTo_mul, ← hN, code_sum (fun y hy => by have := wEnds_b hI (hG8 y hy); unfold nE; omega)]
  obtain ⟨r, r1, r2, r3⟩ := key
  refine ⟨r.2, ?_, r3⟩
  rw [← hF]
  unfold fX12_allWith
  simp only [lits] at l1 r1 ⊢
  rw [l1, xbd_e, show (0 : Int64) = l64 0 from rfl, r1, xbd_e, r2]
