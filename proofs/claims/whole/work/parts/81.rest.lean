/-! rest: both -/
abbrev gO (o : Nat) : Prop := o = iM_goer ∨ o = iM_aheadOf ∨ o = iM_comesAt
/-- what the reference writes for rest -/
def frX (μ ν : xm) : Prop := (∀ o, o ≠ iM → ¬ gO o → gi ν o = gi μ o) ∧ ∀ z, 0 ≤ z → z ≠ 61 → gi ν iM z = gi μ iM z
theorem frX.rf {μ : xm} : frX μ μ := ⟨fun _ _ _ => rfl, fun _ _ _ => rfl⟩
theorem frX.tr {μ ν ρ : xm} (h1 : frX μ ν) (h2 : frX ν ρ) : frX μ ρ := ⟨fun o a b => (h2.1 o a b).trans (h1.1 o a b), fun z a b => (h2.2 z a b).trans (h1.2 z a b)⟩
theorem frW.x {μ ν : xm} (h : frW μ ν) : frX μ ν := ⟨fun o a b => h o (fun e => b (Or.inr (Or.inr e))), fun z _ _ => by rw [h iM (by decide)]⟩
theorem frX.w {ν : xm} {o : Nat} {z v : Int} (h : gO o) : frX ν (wr ν o z v) := ⟨fun a _ q => gi_wr_f (fun e => q (e ▸ h)), fun y _ _ => gi_wr_o (by rcases h with rfl | rfl | rfl <;> decide)⟩
theorem frX.RH {A : xAs} {μ ν : xm} (h : frX μ ν) (hA : RH A μ) : RH A ν := by
  refine RH.mk (fun o ho => (h.1 o (by rintro rfl; exact absurd ho (by decide)) (fun e => by rcases e with rfl | rfl | rfl <;> exact absurd ho (by decide))).trans (RH.at hA ho)) ?_
  obtain ⟨a1, a2, a3, a4, a5, a6, a7, a8, a9, a10, a11⟩ := RH.sc hA
  exact ⟨(h.2 0 (by decide) (by decide)).trans a1, (h.2 1 (by decide) (by decide)).trans a2, (h.2 2 (by decide) (by decide)).trans a3, (h.2 3 (by decide) (by decide)).trans a4, (h.2 11 (by decide) (by decide)).trans a5, (h.2 20 (by decide) (by decide)).trans a6, (h.2 37 (by decide) (by decide)).trans a7, (h.2 53 (by decide) (by decide)).trans a8, (h.2 54 (by decide) (by decide)).trans a9, (h.2 55 (by decide) (by decide)).trans a10, (h.2 56 (by decide) (by decide)).trans a11⟩
theorem frX.o {μ ν : xm} (h : frX μ ν) : frO μ ν := ⟨fun o a => h.1 o (by show o ≠ 61; omega) (fun e => by rcases e with rfl | rfl | rfl <;> revert a <;> decide), fun o a => h.1 o (by show o ≠ 61; omega) (fun e => by rcases e with rfl | rfl | rfl <;> revert a <;> decide), h.2 20 (by decide) (by decide)⟩
theorem getD_snoc {l : List Int} {x : Int} : (l ++ [x]).getD l.length 0 = x := by
  have := getD_app2 (l1 := l) (l2 := [x]) (j := 0)
  rw [Nat.add_zero] at this
  rw [this]; rfl
theorem lays_ok {A : xAs} {μ : xm} (hA : RH A μ) (hI : Inv A) {m : Int} (hm : 0 ≤ m ∧ m < A iM 1) (h4 : pc (A iM_peopleOf m) ≤ 4) : ∃ ν, fX12_laysGoers (j32 m) μ = some ν ∧ RS (gLp (A iM_peopleOf m) 8) (fun _ => 0) ν ∧ frX μ ν := by
  have hmt := hI.mt
  have hP := hI.peopleOf m hm.1 hm.2
  have hlen := gLp_len hP
  obtain ⟨P, hPe⟩ : ∃ P, A iM_peopleOf m = P := ⟨_, rfl⟩
  rw [hPe] at hlen h4 ⊢
  have f0 : frX μ (wr μ iM 61 0) := ⟨fun o a _ => gi_wr_f a, fun z a b => gi_wr_z (by omega)⟩
  have key : xok (xloop xfu (fun v => fX12_laysGoers_b7 v.1 v.2 (j32 m)) (j32 0, wr μ iM 61 0)) (fun ν => RS (gLp P 8) (fun _ => 0) ν ∧ frX μ ν) := by
    refine xok_for (fun k s => s.1 = j32 k ∧ RS (gLp P k) (fun _ => 0) s.2 ∧ frX μ s.2) 8 (by omega) ⟨rfl, ⟨gi_wr (by omega), fun j hj => absurd hj (Nat.not_lt_zero _)⟩, f0⟩ ?_ ?_
    · intro k s hk hs
      obtain ⟨s1, σ⟩ := s
      obtain ⟨g1, g2, g3⟩ := hs
      simp only at g1 g2 g3
      subst g1
      have hAσ := g3.RH hA
      have e1 := eX12_isOf hAσ hI (m := m) (p := k) (by omega) (by omega)
      rw [show bi (isOf A m k) = bi (inc P k) by unfold bi; simp only [isOf_inc hm, hPe]] at e1
      rw [gLp_s]
      by_cases c : inc P k
      · obtain ⟨post, h1, _⟩ := gLp_8 c
        have hl2 : (gLp P k).length + 1 ≤ (gLp P 8).length := by rw [h1, List.length_append, List.length_cons]; omega
        obtain ⟨n, hn⟩ : ∃ n, (gLp P k).length = n := ⟨_, rfl⟩
        have g2' := g2.1
        rw [hn] at hl2 g2'
        obtain ⟨σ1, hσ1⟩ : ∃ σ1, σ1 = wr σ iM_goer n k := ⟨_, rfl⟩
        obtain ⟨σ2, hσ2⟩ : ∃ σ2, σ2 = wr σ1 iM_aheadOf n 0 := ⟨_, rfl⟩
        have q1 : gi σ1 iM 61 = n := by rw [hσ1, gi_wr_o (by decide)]; exact g2'
        have q2 : gi σ2 iM 61 = n := by rw [hσ2, gi_wr_o (by decide)]; exact q1
        have st : fX12_laysGoers_b7 (j32 k) σ (j32 m) = some (.inl (j32 ((k : Int) + 1), wr σ2 iM 61 ((n : Int) + 1))) := by
          unfold fX12_laysGoers_b7
          simp (disch := omega) only [Bool.false_eq_true, lits, jj, jc, jm, Int.cast_ofNat_Int, j_bi0, j_bi1, not_true, not_false_eq_true, if_true, if_false, xe, xok_some, Sum.elim_inl, Sum.elim_inr, Int.reduceEq, Int.reduceLT, Int.reduceLE, Int.reduceAdd, Int.reduceSub, Int.reduceMul, show ¬ (8 : Int) ≤ k by omega, e1, eq_true c, g2']
          rw [← hσ1]
          simp (disch := omega) only [Bool.false_eq_true, lits, jj, jc, jm, Int.cast_ofNat_Int, j_bi0, j_bi1, not_true, not_false_eq_true, if_true, if_false, xe, xok_some, Sum.elim_inl, Sum.elim_inr, Int.reduceEq, Int.reduceLT, Int.reduceLE, Int.reduceAdd, Int.reduceSub, Int.reduceMul, q1]
          rw [← hσ2]
          simp (disch := omega) only [Bool.false_eq_true, lits, jj, jc, jm, Int.cast_ofNat_Int, j_bi0, j_bi1, not_true, not_false_eq_true, if_true, if_false, xe, xok_some, Sum.elim_inl, Sum.elim_inr, Int.reduceEq, Int.reduceLT, Int.reduceLE, Int.reduceAdd, Int.reduceSub, Int.reduceMul, q2]
        show xok (fX12_laysGoers_b7 (j32 k) σ _) _
        rw [st, xok_some, if_pos c]
        refine ⟨rfl, ⟨?_, fun j hj => ?_⟩, g3.tr ⟨fun o a b => ?_, fun z a b => ?_⟩⟩
        · show gi (wr σ2 _ _ _) _ _ = _
          rw [gi_wr (by omega), List.length_append, hn]; rfl
        · show gi (wr σ2 _ _ _) _ _ = _ ∧ gi (wr σ2 _ _ _) _ _ = (0 : Int)
          rw [List.length_append, hn] at hj
          have hj' : j < n + 1 := hj
          rw [gi_wr_o (by decide), gi_wr_o (by decide), hσ2, gi_wr_o (by decide), gi_wr_if (by omega) (by omega), hσ1, gi_wr_if (by omega) (by omega), gi_wr_o (by decide)]
          by_cases d : j = n
          · rw [if_pos (by omega), if_pos (by omega), d, ← hn, getD_snoc]
            exact ⟨rfl, rfl⟩
          · have := g2.2 j (by omega)
            rw [if_neg (by omega), if_neg (by omega), getD_app1 (by omega)]
            exact this
        · show gi (wr σ2 _ _ _) o = _
          rw [gi_wr_f a, hσ2, gi_wr_f (fun e => b (Or.inr (Or.inl e))), hσ1, gi_wr_f (fun e => b (Or.inl e))]
        · show gi (wr σ2 _ _ _) _ _ = _
          rw [gi_wr_z (by omega), hσ2, gi_wr_o (by decide), hσ1, gi_wr_o (by decide)]
      · rw [if_neg c]
        unfold fX12_laysGoers_b7
        simp (disch := omega) only [Bool.false_eq_true, lits, jj, jc, jm, Int.cast_ofNat_Int, j_bi0, j_bi1, not_true, not_false_eq_true, if_true, if_false, xe, xok_some, Sum.elim_inl, Sum.elim_inr, Int.reduceEq, Int.reduceLT, Int.reduceLE, Int.reduceAdd, Int.reduceSub, Int.reduceMul, show ¬ (8 : Int) ≤ k by omega, e1, eq_false c]
        exact ⟨by first | rfl | trivial, g2, g3⟩
    · intro s hs
      obtain ⟨s1, σ⟩ := s
      obtain ⟨g1, g2, g3⟩ := hs
      simp only at g1 g2 g3
      subst g1
      show xok (fX12_laysGoers_b7 (j32 (8 : Nat)) σ _) _
      unfold fX12_laysGoers_b7
      simp (disch := omega) only [Bool.false_eq_true, lits, jj, jc, jm, Int.cast_ofNat_Int, j_bi0, j_bi1, not_true, not_false_eq_true, if_true, if_false, xe, xok_some, Sum.elim_inl, Sum.elim_inr, Int.reduceEq, Int.reduceLT, Int.reduceLE, Int.reduceAdd, Int.reduceSub, Int.reduceMul, show ((8 : Nat) : Int) = 8 from rfl]
      exact ⟨g2, g3⟩
  obtain ⟨ν, r1, r2, r3⟩ := key
  refine ⟨ν, ?_, r2, r3⟩
  unfold fX12_laysGoers
  simp only [lits] at r1 ⊢
  rw [j_pI, xlt_e]
  show xbd (xloop xfu _ (j32 0, wr μ iM 61 0)) _ = _
  rw [r1, xbd_e]
/-- the i-th is p, and none else is -/
theorem gLp_at {P : Int} {k : Nat} (hk : inc P k) : (gLp P 8).getD (gLp P k).length 0 = k ∧ (gLp P k).length < (gLp P 8).length ∧ ∀ j, j < (gLp P 8).length → j ≠ (gLp P k).length → (gLp P 8).getD j 0 ≠ k := by
  obtain ⟨post, h1, h2⟩ := gLp_8 hk
  have hne := oLp_ne (P := P) (p := k) 8
  rw [h2] at hne
  rw [h1]
  refine ⟨?_, by rw [List.length_append, List.length_cons]; omega, fun j hj hjk => ?_⟩
  · have := getD_app2 (l1 := gLp P k) (l2 := (k : Int) :: post) (j := 0)
    rw [Nat.add_zero] at this
    rw [this]; rfl
  · have hm : ∀ (l : List Int) (i : Nat), i < l.length → l.getD i 0 ∈ l := fun l i hi => by
      rw [List.getD_eq_getElem?_getD, List.getElem?_eq_getElem hi]
      exact List.getElem_mem hi
    rw [List.length_append, List.length_cons] at hj
    by_cases c : j < (gLp P k).length
    · rw [getD_app1 c]
      exact hne _ (List.mem_append_left _ (hm _ _ c))
    · obtain ⟨r, rfl⟩ : ∃ r, j = (gLp P k).length + (r + 1) := ⟨j - (gLp P k).length - 1, by omega⟩
      rw [getD_app2, show ((k : Int) :: post).getD (r + 1) 0 = post.getD r 0 from rfl]
      exact hne _ (List.mem_append_right _ (hm _ _ (by omega)))
theorem RS_w {P : Int} {k : Nat} (hk : inc P k) {ah : Int → Int} {ν : xm} (hS : RS (gLp P 8) ah ν) {v : Int} (hv : -2147483648 ≤ v ∧ v < 2147483648) : RS (gLp P 8) (up1 ah k v) (wr ν iM_aheadOf (gLp P k).length v) := by
  obtain ⟨h1, h2, h3⟩ := gLp_at hk
  refine ⟨by rw [gi_wr_o (by decide)]; exact hS.1, fun j hj => ?_⟩
  rw [gi_wr_o (by decide), gi_wr_if (by omega) hv]
  refine ⟨(hS.2 j hj).1, ?_⟩
  by_cases c : j = (gLp P k).length
  · rw [if_pos (by omega), c, h1, up1_s]
  · rw [if_neg (by omega), up1_n (h3 j hj c)]; exact (hS.2 j hj).2
theorem chg_ok {A : xAs} {ν : xm} (hA : RH A ν) (hI : Inv A) {m t : Int} {ah : Int → Int} {k : Nat} (hm : 0 ≤ m ∧ m < A iM 1) (h4 : pc (A iM_peopleOf m) ≤ 4) (ht : 0 ≤ t ∧ t ≤ 99) (hk : inc (A iM_peopleOf m) k) (hah : ahB ah) (hS : RS (gLp (A iM_peopleOf m) 8) ah ν) : ∃ ν', fX12_changes (j32 m) (j32 (gLp (A iM_peopleOf m) k).length) (j32 t) ν = some (j32 (if nAf A m t ah k = ah k then 0 else 1), ν') ∧ RS (gLp (A iM_peopleOf m) 8) (up1 ah k (nAf A m t ah k)) ν' ∧ frX ν ν' := by
  have hP := hI.peopleOf m hm.1 hm.2
  have hlen := gLp_len hP
  have hinc := gLp_inc (P := A iM_peopleOf m) 8
  obtain ⟨P, hPe⟩ : ∃ P, A iM_peopleOf m = P := ⟨_, rfl⟩
  rw [hPe] at hlen h4 hk hS hinc ⊢
  have hG4 : (gLp P 8).length ≤ 4 := by omega
  have hG8 : ∀ y ∈ gLp P 8, P8 y := fun y hy => ⟨(hinc y hy).1, (hinc y hy).2.1⟩
  obtain ⟨a1, a2, a3⟩ := gLp_at hk
  have hk8 : P8 (k : Int) := ⟨hk.1, hk.2.1⟩
  obtain ⟨i, hi⟩ : ∃ i, (gLp P k).length = i := ⟨_, rfl⟩
  have hSi := hS.2 _ a2
  rw [a1] at hSi
  rw [hi] at a1 a2 hSi ⊢
  have hb := hah k hk8
  obtain ⟨cF, hcF⟩ : ∃ cF : Int → Int64, cF = fun i => l64 (cRst A m t ah k 2 i) := ⟨_, rfl⟩
  have cost : ∀ (j : Nat) {σ : xm}, j ≤ 24 → RH A σ → RS (gLp P 8) (up1 ah k (5 * (j : Int))) σ → ∃ x y σ1 σ2, fX12_allWith (j32 m) (j32 i) (j32 t) (j32 0) σ = some (x, σ1) ∧ fX12_allWith (j32 m) (j32 i) (j32 t) (j32 1) σ1 = some (y, σ2) ∧ x + y = cF j ∧ frW σ σ2 := fun j {σ} hj hAσ hSσ => by
    have hah' : ahB (up1 ah k (5 * (j : Int))) := fun z hz => by
      by_cases e : z = k
      · rw [e, up1_s]; omega
      · rw [up1_n e]; exact hah z hz
    obtain ⟨σ1, r1, r2⟩ := all_ok hAσ hI hm ht (b := 0) (by omega) hSσ hG4 hG8 a2 hah'
    obtain ⟨σ2, u1, u2⟩ := all_ok (r2.RH hAσ) hI hm ht (b := 1) (by omega) (r2.RS hSσ) hG4 hG8 a2 hah'
    refine ⟨_, _, σ1, σ2, r1, u1, ?_, r2.tr u2⟩
    rw [l_add, hcF]
    have q := fun b => rest_eq (A := A) (M := A iM_minuteOf m) (b := b) (P := P) (a := 5 * (j : Int)) (wo := A iM_worthOf (24 * (k : Int) + A iM_minuteOf m / 60)) (t := t) (ah := ah) (ah' := up1 ah k (5 * (j : Int))) hk up1_s (fun y hy => up1_n hy)
    rw [hi] at q
    rw [a1, q, q]
    show l64 _ = l64 (0 + _ + _)
    unfold cstE
    rw [hPe, Int.zero_add]
    rfl
  have key : xok (xloop xfu (fun v => fX12_changes_b17 v.1 v.2.1 v.2.2.1 v.2.2.2 (j32 m) (j32 i) (j32 t)) (j32 0, 0, j32 0, ν)) (fun r => r.1 = j32 (5 * (amF cF 24 : Nat)) ∧ (∃ v, RS (gLp P 8) (up1 ah k v) r.2) ∧ frX ν r.2) := by
    refine xok_for (fun j s => s.2.2.1 = j32 (5 * j) ∧ (1 ≤ j → s.1 = j32 (5 * (amF cF (j - 1) : Nat)) ∧ s.2.1 = cF (amF cF (j - 1) : Nat)) ∧ (∃ v, RS (gLp P 8) (up1 ah k v) s.2.2.2) ∧ frX ν s.2.2.2) 25 (by omega) ⟨rfl, fun h => by omega, ⟨ah k, ?_⟩, frX.rf⟩ ?_ ?_
    · have : up1 ah k (ah k) = ah := by
        funext z
        by_cases e : z = k
        · rw [e, up1_s]
        · rw [up1_n e]
      show RS _ (up1 ah k (ah k)) ν
      rw [this]; exact hS
    · intro j s hj hs
      obtain ⟨s1, s2, s3, σ⟩ := s
      obtain ⟨g1, g2, ⟨v, g3⟩, g4⟩ := hs
      simp only at g1 g2 g3 g4
      subst g1
      have w1 := RS_w hk g3 (v := 5 * (j : Int)) (by omega)
      rw [hi] at w1
      have w2 : up1 (up1 ah k v) k (5 * (j : Int)) = up1 ah k (5 * (j : Int)) := by
        funext z
        by_cases e : z = k
        · rw [e, up1_s, up1_s]
        · rw [up1_n e, up1_n e, up1_n e]
      rw [w2] at w1
      have fr1 : frX σ (wr σ iM_aheadOf i (5 * (j : Int))) := frX.w (Or.inr (Or.inl rfl))
      obtain ⟨x, y, σ1, σ2, r1, r2, r3, r4⟩ := cost j (by omega) ((g4.tr fr1).RH hA) w1
      have am := amF_le (c := cF) (j - 1)
      have fin : RS (gLp P 8) (up1 ah k (5 * (j : Int))) σ2 := r4.RS w1
      have frf : frX ν σ2 := (g4.tr fr1).tr r4.x
      have e5 : (5 * (j : Int) + 5) = 5 * ((j + 1 : Nat) : Int) := by omega
      show xok (fX12_changes_b17 s1 s2 (j32 (5 * (j : Int))) σ _ _ _) _
      have pre : ∀ X, (if j32 (5 * (j : Int)) ≤ j32 0 then fX12_changes_j67 (j32 (5 * (j : Int))) (y, σ2) (cF j) else if lg_cmp (cF j) s2 < 0 then fX12_changes_j67 (j32 (5 * (j : Int))) (y, σ2) (cF j) else some (.inl (s1, s2, j32 (5 * (j : Int)) + j32 5, σ2))) = X → fX12_changes_b17 s1 s2 (j32 (5 * (j : Int))) σ (j32 m) (j32 i) (j32 t) = X := by
        intro X hX
        unfold fX12_changes_b17
        rw [← hX]
        have l0 : (0 : Int32) = j32 0 := rfl
        have l1 : (1 : Int32) = j32 1 := rfl
        have l5 : (5 : Int32) = j32 5 := rfl
        have l120 : (120 : Int32) = j32 120 := rfl
        rw [l120, if_neg (by rw [j_lt (by omega) (by omega)]; omega), j_sI (by omega), xbd_e, l0, r1, xbd_e, l1]
        show xbd (fX12_allWith (j32 m) (j32 i) (j32 t) (j32 1) σ1) _ = _
        rw [r2, xbd_e, xlt_e, l5]
        show (if j32 (5 * (j : Int)) ≤ j32 0 then fX12_changes_j67 (j32 (5 * (j : Int))) (y, σ2) (x + y) else if lg_cmp (x + y) s2 < j32 0 then fX12_changes_j67 (j32 (5 * (j : Int))) (y, σ2) (x + y) else xlt (j32 (5 * (j : Int)) + j32 5) fun x12 => some (.inl (s1, s2, x12, σ2))) = _
        rw [r3]
        rfl
      have j67 : fX12_changes_j67 (j32 (5 * (j : Int))) (y, σ2) (cF j) = some (.inl (j32 (5 * (j : Int)), cF j, j32 (5 * ((j + 1 : Nat) : Int)), σ2)) := by
        unfold fX12_changes_j67
        rw [show (5 : Int32) = j32 5 from rfl, j_add, e5]
        rfl
      by_cases c0 : j = 0
      · subst c0
        rw [pre _ (if_pos (by rw [j_le (by omega) (by omega)]; omega)), j67, xok_some]
        exact ⟨rfl, fun _ => ⟨rfl, rfl⟩, ⟨_, fin⟩, frf⟩
      · obtain ⟨h1, h2⟩ := g2 (by omega)
        have ea : amF cF (j + 1 - 1) = if lg_cmp (cF (j : Int)) (cF (amF cF (j - 1) : Nat)) < 0 then j else amF cF (j - 1) := by
          obtain ⟨r, rfl⟩ : ∃ r, j = r + 1 := ⟨j - 1, by omega⟩
          rfl
        by_cases c1 : lg_cmp (cF j) s2 < 0
        · rw [pre _ (by rw [if_neg (by rw [j_le (by omega) (by omega)]; omega), if_pos c1]), j67, xok_some]
          rw [h2] at c1
          rw [if_pos c1] at ea
          exact ⟨rfl, fun _ => by rw [ea]; exact ⟨rfl, rfl⟩, ⟨_, fin⟩, frf⟩
        · rw [pre _ (by rw [if_neg (by rw [j_le (by omega) (by omega)]; omega), if_neg c1]), xok_some, j_add, e5]
          rw [h2] at c1
          rw [if_neg c1] at ea
          exact ⟨rfl, fun _ => by rw [ea]; exact ⟨h1, h2⟩, ⟨_, fin⟩, frf⟩
    · intro s hs
      obtain ⟨s1, s2, s3, σ⟩ := s
      obtain ⟨g1, g2, g3, g4⟩ := hs
      simp only at g1 g2 g3 g4
      subst g1
      obtain ⟨h1, h2⟩ := g2 (by omega)
      show xok (fX12_changes_b17 s1 s2 (j32 (5 * ((25 : Nat) : Int))) σ _ _ _) _
      unfold fX12_changes_b17
      rw [show (120 : Int32) = j32 120 from rfl, if_pos (by rw [j_lt (by omega) (by omega)]; omega), xok_some]
      exact ⟨h1, g3, g4⟩
  obtain ⟨r, r1, r2, ⟨v, r3⟩, r4⟩ := key
  obtain ⟨r, σ⟩ := r
  simp only at r2 r3 r4
  subst r2
  have eN : (5 * ((amF cF 24 : Nat) : Int)) = nAf A m t ah k := by rw [hcF]; rfl
  rw [eN] at r1
  have nb := nAf_b (A := A) (m := m) (t := t) (p := k) (ah := ah)
  generalize nAf A m t ah k = N at *
  have w1 := RS_w hk r3 (v := N) (by omega)
  rw [hi] at w1
  have w2 : up1 (up1 ah k v) k N = up1 ah k N := by
    funext z
    by_cases e : z = k
    · rw [e, up1_s, up1_s]
    · rw [up1_n e, up1_n e, up1_n e]
  rw [w2] at w1
  refine ⟨wr σ iM_aheadOf i N, ?_, w1, r4.tr (frX.w (Or.inr (Or.inl rfl)))⟩
  unfold fX12_changes
  simp only [lits] at r1 ⊢
  rw [j_gI (by omega), xbd_e, hSi.2, r1, xbd_e]
  show xbd (xsI σ iM_aheadOf 4 (j32 i) (j32 N)) (fun μ14 => if j32 N = j32 (ah k) then some (j32 0, μ14) else some (j32 1, μ14)) = _
  rw [j_sI (by omega), xbd_e]
  by_cases c : N = ah k
  · rw [if_pos (by rw [c]), if_pos c]
  · rw [if_neg (by rw [j_eq (by omega) (by omega)]; exact c), if_neg c]
