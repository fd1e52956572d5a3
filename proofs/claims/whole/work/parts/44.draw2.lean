/-! draw, the two walks -/
theorem eX12_isOf_b {B : xAs} {ρ : xm} {m : Int} (hA : RH B ρ) (h : dI B m) {p : Nat} (hp : p < 8) : fX12_isOf (j32 m) (j32 (p : Int)) ρ = some (j32 (bi (inc (B iM_peopleOf m) p))) := by
  have h1 := h.1.mt
  rw [eX12_isOf hA h.1 (by omega) (by omega)]
  congr 2
  unfold bi
  by_cases c : inc (B iM_peopleOf m) p
  · rw [if_pos c, if_pos ⟨h.2.1, c⟩]
  · rw [if_neg c, if_neg (fun q => c q.2)]
theorem dCs {B : xAs} {ν : xm} {R : xr} {n : Nat} {m g b : Int} {p : Nat} (hC : CH B ν R n) (h : dI B m) (hg : 0 ≤ g ∧ g ≤ 600) (hb : 0 ≤ b ∧ b ≤ 1) (hp : p < 8) : ∃ ν', fX10_drawComings_b27 (j32 (p : Int)) ν (oM m) (j32 g) (j32 b) = some (.inl (j32 ((p + 1 : Nat) : Int), ν')) ∧ CH (dS m g b p B) ν' R n ∧ (∀ o, 61 ≤ o → o < 107 → gi ν' o = gi ν o) ∧ LK ν ν' := by
  have hm := h.2.1
  have hI := h.1
  have hp8 : (0 : Int) ≤ p ∧ (p : Int) < 8 := by omega
  have ei := eC_includes hC hI hm (p := (p : Int)) (by omega)
  unfold fX10_drawComings_b27 dS
  by_cases c : inc (B iM_peopleOf m) p
  · rw [if_pos c]
    have hx := nx_b (B iM 2)
    have hM := hI.minuteOf m hm.1 hm.2
    have eM := hC.minute m hm.1 hm.2
    have hC1 := seed_CH hC hx
    have hI1 := seed_Inv hI hx
    have hd := dE_ok hI hp8 (nx (B iM 2))
    have hw := wWay_b hI hp8 (e := (dE B p (nx (B iM 2)) : Int)) (b := b) (by omega)
    have e1 := eX10_drawEnd hC hI hp8
    have e2 := eX10_takes hC1 hI1 hp8 (e := (dE B p (nx (B iM 2)) : Int)) (by rw [up2_wEnds]; omega) hb
    rw [up2_wWay] at e2
    have e3 : fX11_held (j32 (B iM_minuteOf m - g + wWay B p (dE B p (nx (B iM 2)) : Int) b)) (j32 0) (j32 1439) = some (j32 (dV B m g b p)) := by
      unfold fX11_held dV cl
      rw [j_min (by omega) (by omega), j_max (by omega) (by omega)]
    have hv := cl_b (B iM_minuteOf m - g + wWay B p (dE B p (nx (B iM 2)) : Int) b)
    have e4 : ∀ ν1, fX2_tell (oM m) (j32 (p : Int)) (j32 (dV B m g b p)) ν1 = some (wr ν1 (oM m + 1) p (dV B m g b p)) := fun ν1 => eX2_tell hp8
    refine ⟨wr (wr ν iC_ways 10 (nx (B iM 2))) (oM m + 1) p (dV B m g b p), ?_, tell_CH hC1 hm.1 hp8 (by unfold dV; omega), fun o h1 h2 => ?_, ?_⟩
    · simp (disch := omega) only [Bool.false_eq_true, lits, jj, jc, jm, Int.cast_ofNat_Int, j_bi0, j_bi1, not_true, not_false_eq_true, if_true, if_false, xe, xok_some, Sum.elim_inl, Sum.elim_inr, Int.reduceEq, Int.reduceLT, Int.reduceLE, Int.reduceAdd, Int.reduceSub, Int.reduceMul, show ¬ (8 : Int) ≤ p by omega, ei, eq_true c, e1, e2, eM, e3, e4]
      rfl
    · rw [gi_wr_f (by unfold oM; omega), gi_wr_f (by show o ≠ 42; omega)]
    · exact (LK.w_ (by decide)).tr (LK.w_ (by unfold oM; omega))
  · rw [if_neg c]
    refine ⟨ν, ?_, hC, fun _ _ _ => rfl, LK.rf⟩
    simp (disch := omega) only [Bool.false_eq_true, lits, jj, jc, jm, Int.cast_ofNat_Int, j_bi0, j_bi1, not_true, not_false_eq_true, if_true, if_false, xe, xok_some, Sum.elim_inl, Sum.elim_inr, Int.reduceEq, Int.reduceLT, Int.reduceLE, Int.reduceAdd, Int.reduceSub, Int.reduceMul, show ¬ (8 : Int) ≤ p by omega, ei, eq_false c]
    rfl
theorem dRs {B : xAs} {ρ : xm} {m g b : Int} {p : Nat} (hA : RH B ρ) (h : dI B m) (hg : 0 ≤ g ∧ g ≤ 600) (hb : 0 ≤ b ∧ b ≤ 1) (hp : p < 8) : ∃ ρ', fX12_draw_b59 (j32 (p : Int)) ρ (j32 m) (j32 g) (j32 b) = some (.inl (j32 ((p + 1 : Nat) : Int), ρ')) ∧ RH (dS m g b p B) ρ' ∧ (∀ o, (o < 61 ∨ 107 ≤ o) → gi ρ' o = gi ρ o) ∧ LK ρ ρ' := by
  have hm := h.2.1
  have hI := h.1
  have h1 := hI.mt
  have hp8 : (0 : Int) ≤ p ∧ (p : Int) < 8 := by omega
  have ei := eX12_isOf_b hA h hp
  unfold fX12_draw_b59 dS
  by_cases c : inc (B iM_peopleOf m) p
  · rw [if_pos c]
    have hx := nx_b (B iM 2)
    have hM := hI.minuteOf m hm.1 hm.2
    have eM : gi ρ iM_minuteOf m = B iM_minuteOf m := by rw [RH.at hA rfl]
    have hA1 := RH.f_2 hA (v := nx (B iM 2)) (by omega)
    have hI1 := seed_Inv hI hx
    have hd := dE_ok hI hp8 (nx (B iM 2))
    have hw := wWay_b hI hp8 (e := (dE B p (nx (B iM 2)) : Int)) (b := b) (by omega)
    have e1 := eX12_drawnEnd hA hI hp8
    have e2 := eX12_wayAt hA1 hI1 hp8 (e := (dE B p (nx (B iM 2)) : Int)) (by rw [up2_wEnds]; omega) hb
    rw [up2_wWay] at e2
    have hv := cl_b (B iM_minuteOf m - g + wWay B p (dE B p (nx (B iM 2)) : Int) b)
    refine ⟨wr (wr ρ iM 2 (nx (B iM 2))) iM_cameAt (8 * m + p) (dV B m g b p), ?_, RH.w_cameAt hA1 (by unfold dV; omega), fun o h1 => ?_, ?_⟩
    · simp (disch := omega) only [Bool.false_eq_true, lits, jj, jc, jm, Int.cast_ofNat_Int, j_bi0, j_bi1, not_true, not_false_eq_true, if_true, if_false, xe, xok_some, Sum.elim_inl, Sum.elim_inr, Int.reduceEq, Int.reduceLT, Int.reduceLE, Int.reduceAdd, Int.reduceSub, Int.reduceMul, show ¬ (8 : Int) ≤ p by omega, ei, eq_true c, eM, e1, e2]
      obtain ⟨z, hz⟩ : ∃ z, B iM_minuteOf m - g + wWay B p (dE B p (nx (B iM 2)) : Int) b = z := ⟨_, rfl⟩
      have hdv : dV B m g b p = cl z := by unfold dV; rw [hz]
      rw [hz, hdv]
      unfold cl
      by_cases c1 : 0 ≤ z
      · by_cases c2 : z ≤ 1439
        · rw [if_pos c1, if_pos c2, show max 0 (min 1439 z) = z by omega]; rfl
        · rw [if_pos c1, if_neg c2, show max 0 (min 1439 z) = 1439 by omega]; rfl
      · rw [if_neg c1, show max 0 (min 1439 z) = 0 by omega]; rfl
    · rw [gi_wr_f (by show o ≠ 66; omega), gi_wr_f (by show o ≠ 61; omega)]
    · exact (LK.w_f (by omega)).tr (LK.w_ (by decide))
  · rw [if_neg c]
    refine ⟨ρ, ?_, hA, fun _ _ => rfl, LK.rf⟩
    simp (disch := omega) only [Bool.false_eq_true, lits, jj, jc, jm, Int.cast_ofNat_Int, j_bi0, j_bi1, not_true, not_false_eq_true, if_true, if_false, xe, xok_some, Sum.elim_inl, Sum.elim_inr, Int.reduceEq, Int.reduceLT, Int.reduceLE, Int.reduceAdd, Int.reduceSub, Int.reduceMul, show ¬ (8 : Int) ≤ p by omega, ei, eq_false c]
    rfl
theorem dA_I {B : xAs} {m g b : Int} (h : dI B m) : ∀ k, dI (dA B m g b k) m
  | 0 => h
  | k + 1 => dS_I (dA_I h k)
theorem dC_all {B : xAs} {ν : xm} {R : xr} {n : Nat} {m g b : Int} (hC : CH B ν R n) (h : dI B m) (hg : 0 ≤ g ∧ g ≤ 600) (hb : 0 ≤ b ∧ b ≤ 1) : xok (xloop xfu (fun v => fX10_drawComings_b27 v.1 v.2 (oM m) (j32 g) (j32 b)) (j32 0, ν)) (fun ν' => CH (dA B m g b 8) ν' R n ∧ (∀ o, 61 ≤ o → o < 107 → gi ν' o = gi ν o) ∧ LK ν ν') := by
  refine xok_for (fun k v => v.1 = j32 k ∧ CH (dA B m g b k) v.2 R n ∧ (∀ o, 61 ≤ o → o < 107 → gi v.2 o = gi ν o) ∧ LK ν v.2) 8 (by omega) ⟨rfl, hC, fun _ _ _ => rfl, LK.rf⟩ ?_ ?_
  · intro k v hk hv
    obtain ⟨v1, ν1⟩ := v
    obtain ⟨h1, h2, h3, h4⟩ := hv
    simp only at h1 h2 h3 h4
    subst h1
    obtain ⟨ν2, e1, e2, e3, e4⟩ := dCs (g := g) (b := b) h2 (dA_I h k) hg hb hk
    show xok (fX10_drawComings_b27 (j32 (k : Int)) ν1 (oM m) (j32 g) (j32 b)) _
    rw [e1, xok_some]
    exact ⟨rfl, e2, fun o h5 h6 => (e3 o h5 h6).trans (h3 o h5 h6), h4.tr e4⟩
  · intro v hv
    obtain ⟨v1, ν1⟩ := v
    obtain ⟨h1, h2, h3, h4⟩ := hv
    simp only at h1 h2 h3 h4
    subst h1
    show xok (fX10_drawComings_b27 (j32 ((8 : Nat) : Int)) ν1 (oM m) (j32 g) (j32 b)) _
    unfold fX10_drawComings_b27
    simp (disch := omega) only [Bool.false_eq_true, lits, jj, jc, jm, Int.cast_ofNat_Int, j_bi0, j_bi1, not_true, not_false_eq_true, if_true, if_false, xe, xok_some, Sum.elim_inl, Sum.elim_inr, Int.reduceEq, Int.reduceLT, Int.reduceLE, Int.reduceAdd, Int.reduceSub, Int.reduceMul, Int.le_refl]
    exact ⟨h2, h3, h4⟩
theorem dR_all {B : xAs} {ρ : xm} {m g b : Int} (hA : RH B ρ) (h : dI B m) (hg : 0 ≤ g ∧ g ≤ 600) (hb : 0 ≤ b ∧ b ≤ 1) : xok (xloop xfu (fun v => fX12_draw_b59 v.1 v.2 (j32 m) (j32 g) (j32 b)) (j32 0, ρ)) (fun ρ' => RH (dA B m g b 8) ρ' ∧ (∀ o, (o < 61 ∨ 107 ≤ o) → gi ρ' o = gi ρ o) ∧ LK ρ ρ') := by
  refine xok_for (fun k v => v.1 = j32 k ∧ RH (dA B m g b k) v.2 ∧ (∀ o, (o < 61 ∨ 107 ≤ o) → gi v.2 o = gi ρ o) ∧ LK ρ v.2) 8 (by omega) ⟨rfl, hA, fun _ _ => rfl, LK.rf⟩ ?_ ?_
  · intro k v hk hv
    obtain ⟨v1, ν1⟩ := v
    obtain ⟨h1, h2, h3, h4⟩ := hv
    simp only at h1 h2 h3 h4
    subst h1
    obtain ⟨ν2, e1, e2, e3, e4⟩ := dRs (g := g) (b := b) h2 (dA_I h k) hg hb hk
    show xok (fX12_draw_b59 (j32 (k : Int)) ν1 (j32 m) (j32 g) (j32 b)) _
    rw [e1, xok_some]
    exact ⟨rfl, e2, fun o h5 => (e3 o h5).trans (h3 o h5), h4.tr e4⟩
  · intro v hv
    obtain ⟨v1, ν1⟩ := v
    obtain ⟨h1, h2, h3, h4⟩ := hv
    simp only at h1 h2 h3 h4
    subst h1
    show xok (fX12_draw_b59 (j32 ((8 : Nat) : Int)) ν1 (j32 m) (j32 g) (j32 b)) _
    unfold fX12_draw_b59
    simp (disch := omega) only [Bool.false_eq_true, lits, jj, jc, jm, Int.cast_ofNat_Int, j_bi0, j_bi1, not_true, not_false_eq_true, if_true, if_false, xe, xok_some, Sum.elim_inl, Sum.elim_inr, Int.reduceEq, Int.reduceLT, Int.reduceLE, Int.reduceAdd, Int.reduceSub, Int.reduceMul, Int.le_refl]
    exact ⟨h2, h3, h4⟩
theorem s_draw {A : xAs} {μ : xm} {R : xr} {n : Nat} (hA : RH A μ) (hC : CH A μ R n) (hI : Inv A) (a1 a2 : Int32) : ∃ q, fX11_draw a1 a2 μ R = some q ∧ ∃ q2, fX12_draw a1 a2 q.2 = some q2 ∧ q2.1 = q.1 ∧ xStp μ R n q2.2 := by
  obtain ⟨m, rfl, hm⟩ := j32_ex a1
  obtain ⟨g, rfl, hg⟩ := j32_ex a2
  have h0 := hI.mt
  have hf := eX3_find hC hI hm
  have hbr := hI.bridge
  by_cases c1 : 0 ≤ m ∧ m < A iM 1
  · have e1 := eC_isSettled hC hI c1
    have e2 := hI.isSettled m c1.1 c1.2
    have hb1 := eX11_within hg (a := 0) (b := 600) (by omega) (by omega)
    have hb2 := eX12_in hg (a := 0) (b := 600) (by omega) (by omega)
    have hm1 := eX12_isMeeting hA hI hm
    have e5 : gi μ iM_isSettled m = A iM_isSettled m := by rw [RH.at hA rfl]
    by_cases c2 : A iM_isSettled m = 0
    · by_cases c3 : 0 ≤ g ∧ g ≤ 600
      · have hx := nx_b (A iM 2)
        have hI1 := seed_Inv hI hx
        have hC1 := seed_CH hC hx
        have hd1 : dI (up A iM 2 (nx (A iM 2))) m := ⟨hI1, by rw [up_n (by omega)]; exact c1, by rw [up_o (by decide)]; exact c2⟩
        obtain ⟨x, ex⟩ : ∃ x, nx (A iM 2) = x := ⟨_, rfl⟩
        have k1 := eX10_drawNext hC hI
        rw [ex] at hx hI1 hC1 hd1 k1
        obtain ⟨b, hb⟩ : ∃ b : Int, (if A iM 53 ≤ x % A iM 54 then 0 else 1) = b := ⟨_, rfl⟩
        have hb01 : 0 ≤ b ∧ b ≤ 1 := by rw [← hb]; split <;> omega
        have hr1 := Int.emod_nonneg x (show A iM 54 ≠ 0 by omega)
        have hr2 := Int.emod_lt_of_pos x (show 0 < A iM 54 by omega)
        obtain ⟨ν, w1, w2, w3, w4⟩ := dC_all hC1 hd1 c3 hb01
        have lo := eX11_leftOver (a := x) (b := A iM 54) (by omega) (by omega)
        have lo2 := j_rem (a := x) (b := A iM 54) (by omega) (by omega)
        have s1 : gi (wr μ iC_ways 10 x) iC_ways 8 = A iM 54 := by rw [hC1.all, up_n (by omega)]
        have s2 : gi (wr μ iC_ways 10 x) iC_ways 7 = A iM 53 := by rw [hC1.shut, up_n (by omega)]
        have kj : fX10_drawComings_j23 (j32 b) (oM m) (j32 g) (j32 x, wr μ iC_ways 10 x) = some (j32 b, ν) := by
          unfold fX10_drawComings_j23
          simp only [lits]
          rw [w1, xbd_e]
        have k2 : fX10_drawComings (oM m) (j32 g) μ = some (j32 b, ν) := by
          unfold fX10_drawComings
          simp (disch := omega) only [Bool.false_eq_true, lits, jj, jc, jm, Int.cast_ofNat_Int, j_bi0, j_bi1, not_true, not_false_eq_true, if_true, if_false, xe, xok_some, Sum.elim_inl, Sum.elim_inr, Int.reduceEq, Int.reduceLT, Int.reduceLE, Int.reduceAdd, Int.reduceSub, Int.reduceMul, k1, s1, lo, s2]
          by_cases d : A iM 53 ≤ x % A iM 54
          · rw [if_pos d] at hb ⊢
            rw [hb]; exact kj
          · rw [if_neg d] at hb ⊢
            rw [hb]; exact kj
        have k3 : fX11_draw (j32 m) (j32 g) μ R = some (j32 b, ν) := by
          unfold fX11_draw
          simp (disch := omega) only [Bool.false_eq_true, lits, jj, jc, jm, Int.cast_ofNat_Int, j_bi0, j_bi1, not_true, not_false_eq_true, if_true, if_false, xe, xok_some, Sum.elim_inl, Sum.elim_inr, Int.reduceEq, Int.reduceLT, Int.reduceLE, Int.reduceAdd, Int.reduceSub, Int.reduceMul, hf, eq_true c1, e1, c2, hb1, eq_true c3, k2]
        -- the reference
        have gk : ∀ o, 61 ≤ o → o < 107 → gi ν o = gi μ o := fun o h1 h2 => by rw [w3 o h1 h2, gi_wr_f (by show o ≠ 42; omega)]
        have hAν : RH A ν := RH.keep hA gk
        have hA1 := RH.f_2 hAν (v := x) (by omega)
        obtain ⟨ρ, v1, v2, v3, v4⟩ := dR_all hA1 hd1 c3 hb01
        have q1 := eX12_draws hAν hI
        rw [ex] at q1
        have q2 : gi (wr ν iM 2 x) iM 54 = A iM 54 := by rw [(RH.sc hA1).2.2.2.2.2.2.2.2.1, up_n (by omega)]
        have q3 : gi (wr ν iM 2 x) iM 53 = A iM 53 := by rw [(RH.sc hA1).2.2.2.2.2.2.2.1, up_n (by omega)]
        have q4 : gi (wr ν iM 2 x) iM 2 = x := gi_wr (by omega)
        have kr : fX12_draw_j55 (j32 b) (j32 m) (j32 g) (wr ν iM 2 x) = some (j32 b, ρ) := by
          unfold fX12_draw_j55
          simp only [lits]
          rw [v1, xbd_e]
          by_cases d : b = 0
          · subst d; simp (disch := omega) only [Bool.false_eq_true, lits, jj, jc, jm, Int.cast_ofNat_Int, j_bi0, j_bi1, not_true, not_false_eq_true, if_true, if_false, xe, xok_some, Sum.elim_inl, Sum.elim_inr, Int.reduceEq, Int.reduceLT, Int.reduceLE, Int.reduceAdd, Int.reduceSub, Int.reduceMul]
          · simp (disch := omega) only [Bool.false_eq_true, lits, jj, jc, jm, Int.cast_ofNat_Int, j_bi0, j_bi1, not_true, not_false_eq_true, if_true, if_false, xe, xok_some, Sum.elim_inl, Sum.elim_inr, Int.reduceEq, Int.reduceLT, Int.reduceLE, Int.reduceAdd, Int.reduceSub, Int.reduceMul, d, show b = 1 by omega]
        have hm2 := eX12_isMeeting hAν hI hm
        have e6 : gi ν iM_isSettled m = A iM_isSettled m := by rw [RH.at hAν rfl]
        have k4 : fX12_draw (j32 m) (j32 g) ν = some (j32 b, ρ) := by
          unfold fX12_draw
          simp (disch := omega) only [Bool.false_eq_true, lits, jj, jc, jm, Int.cast_ofNat_Int, j_bi0, j_bi1, not_true, not_false_eq_true, if_true, if_false, xe, xok_some, Sum.elim_inl, Sum.elim_inr, Int.reduceEq, Int.reduceLT, Int.reduceLE, Int.reduceAdd, Int.reduceSub, Int.reduceMul, hm2, eq_true c1, e6, c2, hb2, eq_true c3, q1, q2, q3, q4, lo2]
          by_cases d : A iM 53 ≤ x % A iM 54
          · rw [if_pos d] at hb ⊢
            rw [hb]; exact kr
          · rw [if_neg d] at hb ⊢
            rw [hb]; exact kr
        refine ⟨_, k3, _, k4, rfl, ?_, dA (up A iM 2 x) m g b 8, v2, ?_, (dA_I hd1 8).1⟩
        · exact (((LK.w_ (by decide)).tr w4).tr (LK.w_f (by omega))).tr v4
        · exact w2.ref (fun o ho => by rw [v3 o ho, gi_wr_f (by show o ≠ 61; omega)])
      · refine ⟨(j32 (-1), μ), ?_, (j32 (-1), μ), ?_, rfl, xStp.same hA hC hI⟩
        · unfold fX11_draw
          simp (disch := omega) only [Bool.false_eq_true, lits, jj, jc, jm, Int.cast_ofNat_Int, j_bi0, j_bi1, not_true, not_false_eq_true, if_true, if_false, xe, xok_some, Sum.elim_inl, Sum.elim_inr, Int.reduceEq, Int.reduceLT, Int.reduceLE, Int.reduceAdd, Int.reduceSub, Int.reduceMul, hf, eq_true c1, e1, c2, hb1, eq_false c3]
        · unfold fX12_draw
          simp (disch := omega) only [Bool.false_eq_true, lits, jj, jc, jm, Int.cast_ofNat_Int, j_bi0, j_bi1, not_true, not_false_eq_true, if_true, if_false, xe, xok_some, Sum.elim_inl, Sum.elim_inr, Int.reduceEq, Int.reduceLT, Int.reduceLE, Int.reduceAdd, Int.reduceSub, Int.reduceMul, hm1, eq_true c1, e5, c2, hb2, eq_false c3]
    · refine ⟨(j32 (-1), μ), ?_, (j32 (-1), μ), ?_, rfl, xStp.same hA hC hI⟩
      · unfold fX11_draw
        simp (disch := omega) only [Bool.false_eq_true, lits, jj, jc, jm, Int.cast_ofNat_Int, j_bi0, j_bi1, not_true, not_false_eq_true, if_true, if_false, xe, xok_some, Sum.elim_inl, Sum.elim_inr, Int.reduceEq, Int.reduceLT, Int.reduceLE, Int.reduceAdd, Int.reduceSub, Int.reduceMul, hf, eq_true c1, e1, c2]
      · unfold fX12_draw
        simp (disch := omega) only [Bool.false_eq_true, lits, jj, jc, jm, Int.cast_ofNat_Int, j_bi0, j_bi1, not_true, not_false_eq_true, if_true, if_false, xe, xok_some, Sum.elim_inl, Sum.elim_inr, Int.reduceEq, Int.reduceLT, Int.reduceLE, Int.reduceAdd, Int.reduceSub, Int.reduceMul, hm1, eq_true c1, e5, c2]
  · have hm1 := eX12_isMeeting hA hI hm
    refine ⟨(j32 (-1), μ), ?_, (j32 (-1), μ), ?_, rfl, xStp.same hA hC hI⟩
    · unfold fX11_draw
      simp (disch := omega) only [Bool.false_eq_true, lits, jj, jc, jm, Int.cast_ofNat_Int, j_bi0, j_bi1, not_true, not_false_eq_true, if_true, if_false, xe, xok_some, Sum.elim_inl, Sum.elim_inr, Int.reduceEq, Int.reduceLT, Int.reduceLE, Int.reduceAdd, Int.reduceSub, Int.reduceMul, hf, eq_false c1]
    · unfold fX12_draw
      simp (disch := omega) only [Bool.false_eq_true, lits, jj, jc, jm, Int.cast_ofNat_Int, j_bi0, j_bi1, not_true, not_false_eq_true, if_true, if_false, xe, xok_some, Sum.elim_inl, Sum.elim_inr, Int.reduceEq, Int.reduceLT, Int.reduceLE, Int.reduceAdd, Int.reduceSub, Int.reduceMul, hm1, eq_false c1]
