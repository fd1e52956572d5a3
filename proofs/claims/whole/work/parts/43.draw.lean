/-! draw -/
def nx (x : Int) : Int := (25173 * x + 13849) % 65536
theorem nx_b (x : Int) : 0 ≤ nx x ∧ nx x ≤ 65535 := by unfold nx; omega
theorem nx_ok {x : Int} (h : 0 ≤ x ∧ x ≤ 65535) : j32 (25173 * x + 13849) - j32 (25173 * x + 13849) / j32 65536 * j32 65536 = j32 (nx x) := by
  rw [j_div (by omega) (by omega), j_mul, j_sub, Int.tdiv_eq_ediv_of_nonneg (by omega)]
  congr 1
  unfold nx; omega
/-- the end drawn -/
def endF (f : Int → Int) : Nat → Int → Nat → Nat
  | 0, _, e => e
  | k + 1, y, e => if y < f e then e else endF f k (y - f e) (e + 1)
theorem endF_ok {f : Int → Int} : ∀ (k : Nat) (y : Int) (e : Nat), 0 ≤ y → y + sumTo f e < sumTo f (e + k) → endF f k y e < e + k ∧ sumTo f (endF f k y e) ≤ y + sumTo f e ∧ y + sumTo f e < sumTo f (endF f k y e + 1)
  | 0, y, e, h1, h2 => by rw [Nat.add_zero] at h2; omega
  | k + 1, y, e, h1, h2 => by
    unfold endF
    by_cases c : y < f e
    · rw [if_pos c, sumTo_s]; omega
    · rw [if_neg c]
      have h3 := endF_ok (f := f) k (y - f e) (e + 1) (by omega) (by rw [sumTo_s, show e + 1 + k = e + (k + 1) by omega]; omega)
      rw [sumTo_s] at h3
      refine ⟨by omega, by omega, by omega⟩
def dE (A : xAs) (p x : Int) : Nat := endF (wWt A p) (wEnds A p).toNat (x % wAll A p) 0
theorem dE_ok {A : xAs} (hI : Inv A) {p : Int} (hp : 0 ≤ p ∧ p < 8) (x : Int) : (dE A p x : Int) < wEnds A p ∧ sumTo (wWt A p) (dE A p x) ≤ x % wAll A p ∧ x % wAll A p < sumTo (wWt A p) (dE A p x + 1) := by
  have h1 := wEnds_b hI hp
  have h2 := wAll_b hI hp
  have h3 := Int.emod_nonneg x (show wAll A p ≠ 0 by omega)
  have h4 := Int.emod_lt_of_pos x (show 0 < wAll A p by omega)
  have h5 := endF_ok (f := wWt A p) (wEnds A p).toNat (x % wAll A p) 0 h3 (by
    show _ + 0 < sumTo (wWt A p) (0 + (wEnds A p).toNat)
    rw [Nat.zero_add]
    show _ + 0 < wAll A p
    omega)
  have h6 : sumTo (wWt A p) 0 = 0 := rfl
  rw [h6] at h5
  unfold dE
  refine ⟨by omega, by omega, by omega⟩
theorem wS_mono {A : xAs} (hI : Inv A) {p : Int} (hp : 0 ≤ p ∧ p < 8) : ∀ (j k : Nat), ((k + j : Nat) : Int) ≤ wEnds A p → sumTo (wWt A p) k ≤ sumTo (wWt A p) (k + j)
  | 0, k, _ => Int.le_refl _
  | j + 1, k, h => by
    have h1 := wS_mono hI hp j k (by omega)
    have h2 := wWt_b hI hp (e := ((k + j : Nat) : Int)) (by omega)
    show _ ≤ sumTo (wWt A p) (k + j) + wWt A p ((k + j : Nat) : Int)
    omega
theorem wS_b {A : xAs} (hI : Inv A) {p : Int} (hp : 0 ≤ p ∧ p < 8) {k : Nat} (hk : (k : Int) ≤ wEnds A p) : 0 ≤ sumTo (wWt A p) k ∧ sumTo (wWt A p) k ≤ 100 := by
  have h1 := wEnds_b hI hp
  have := sumTo_b (f := wWt A p) (B := 20) (k := k) (fun z h2 h3 => by have := wWt_b hI hp (e := z) (by omega); omega)
  omega
theorem seed_CH {A : xAs} {μ : xm} {R : xr} {n : Nat} (hC : CH A μ R n) {x : Int} (hx : 0 ≤ x ∧ x ≤ 65535) : CH (up A iM 2 x) (wr μ iC_ways 10 x) R n := by
  refine hC.u_seed (fun o h1 h2 => gi_wr_f h1) (fun z hz hz2 => gi_wr_z (by omega)) (fun o h1 => up_o h1) (fun k hk hk2 => up_n (by omega)) ?_
  rw [up_z, gi_wr (by omega)]
theorem seed_Inv {A : xAs} (hI : Inv A) {x : Int} (hx : 0 ≤ x ∧ x ≤ 65535) : Inv (up A iM 2 x) := by
  refine hI.u_seed (fun o h1 => up_o h1) (fun k hk hk2 => up_n (by omega)) ?_
  rw [up_z]; omega
theorem up2_wEnds {A : xAs} {x : Int} : wEnds (up A iM 2 x) = wEnds A := by funext p; unfold wEnds; rw [up_o (by decide)]
theorem up2_wWt {A : xAs} {x : Int} : wWt (up A iM 2 x) = wWt A := by funext p e; unfold wWt; rw [up_o (by decide), up_o (by decide)]
theorem up2_wMin {A : xAs} {x : Int} : wMin (up A iM 2 x) = wMin A := by funext p e; unfold wMin; rw [up_o (by decide), up_o (by decide)]
theorem up2_wAll {A : xAs} {x : Int} : wAll (up A iM 2 x) = wAll A := by funext p; unfold wAll; rw [up2_wWt, up2_wEnds]
theorem up2_wWay {A : xAs} {x : Int} : wWay (up A iM 2 x) = wWay A := by funext p e b; unfold wWay; rw [up2_wMin, up_n (by omega), up_n (by omega)]
theorem eX10_drawNext {A : xAs} {μ : xm} {R : xr} {n : Nat} (hC : CH A μ R n) (hI : Inv A) : fX10_drawNext μ = some (j32 (nx (A iM 2)), wr μ iC_ways 10 (nx (A iM 2))) := by
  have h1 := hI.x0
  have h2 := nx_b (A iM 2)
  unfold fX10_drawNext
  simp only [lits, jj, Int.cast_ofNat_Int, hC.drawn]
  rw [nx_ok h1]
  simp (disch := omega) only [Bool.false_eq_true, lits, jj, jc, jm, Int.cast_ofNat_Int, j_bi0, j_bi1, not_true, not_false_eq_true, if_true, if_false, xe, xok_some, Sum.elim_inl, Sum.elim_inr, Int.reduceEq, Int.reduceLT, Int.reduceLE, Int.reduceAdd, Int.reduceSub, Int.reduceMul]
  rw [gi_wr (by omega)]
theorem eX12_draws {A : xAs} {μ : xm} (hA : RH A μ) (hI : Inv A) : fX12_draws μ = some (wr μ iM 2 (nx (A iM 2))) := by
  have h1 := hI.x0
  unfold fX12_draws
  simp only [lits, jj, Int.cast_ofNat_Int, (RH.sc hA).2.2.1]
  rw [nx_ok h1]
  simp (disch := omega) only [Bool.false_eq_true, lits, jj, jc, jm, Int.cast_ofNat_Int, j_bi0, j_bi1, not_true, not_false_eq_true, if_true, if_false, xe, xok_some, Sum.elim_inl, Sum.elim_inr, Int.reduceEq, Int.reduceLT, Int.reduceLE, Int.reduceAdd, Int.reduceSub, Int.reduceMul]
theorem eX11_leftOver {a b : Int} (ha : 0 ≤ a ∧ a < 1000000) (hb : 0 < b ∧ b < 1000000) : fX11_leftOver (j32 a) (j32 b) = some (j32 (a % b)) := by
  unfold fX11_leftOver
  simp (disch := omega) only [Bool.false_eq_true, lits, jj, jc, jm, Int.cast_ofNat_Int, j_bi0, j_bi1, not_true, not_false_eq_true, if_true, if_false, xe, xok_some, Sum.elim_inl, Sum.elim_inr, Int.reduceEq, Int.reduceLT, Int.reduceLE, Int.reduceAdd, Int.reduceSub, Int.reduceMul, show ¬ b = 0 by omega, j_rem]
theorem eX10_drawEnd {A : xAs} {μ : xm} {R : xr} {n : Nat} (hC : CH A μ R n) (hI : Inv A) {p : Int} (hp : 0 ≤ p ∧ p < 8) : fX10_drawEnd (j32 p) μ = some (j32 (dE A p (nx (A iM 2)) : Int), wr μ iC_ways 10 (nx (A iM 2))) := by
  have hx := nx_b (A iM 2)
  obtain ⟨x, ex⟩ : ∃ x, nx (A iM 2) = x := ⟨_, rfl⟩
  have hd := eX10_drawNext hC hI
  rw [ex] at hd hx
  rw [ex]
  have hC1 := seed_CH hC hx
  have hI1 := seed_Inv hI hx
  obtain ⟨μ1, hμ1⟩ : ∃ y, wr μ iC_ways 10 x = y := ⟨_, rfl⟩
  rw [hμ1] at hC1 hd
  rw [hμ1]
  have hW := wAll_b hI hp
  have hE := wEnds_b hI hp
  have e1 := eX10_weightsOf hC1 hp
  have e2 := eX10_endsOf hC1 hI1 hp
  rw [up2_wAll] at e1
  rw [up2_wEnds] at e2
  have e3 : ∀ e : Int, 0 ≤ e ∧ e < wEnds A p → fX10_weightOf (j32 p) (j32 e) μ1 = some (j32 (wWt A p e)) := by
    intro e he
    have h := eX10_weightOf hC1 hI1 hp (e := e) (by rw [up2_wEnds]; exact he)
    rw [up2_wWt] at h
    exact h
  obtain ⟨d1, d2, d3⟩ := dE_ok hI hp x
  obtain ⟨e, he⟩ : ∃ e, dE A p x = e := ⟨_, rfl⟩
  rw [he] at d1 d2 d3
  rw [he]
  obtain ⟨y, hy⟩ : ∃ y, x % wAll A p = y := ⟨_, rfl⟩
  have y1 := Int.emod_nonneg x (show wAll A p ≠ 0 by omega)
  have y2 := Int.emod_lt_of_pos x (show 0 < wAll A p by omega)
  rw [hy] at d2 d3 y1 y2
  have e4 : fX11_leftOver (j32 x) (j32 (wAll A p)) = some (j32 y) := by rw [← hy]; exact eX11_leftOver (by omega) (by omega)
  have key := xloop_for (b := fun v => fX10_drawEnd_b24 v.1 v.2 (j32 p) (j32 x, μ1) (j32 (wEnds A p - 1))) (fun k => (j32 (y - sumTo (wWt A p) k), j32 k)) e (r := if (e : Int) = wEnds A p - 1 then .inl () else .inr (j32 (e : Int), μ1)) (a := (j32 y, j32 0)) (by omega) (by show (j32 (y - 0), j32 0) = _; rw [Int.sub_zero]) ?_ ?_
  · unfold fX10_drawEnd
    rw [hd]
    simp (disch := omega) only [Bool.false_eq_true, lits, jj, jc, jm, Int.cast_ofNat_Int, j_bi0, j_bi1, not_true, not_false_eq_true, if_true, if_false, xe, xok_some, Sum.elim_inl, Sum.elim_inr, Int.reduceEq, Int.reduceLT, Int.reduceLE, Int.reduceAdd, Int.reduceSub, Int.reduceMul, e1, e4, e2]
    rw [key]
    by_cases c : (e : Int) = wEnds A p - 1
    · rw [if_pos c, xbd_e, xsm_e0, c]
    · rw [if_neg c, xbd_e, xsm_e1]
  · intro k hk
    show fX10_drawEnd_b24 _ _ _ _ _ = _
    have g1 := wS_mono hI hp (e - (k + 1)) (k + 1) (by omega)
    rw [show k + 1 + (e - (k + 1)) = e by omega] at g1
    have g2 := wS_b hI hp (k := k + 1) (by omega)
    have g3 := sumTo_s (f := wWt A p) (k := k)
    have g4 := e3 k (by omega)
    unfold fX10_drawEnd_b24
    simp (disch := omega) only [Bool.false_eq_true, lits, jj, jc, jm, Int.cast_ofNat_Int, j_bi0, j_bi1, not_true, not_false_eq_true, if_true, if_false, xe, xok_some, Sum.elim_inl, Sum.elim_inr, Int.reduceEq, Int.reduceLT, Int.reduceLE, Int.reduceAdd, Int.reduceSub, Int.reduceMul, show ¬ wEnds A p - 1 ≤ k by omega, g4, show 0 ≤ y - sumTo (wWt A p) k - wWt A p k by omega]
    rw [g3, show y - sumTo (wWt A p) k - wWt A p k = y - (sumTo (wWt A p) k + wWt A p k) by omega]
    rfl
  · show fX10_drawEnd_b24 _ _ _ _ _ = _
    have g2 := wS_b hI hp (k := e) (by omega)
    have g3 := sumTo_s (f := wWt A p) (k := e)
    have g4 := e3 e (by omega)
    have g5 := wWt_b hI hp (e := (e : Int)) (by omega)
    unfold fX10_drawEnd_b24
    by_cases c : (e : Int) = wEnds A p - 1
    · simp (disch := omega) only [Bool.false_eq_true, lits, jj, jc, jm, Int.cast_ofNat_Int, j_bi0, j_bi1, not_true, not_false_eq_true, if_true, if_false, xe, xok_some, Sum.elim_inl, Sum.elim_inr, Int.reduceEq, Int.reduceLT, Int.reduceLE, Int.reduceAdd, Int.reduceSub, Int.reduceMul, show wEnds A p - 1 ≤ e by omega]
      rw [if_pos c]
    · simp (disch := omega) only [Bool.false_eq_true, lits, jj, jc, jm, Int.cast_ofNat_Int, j_bi0, j_bi1, not_true, not_false_eq_true, if_true, if_false, xe, xok_some, Sum.elim_inl, Sum.elim_inr, Int.reduceEq, Int.reduceLT, Int.reduceLE, Int.reduceAdd, Int.reduceSub, Int.reduceMul, show ¬ wEnds A p - 1 ≤ e by omega, g4, show ¬ 0 ≤ y - sumTo (wWt A p) e - wWt A p e by omega]
      rw [if_neg c]
theorem eX12_drawnEnd {A : xAs} {μ : xm} (hA : RH A μ) (hI : Inv A) {p : Int} (hp : 0 ≤ p ∧ p < 8) : fX12_drawnEnd (j32 p) μ = some (j32 (dE A p (nx (A iM 2)) : Int), wr μ iM 2 (nx (A iM 2))) := by
  have hx := nx_b (A iM 2)
  obtain ⟨x, ex⟩ : ∃ x, nx (A iM 2) = x := ⟨_, rfl⟩
  have hd := eX12_draws hA hI
  rw [ex] at hd hx
  rw [ex]
  have hA1 := RH.f_2 hA (v := x) (by omega)
  have hI1 := seed_Inv hI hx
  obtain ⟨μ1, hμ1⟩ : ∃ y, wr μ iM 2 x = y := ⟨_, rfl⟩
  rw [hμ1] at hA1 hd
  rw [hμ1]
  have hW := wAll_b hI hp
  have hE := wEnds_b hI hp
  have e1 := eX12_weightsOf hA1 hI1 hp
  rw [up2_wAll] at e1
  have e2 : gi μ1 iM 2 = x := by rw [(RH.sc hA1).2.2.1, up_z]
  have e3 : ∀ e : Int, 0 ≤ e ∧ e < wEnds A p → fX12_weightAt (j32 p) (j32 e) μ1 = some (j32 (wWt A p e)) := by
    intro e he
    have h := eX12_weightAt hA1 hI1 hp (e := e) (by rw [up2_wEnds]; exact he)
    rw [up2_wWt] at h
    exact h
  obtain ⟨d1, d2, d3⟩ := dE_ok hI hp x
  obtain ⟨e, he⟩ : ∃ e, dE A p x = e := ⟨_, rfl⟩
  rw [he] at d1 d2 d3
  rw [he]
  obtain ⟨y, hy⟩ : ∃ y, x % wAll A p = y := ⟨_, rfl⟩
  have y1 := Int.emod_nonneg x (show wAll A p ≠ 0 by omega)
  have y2 := Int.emod_lt_of_pos x (show 0 < wAll A p by omega)
  rw [hy] at d2 d3 y1 y2
  have e4 : xrem (j32 x) (j32 (wAll A p)) = some (j32 y) := by rw [← hy]; exact j_rem (by omega) (by omega)
  have key := xloop_for (b := fun v => fX12_drawnEnd_b17 v.1 v.2 (j32 p) μ1) (fun k => (j32 (y - sumTo (wWt A p) k), j32 k)) e (r := j32 (e : Int)) (a := (j32 y, j32 0)) (by omega) (by show (j32 (y - 0), j32 0) = _; rw [Int.sub_zero]) ?_ ?_
  · unfold fX12_drawnEnd
    rw [hd]
    simp (disch := omega) only [Bool.false_eq_true, lits, jj, jc, jm, Int.cast_ofNat_Int, j_bi0, j_bi1, not_true, not_false_eq_true, if_true, if_false, xe, xok_some, Sum.elim_inl, Sum.elim_inr, Int.reduceEq, Int.reduceLT, Int.reduceLE, Int.reduceAdd, Int.reduceSub, Int.reduceMul, e1, e2, e4]
    rw [key]
    rfl
  · intro k hk
    show fX12_drawnEnd_b17 _ _ _ _ = _
    have g1 := wS_mono hI hp (e - (k + 1)) (k + 1) (by omega)
    rw [show k + 1 + (e - (k + 1)) = e by omega] at g1
    have g2 := wS_b hI hp (k := k + 1) (by omega)
    have g6 := wS_b hI hp (k := k) (by omega)
    have g3 := sumTo_s (f := wWt A p) (k := k)
    have g4 := e3 k (by omega)
    have g5 := wWt_b hI hp (e := (k : Int)) (by omega)
    unfold fX12_drawnEnd_b17
    simp (disch := omega) only [Bool.false_eq_true, lits, jj, jc, jm, Int.cast_ofNat_Int, j_bi0, j_bi1, not_true, not_false_eq_true, if_true, if_false, xe, xok_some, Sum.elim_inl, Sum.elim_inr, Int.reduceEq, Int.reduceLT, Int.reduceLE, Int.reduceAdd, Int.reduceSub, Int.reduceMul, g4, show ¬ y - sumTo (wWt A p) k < wWt A p k by omega]
    rw [g3, show y - sumTo (wWt A p) k - wWt A p k = y - (sumTo (wWt A p) k + wWt A p k) by omega]
    rfl
  · show fX12_drawnEnd_b17 _ _ _ _ = _
    have g2 := wS_b hI hp (k := e) (by omega)
    have g3 := sumTo_s (f := wWt A p) (k := e)
    have g4 := e3 e (by omega)
    have g5 := wWt_b hI hp (e := (e : Int)) (by omega)
    unfold fX12_drawnEnd_b17
    simp (disch := omega) only [Bool.false_eq_true, lits, jj, jc, jm, Int.cast_ofNat_Int, j_bi0, j_bi1, not_true, not_false_eq_true, if_true, if_false, xe, xok_some, Sum.elim_inl, Sum.elim_inr, Int.reduceEq, Int.reduceLT, Int.reduceLE, Int.reduceAdd, Int.reduceSub, Int.reduceMul, g4, show y - sumTo (wWt A p) e < wWt A p e by omega]
/-- one person's coming drawn -/
def cl (z : Int) : Int := max 0 (min 1439 z)
def dV (B : xAs) (m g b p : Int) : Int := cl (B iM_minuteOf m - g + wWay B p (dE B p (nx (B iM 2)) : Int) b)
def dS (m g b : Int) (p : Nat) (B : xAs) : xAs := if inc (B iM_peopleOf m) p then up (up B iM 2 (nx (B iM 2))) iM_cameAt (8 * m + p) (dV B m g b p) else B
def dA (A : xAs) (m g b : Int) : Nat → xAs
  | 0 => A
  | k + 1 => dS m g b k (dA A m g b k)
abbrev dI (B : xAs) (m : Int) : Prop := Inv B ∧ (0 ≤ m ∧ m < B iM 1) ∧ B iM_isSettled m = 0
theorem cl_b (z : Int) : 0 ≤ cl z ∧ cl z ≤ 1439 := by unfold cl; omega
theorem dS_I {B : xAs} {m g b : Int} {p : Nat} (h : dI B m) : dI (dS m g b p B) m := by
  unfold dS
  by_cases c : inc (B iM_peopleOf m) p
  · rw [if_pos c]
    have h1 := seed_Inv h.1 (nx_b (B iM 2))
    have e1 : (up B iM 2 (nx (B iM 2))) iM 1 = B iM 1 := up_n (by omega)
    have e2 : (up B iM 2 (nx (B iM 2))) iM_isSettled m = B iM_isSettled m := by rw [up_o (by decide)]
    have e3 : (up B iM 2 (nx (B iM 2))) iM_peopleOf m = B iM_peopleOf m := by rw [up_o (by decide)]
    have h3 := tell_Inv h1 (m := m) (p := p) (v := dV B m g b p) ⟨by rw [e1]; exact h.2.1, by rw [e3]; exact c⟩ (by rw [e2]; exact h.2.2) (cl_b _)
    refine ⟨h3, ?_, ?_⟩
    · rw [up_o (by decide), e1]; exact h.2.1
    · rw [up_o (by decide), e2]; exact h.2.2
  · rw [if_neg c]; exact h
