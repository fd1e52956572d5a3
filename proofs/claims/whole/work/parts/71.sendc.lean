/-! round: the class sends -/
theorem psR_b {M : Int → Int} {x y m B : Int} (hx : P8 x) (hy : P8 y) (hm : 0 ≤ m) (h : ∀ z, 0 ≤ z → z < 64 → -B ≤ M z ∧ M z ≤ B) : ∀ z, 0 ≤ z → z < 64 → -(B + m) ≤ psR M x y m z ∧ psR M x y m z ≤ B + m := fun z a b => by
  have hz := h z a b
  have h1 := h (8 * y + x) (by omega) (by omega)
  have h2 := h (8 * x + y) (by omega) (by omega)
  unfold psR
  split
  · by_cases e : z = 8 * y + x
    · rw [e, up1_s]; omega
    · rw [up1_n e]; omega
  · by_cases e : z = 8 * x + y
    · rw [e, up1_s]; omega
    · rw [up1_n e]; omega
theorem mvR_b {D L f : Int → Int} (hL : okL D L) {y m : Int} (hm : 1 ≤ m ∧ m ≤ 86400) {e : Nat} (he : pthR f y e) : ∀ k : Nat, k ≤ e → ∀ z, 0 ≤ z → z < 64 → -(86400 * ((k : Int) + 1)) ≤ mvR f y m L k z ∧ mvR f y m L k z ≤ 86400 * ((k : Int) + 1)
  | 0, _ => fun z a b => by have := hL z a b; show _ ≤ L z ∧ L z ≤ _; omega
  | k + 1, hk => fun z a b => by
    have ih := mvR_b hL hm he k (by omega)
    have px := he.2.2.2.1 (k + 1) (by omega)
    have py := he.2.2.2.1 k (by omega)
    have := psR_b (M := mvR f y m L k) (x := f (pnR f y k)) (y := pnR f y k) (m := m) px py (by omega) ih z a b
    show _ ≤ psR (mvR f y m L k) (f (pnR f y k)) (pnR f y k) m z ∧ psR (mvR f y m L k) (f (pnR f y k)) (pnR f y k) m z ≤ _
    omega
theorem pth_u {f : Int → Int} {y : Int} {e e' : Nat} (h : pthR f y e) (h' : pthR f y e') : e = e' := by
  rcases Nat.lt_trichotomy e e' with c | c | c
  · exact absurd h.2.1 (h'.2.2.1 e c)
  · exact c
  · exact absurd h'.2.1 (h.2.2.1 e' c)
theorem MS_L {oD oL ob od of : Nat} {D L b d f : Int → Int} {ν : xm} (h : MS oD oL ob od of D L b d f ν) (h1 : oD ≠ oL ∧ ob ≠ oL ∧ od ≠ oL ∧ of ≠ oL) {z v : Int} (hz : 0 ≤ z ∧ z < 64) (hv : -2147483648 ≤ v ∧ v < 2147483648) : MS oD oL ob od of D (up1 L z v) b d f (wr ν oL z v) := by
  obtain ⟨a1, a2, a3, a4, a5⟩ := h
  obtain ⟨n1, n2, n3, n4⟩ := h1
  refine ⟨fun w p q => ?_, fun w p q => ?_, fun x hx => ?_, fun x hx => ?_, fun x hx => ?_⟩
  · rw [gi_wr_f n1]; exact a1 w p q
  · rw [gi_wr_if ⟨hz.1, p⟩ hv, a2 w p q]; rfl
  · rw [gi_wr_f n2]; exact a3 x hx
  · rw [gi_wr_f n3]; exact a4 x hx
  · rw [gi_wr_f n4]; exact a5 x hx
theorem MS_b {oD oL ob od of : Nat} {D L b d f : Int → Int} {ν : xm} (h : MS oD oL ob od of D L b d f ν) (h1 : oD ≠ ob ∧ oL ≠ ob ∧ od ≠ ob ∧ of ≠ ob) {z v : Int} (hz : P8 z) (hv : -2147483648 ≤ v ∧ v < 2147483648) : MS oD oL ob od of D L (up1 b z v) d f (wr ν ob z v) := by
  obtain ⟨a1, a2, a3, a4, a5⟩ := h
  obtain ⟨n1, n2, n3, n4⟩ := h1
  refine ⟨fun w p q => ?_, fun w p q => ?_, fun x hx => ?_, fun x hx => ?_, fun x hx => ?_⟩
  · rw [gi_wr_f n1]; exact a1 w p q
  · rw [gi_wr_f n2]; exact a2 w p q
  · rw [gi_wr_if ⟨hz.1, hx.1⟩ hv, a3 x hx]; rfl
  · rw [gi_wr_f n3]; exact a4 x hx
  · rw [gi_wr_f n4]; exact a5 x hx
theorem sc22 {D L b d f : Int → Int} {ν : xm} (h : MC D L b d f ν) (hL : okL D L) {y m0 : Int} {e : Nat} (he : pthR f y e) (hm0 : 1 ≤ m0 ∧ m0 ≤ 86400) (hr : ∀ i, i < e → 1 ≤ rmR D L (f (pnR f y i)) (pnR f y i)) : xloop xfu (fun v => fX7_send_b22 v.1 v.2.1 v.2.2 ν) (j32 m0, j32 y, j32 0) = some (.inl (j32 (mnR D L f y m0 e), j32 (pnR f y e))) := by
  obtain ⟨e1, e2, e3, e4, e5⟩ := he
  refine xloop_for (fun i : Nat => (j32 (mnR D L f y m0 i), j32 (pnR f y i), j32 i)) e (by omega) rfl ?_ ?_
  · intro i hi
    have hmn := mnR_ok (D := D) (L := L) (f := f) (y := y) (m := m0) hm0.1 i (fun j hj => hr j (by omega))
    have p1 := e4 i (by omega)
    have p2 : P8 (f (pnR f y i)) := e4 (i + 1) (by omega)
    have d1 := h.2.2.2.2 _ p1
    have d2 := eX7_room h hL p2 p1
    have d3 := eX11_isPerson (p := f (pnR f y i)) (by omega)
    have b1 := rmR_b hL p2 p1
    have em : mnR D L f y m0 (i + 1) = min (mnR D L f y m0 i) (rmR D L (f (pnR f y i)) (pnR f y i)) := rfl
    have ep : pnR f y (i + 1) = f (pnR f y i) := rfl
    rw [em, ep]
    show fX7_send_b22 (j32 (mnR D L f y m0 i)) (j32 (pnR f y i)) (j32 i) ν = _
    generalize mnR D L f y m0 i = M at *
    generalize pnR f y i = P at *
    unfold fX7_send_b22
    simp (disch := omega) only [Bool.false_eq_true, lits, jj, jc, jm, Int.cast_ofNat_Int, j_bi0, j_bi1, not_true, not_false_eq_true, if_true, if_false, xe, xok_some, Sum.elim_inl, Sum.elim_inr, Int.reduceEq, Int.reduceLT, Int.reduceLE, Int.reduceAdd, Int.reduceSub, Int.reduceMul, show ¬ (8 : Int) ≤ i by omega, d1, show f P ≠ -1 by omega, d3, eq_true p2, d2, j_min]
    rfl
  · have p1 := e4 e (Nat.le_refl _)
    have d1 := h.2.2.2.2 _ p1
    rw [e2] at d1
    show fX7_send_b22 _ (j32 (pnR f y e)) (j32 e) ν = _
    unfold fX7_send_b22
    simp (disch := omega) only [Bool.false_eq_true, lits, jj, jc, jm, Int.cast_ofNat_Int, j_bi0, j_bi1, not_true, not_false_eq_true, if_true, if_false, xe, xok_some, Sum.elim_inl, Sum.elim_inr, Int.reduceEq, Int.reduceLT, Int.reduceLE, Int.reduceAdd, Int.reduceSub, Int.reduceMul, show ¬ (8 : Int) ≤ e by omega, d1]
theorem sc5 {D L b d f : Int → Int} {ν : xm} (h : MC D L b d f ν) (hL : okL D L) {y m : Int} {e : Nat} (he : pthR f y e) (hm : 1 ≤ m ∧ m ≤ 86400) : ∃ ν', fX7_moveAlong (j32 y) (j32 m) ν = some ν' ∧ MC D (mvR f y m L e) b d f ν' ∧ fR ν ν' := by
  have hmb := mvR_b hL hm he
  obtain ⟨e1, e2, e3, e4, e5⟩ := id he
  have key : xok (xloop xfu (fun v => fX7_moveAlong_b5 v.1 v.2.1 v.2.2 (j32 m)) (j32 y, j32 0, ν)) (fun r => ∃ ν', r = .inr ν' ∧ MC D (mvR f y m L e) b d f ν' ∧ fR ν ν') := by
    refine xok_for (fun i t => t.1 = j32 (pnR f y i) ∧ t.2.1 = j32 i ∧ MC D (mvR f y m L i) b d f t.2.2 ∧ fR ν t.2.2) e (by omega) ⟨rfl, rfl, h, fR.rf⟩ ?_ ?_
    · intro i t hi ht
      obtain ⟨t1, t2, σ⟩ := t
      obtain ⟨g1, g2, g3, g4⟩ := ht
      simp only at g1 g2 g3 g4
      subst g1; subst g2
      have p1 := e4 i (by omega)
      have p2 : P8 (f (pnR f y i)) := e4 (i + 1) (by omega)
      have hb := hmb i (by omega)
      have em : mvR f y m L (i + 1) = psR (mvR f y m L i) (f (pnR f y i)) (pnR f y i) m := rfl
      have ep : pnR f y (i + 1) = f (pnR f y i) := rfl
      rw [em, ep]
      generalize mvR f y m L i = M at *
      generalize pnR f y i = P at *
      have d1 := g3.2.2.2.2 _ p1
      have d2 := eX7_leftFrom g3 p1 p2
      have d3 := eX11_isPerson (p := P) (by omega)
      have d4 := eX11_isPerson (p := f P) (by omega)
      have d5 := g3.2.1 (8 * P + f P) (by omega) (by omega)
      have d6 := g3.2.1 (8 * f P + P) (by omega) (by omega)
      have b1 := hb (8 * P + f P) (by omega) (by omega)
      have b2 := hb (8 * f P + P) (by omega) (by omega)
      show xok (fX7_moveAlong_b5 (j32 P) (j32 i) σ (j32 m)) _
      unfold fX7_moveAlong_b5 psR
      by_cases c : 0 < M (8 * P + f P)
      · simp (disch := omega) only [Bool.false_eq_true, lits, jj, jc, jm, Int.cast_ofNat_Int, j_bi0, j_bi1, not_true, not_false_eq_true, if_true, if_false, xe, xok_some, Sum.elim_inl, Sum.elim_inr, Int.reduceEq, Int.reduceLT, Int.reduceLE, Int.reduceAdd, Int.reduceSub, Int.reduceMul, show ¬ (8 : Int) ≤ i by omega, d3, eq_true p1, d1, d4, eq_true p2, d2, show ¬ M (8 * P + f P) ≤ 0 by omega, show P * 8 + f P = 8 * P + f P by omega, d5, c]
        exact ⟨by first | rfl | trivial, by first | rfl | trivial, MS_L g3 (by decide) (by omega) (by omega), g4.tr (fun o ho => gi_wr_f (by show o ≠ 37; omega))⟩
      · simp (disch := omega) only [Bool.false_eq_true, lits, jj, jc, jm, Int.cast_ofNat_Int, j_bi0, j_bi1, not_true, not_false_eq_true, if_true, if_false, xe, xok_some, Sum.elim_inl, Sum.elim_inr, Int.reduceEq, Int.reduceLT, Int.reduceLE, Int.reduceAdd, Int.reduceSub, Int.reduceMul, show ¬ (8 : Int) ≤ i by omega, d3, eq_true p1, d1, d4, eq_true p2, d2, show M (8 * P + f P) ≤ 0 by omega, show f P * 8 + P = 8 * f P + P by omega, d6, c]
        exact ⟨by first | rfl | trivial, by first | rfl | trivial, MS_L g3 (by decide) (by omega) (by omega), g4.tr (fun o ho => gi_wr_f (by show o ≠ 37; omega))⟩
    · intro t ht
      obtain ⟨t1, t2, σ⟩ := t
      obtain ⟨g1, g2, g3, g4⟩ := ht
      simp only at g1 g2 g3 g4
      subst g1; subst g2
      have p1 := e4 e (Nat.le_refl _)
      have d1 := g3.2.2.2.2 _ p1
      rw [e2] at d1
      have d3 := eX11_isPerson (p := pnR f y e) (by omega)
      have d4 := eX11_isPerson (p := -1) (by omega)
      show xok (fX7_moveAlong_b5 (j32 (pnR f y e)) (j32 e) σ (j32 m)) _
      unfold fX7_moveAlong_b5
      simp (disch := omega) only [Bool.false_eq_true, lits, jj, jc, jm, Int.cast_ofNat_Int, j_bi0, j_bi1, not_true, not_false_eq_true, if_true, if_false, xe, xok_some, Sum.elim_inl, Sum.elim_inr, Int.reduceEq, Int.reduceLT, Int.reduceLE, Int.reduceAdd, Int.reduceSub, Int.reduceMul, show ¬ (8 : Int) ≤ e by omega, d3, eq_true p1, d1, d4, false_and]
      exact ⟨σ, rfl, g3, g4⟩
  obtain ⟨r, r1, ν', rfl, r2, r3⟩ := key
  refine ⟨ν', ?_, r2, r3⟩
  unfold fX7_moveAlong
  simp only [lits] at r1 ⊢
  rw [r1, xbd_e, xsm_e1]
theorem send_C {D L b d f : Int → Int} {ν : xm} (h : MC D L b d f ν) (hL : okL D L) (hb : ∀ x, P8 x → -86400 ≤ b x ∧ b x ≤ 86400) {y m : Int} {e : Nat} (hy : P8 y) (he : pthR f y e) (hby : b y < 0) (hr : ∀ i, i < e → 1 ≤ rmR D L (f (pnR f y i)) (pnR f y i)) (hm : m = min (mnR D L f y (-b y) e) (b (pnR f y e))) (hm1 : 1 ≤ m ∧ m ≤ 86400) : ∃ ν', fX7_send (j32 y) ν = some (j32 m, ν') ∧ MC D (mvR f y m L e) (bsR b (pnR f y e) y m) d f ν' ∧ fR ν ν' := by
  have hby2 := hb y hy
  have pe := he.2.2.2.1 e (Nat.le_refl _)
  have hbe := hb _ pe
  have l1 := sc22 h hL he (m0 := -b y) (by omega) hr
  have hmn := mnR_ok (D := D) (L := L) (f := f) (y := y) (m := -b y) (by omega) e hr
  obtain ⟨q, hq⟩ : ∃ q, pnR f y e = q := ⟨_, rfl⟩
  rw [hq] at l1 hm pe hbe ⊢
  generalize mnR D L f y (-b y) e = M at *
  have d0 := eX11_isPerson (p := y) (by omega)
  have d1 := h.2.2.1 y hy
  have d2 := h.2.2.1 q pe
  have m1 := MS_b h (by decide) pe (v := b q - m) (by omega)
  have d3 := m1.2.2.1 y hy
  have bb : -200000 ≤ up1 b q (b q - m) y ∧ up1 b q (b q - m) y ≤ 200000 := by
    by_cases c : y = q
    · rw [c, up1_s]; omega
    · rw [up1_n c]; omega
  have m2 := MS_b m1 (by decide) hy (v := up1 b q (b q - m) y + m) (by omega)
  obtain ⟨ν', r1, r2, r3⟩ := sc5 m2 hL he hm1
  refine ⟨ν', ?_, r2, ?_⟩
  · unfold fX7_send
    simp only [lits] at l1 ⊢
    rw [d0, xbd_e, if_neg (by rw [j_bi0]; exact not_not_intro hy), j_gI (by omega), xbd_e, d1, xlt_e, j_neg, l1, xbd_e, xsm_e0]
    show xbd (xgI ν iC_striking_balance 8 (j32 q)) _ = _
    rw [j_gI (by omega), xbd_e, d2, xlt_e, xbd_e]
    show xbd (xsI ν iC_striking_balance 8 (j32 q) (j32 (b q) - xmin (j32 M) (j32 (b q)))) _ = _
    rw [j_min (by omega) (by omega), ← hm, j_sub, j_sI (by omega), xbd_e, j_gI (by omega), xbd_e, d3, j_add, j_sI (by omega), xbd_e, r1, xbd_e]
  · intro o ho
    rw [r3 o ho, gi_wr_f (by show o ≠ 38; omega), gi_wr_f (by show o ≠ 38; omega)]
/-- a step of round -/
def lstR (D : Int → Int) (t : SS) : Int := ntR t.2 (meaR D t.1 t.2).1 8
noncomputable def eR (D : Int → Int) (t : SS) : Nat := Classical.epsilon (pthR (meaR D t.1 t.2).2 (lstR D t))
noncomputable def mR (D : Int → Int) (t : SS) : Int := min (mnR D t.1 (meaR D t.1 t.2).2 (lstR D t) (-t.2 (lstR D t)) (eR D t)) (t.2 (pnR (meaR D t.1 t.2).2 (lstR D t) (eR D t)))
noncomputable def stpR (D : Int → Int) (t : SS) : SS := (mvR (meaR D t.1 t.2).2 (lstR D t) (mR D t) t.1 (eR D t), bsR t.2 (pnR (meaR D t.1 t.2).2 (lstR D t) (eR D t)) (lstR D t) (mR D t))
noncomputable def stN (D : Int → Int) (t : SS) : Nat → SS
  | 0 => t
  | k + 1 => stpR D (stN D t k)
theorem eps_ok {p : Nat → Prop} (h : ∃ e, p e) : p (Classical.epsilon p) := Classical.epsilon_spec h
theorem stp_ok {D : Int → Int} {t : SS} (h : PI D t.1 t.2) (hl : lstR D t ≠ -1) : P8 (lstR D t) ∧ t.2 (lstR D t) < 0 ∧ pthR (meaR D t.1 t.2).2 (lstR D t) (eR D t) ∧ (1 ≤ mR D t ∧ mR D t ≤ 86400) ∧ (∀ i, i < eR D t → 1 ≤ rmR D t.1 ((meaR D t.1 t.2).2 (pnR (meaR D t.1 t.2).2 (lstR D t) i)) (pnR (meaR D t.1 t.2).2 (lstR D t) i)) ∧ PI D (stpR D t).1 (stpR D t).2 ∧ wB (stpR D t).2 + 1 ≤ wB t.2 ∧ sumTo (stpR D t).1 64 = sumTo t.1 64 + (meaR D t.1 t.2).1 (lstR D t) * mR D t := by
  have hn : (-1 ≤ lstR D t ∧ lstR D t < 8) ∧ (lstR D t ≠ -1 → t.2 (lstR D t) < 0 ∧ (meaR D t.1 t.2).1 (lstR D t) < 1000) := by
    unfold lstR
    exact ntR_ok (b := t.2) (d := (meaR D t.1 t.2).1) 8
  have hy : P8 (lstR D t) := ⟨by omega, by omega⟩
  obtain ⟨hb, hd⟩ := hn.2 hl
  obtain ⟨e, he, he1, hs⟩ := send_ok h hy hb hd
  have he' : pthR (meaR D t.1 t.2).2 (lstR D t) (eR D t) := by
    unfold eR
    generalize (meaR D t.1 t.2).2 = F at he ⊢
    generalize lstR D t = Y at he ⊢
    exact eps_ok ⟨e, he⟩
  have heq := pth_u he he'
  rw [heq] at hs
  obtain ⟨m1, m2, m3, m4⟩ := hs (mR D t) rfl
  exact ⟨hy, hb, he', ⟨m1.1, m1.2.1⟩, fun i hi => Int.le_trans m1.1 (m1.2.2.2.2 i hi), m2, m3, m4⟩
theorem wB_0 (b : Int → Int) : 0 ≤ wB b := by
  have := sum_le (f := fun _ => 0) (g := fun x => max (b x) 0) (k := 8) (fun z _ _ => by show (0 : Int) ≤ max (b z) 0; omega)
  rw [sumTo_zero] at this
  exact this
theorem stN_end {D : Int → Int} {t : SS} (h : PI D t.1 t.2) : ∃ N : Nat, (N : Int) ≤ wB t.2 ∧ lstR D (stN D t N) = -1 ∧ (∀ k, k < N → lstR D (stN D t k) ≠ -1) ∧ ∀ k, k ≤ N → PI D (stN D t k).1 (stN D t k).2 := by
  have key : ∀ n : Nat, (∃ N : Nat, N ≤ n ∧ (N : Int) ≤ wB t.2 ∧ lstR D (stN D t N) = -1 ∧ (∀ k, k < N → lstR D (stN D t k) ≠ -1) ∧ ∀ k, k ≤ N → PI D (stN D t k).1 (stN D t k).2) ∨ ((∀ k, k ≤ n → lstR D (stN D t k) ≠ -1 ∧ PI D (stN D t k).1 (stN D t k).2) ∧ wB (stN D t n).2 + n ≤ wB t.2) := by
    intro n
    induction n with
    | zero =>
      by_cases c : lstR D t = -1
      · left
        exact ⟨0, Nat.le_refl _, wB_0 _, c, fun k hk => by omega, fun k hk => by rw [show k = 0 by omega]; exact h⟩
      · right
        refine ⟨fun k hk => by rw [show k = 0 by omega]; exact ⟨c, h⟩, ?_⟩
        show wB t.2 + ((0 : Nat) : Int) ≤ wB t.2
        omega
    | succ n ih =>
      rcases ih with ⟨N, a1, a2⟩ | ⟨a1, a2⟩
      · exact Or.inl ⟨N, by omega, a2⟩
      · have an := a1 n (Nat.le_refl _)
        obtain ⟨_, _, _, _, _, p1, p2, _⟩ := stp_ok an.2 an.1
        have en : stN D t (n + 1) = stpR D (stN D t n) := rfl
        rw [← en] at p1 p2
        have w0 := wB_0 (stN D t (n + 1)).2
        by_cases c : lstR D (stN D t (n + 1)) = -1
        · left
          refine ⟨n + 1, Nat.le_refl _, by omega, c, fun k hk => (a1 k (by omega)).1, fun k hk => ?_⟩
          by_cases q : k = n + 1
          · rw [q]; exact p1
          · exact (a1 k (by omega)).2
        · right
          refine ⟨fun k hk => ?_, by omega⟩
          by_cases q : k = n + 1
          · rw [q]; exact ⟨c, p1⟩
          · exact a1 k (by omega)
  rcases key (wB t.2).toNat with ⟨N, a1, a2⟩ | ⟨a1, a2⟩
  · exact ⟨N, a2⟩
  · exfalso
    have an := a1 _ (Nat.le_refl _)
    obtain ⟨_, _, _, _, _, p1, p2, _⟩ := stp_ok an.2 an.1
    have w0 := wB_0 (stpR D (stN D t (wB t.2).toNat)).2
    have w1 := wB_0 t.2
    omega
theorem sumL_b {D L : Int → Int} (hL : okL D L) : 0 ≤ sumTo L 64 ∧ sumTo L 64 ≤ 86400 * 64 :=
  sumTo_b (k := 64) (fun z a b => by have := hL z a b; omega)
theorem least_C {D L b d f : Int → Int} {ν : xm} (h : MC D L b d f ν) (hP : PI D L b) (h0 : sumTo L 64 = 0) {N : Nat} (hN : N ≤ 86400) (hlast : lstR D (stN D (L, b) N) = -1) (hne : ∀ k, k < N → lstR D (stN D (L, b) k) ≠ -1) (hPk : ∀ k, k ≤ N → PI D (stN D (L, b) k).1 (stN D (L, b) k).2) : ∃ ν', fX7_leastLeft ν = some (j32 (sumTo (stN D (L, b) N).1 64), ν') ∧ fR ν ν' := by
  have key : xok (xloop xfu (fun v => fX7_leastLeft_b4 v.1 v.2.1 v.2.2) (j32 0, j32 0, ν)) (fun r => ∃ ν', r = .inr (j32 (sumTo (stN D (L, b) N).1 64), ν') ∧ fR ν ν') := by
    refine xok_for (fun k t => t.1 = j32 (sumTo (stN D (L, b) k).1 64) ∧ t.2.1 = j32 k ∧ fR ν t.2.2 ∧ ∃ d f, MC D (stN D (L, b) k).1 (stN D (L, b) k).2 d f t.2.2) N (by omega) ⟨by show j32 0 = j32 (sumTo L 64); rw [h0], rfl, fR.rf, d, f, h⟩ ?_ ?_
    · intro k t hk ht
      obtain ⟨t1, t2, σ⟩ := t
      obtain ⟨g1, g2, g3, d', f', g4⟩ := ht
      simp only at g1 g2 g3 g4
      subst g1; subst g2
      have hPI := hPk k (by omega)
      have hl := hne k hk
      have hPI2 := hPk (k + 1) (by omega)
      have en : stN D (L, b) (k + 1) = stpR D (stN D (L, b) k) := rfl
      rw [en] at hPI2 ⊢
      generalize stN D (L, b) k = s at *
      obtain ⟨σ1, r1, r2, r3⟩ := mea_C hPI g4
      have hme := mea_ok hPI
      have hBR := hme.2.1
      have dB1 : ∀ x, P8 x → -1000 ≤ (meaR D s.1 s.2).1 x ∧ (meaR D s.1 s.2).1 x ≤ 1000 := fun x hx => by have := hBR x hx; omega
      have r4 : fX7_nearestTaker σ1 = some (j32 (lstR D s)) := nt_C r2 dB1 hPI.2.2.2
      obtain ⟨q1, q2, q3, q4, q5, q6, q7, q8⟩ := stp_ok hPI hl
      obtain ⟨σ2, u1, u2, u3⟩ := send_C r2 hPI.1 hPI.2.2.2 q1 q3 q2 q5 rfl q4
      have d1 := r2.2.2.2.1 _ q1
      have sb := sumL_b hPI.1
      have dl := dB1 _ q1
      show xok (fX7_leastLeft_b4 (j32 (sumTo s.1 64)) (j32 k) σ) _
      unfold fX7_leastLeft_b4
      simp only [lits]
      rw [if_neg (by rw [j_le (by omega) (by omega)]; omega), r1, xbd_e, r4, xbd_e, if_neg (by rw [show -j32 1 = j32 (-1) from rfl, j_eq (by omega) (by omega)]; exact hl), j_gI (by omega), xbd_e, d1, u1, xbd_e, xlt_e]
      show xok (xlt (j32 (k : Int) + j32 1) fun x10 => some (Sum.inl (j32 (sumTo s.1 64) + j32 ((meaR D s.1 s.2).1 (lstR D s)) * j32 (mR D s), x10, σ2))) _
      rw [xlt_e, j_mul, j_add, j_add, ← q8, xok_some]
      exact ⟨rfl, rfl, (g3.tr r3).tr u3, _, _, u2⟩
    · intro t ht
      obtain ⟨t1, t2, σ⟩ := t
      obtain ⟨g1, g2, g3, d', f', g4⟩ := ht
      simp only at g1 g2 g3 g4
      subst g1; subst g2
      have hPI := hPk N (Nat.le_refl _)
      generalize stN D (L, b) N = s at *
      obtain ⟨σ1, r1, r2, r3⟩ := mea_C hPI g4
      have hBR := (mea_ok hPI).2.1
      have dB1 : ∀ x, P8 x → -1000 ≤ (meaR D s.1 s.2).1 x ∧ (meaR D s.1 s.2).1 x ≤ 1000 := fun x hx => by have := hBR x hx; omega
      have r4 : fX7_nearestTaker σ1 = some (j32 (lstR D s)) := nt_C r2 dB1 hPI.2.2.2
      rw [hlast] at r4
      show xok (fX7_leastLeft_b4 (j32 (sumTo s.1 64)) (j32 N) σ) _
      unfold fX7_leastLeft_b4
      simp only [lits]
      rw [if_neg (by rw [j_le (by omega) (by omega)]; omega), r1, xbd_e, r4, xbd_e, if_pos (by rfl), xok_some]
      exact ⟨σ1, rfl, g3.tr r3⟩
  obtain ⟨r, r1, ν', rfl, r2⟩ := key
  refine ⟨ν', ?_, r2⟩
  unfold fX7_leastLeft
  simp only [lits] at r1 ⊢
  rw [r1, xbd_e, xsm_e1]
