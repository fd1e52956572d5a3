/-! how the program reads a condition -/
def ChoSt (B : xm) (o : Nat) (N p0 s u : Int) (c : Int → Int) (pd : Option Pc) (t : Pc) (p x : Int) (μ : xm) : Prop := (∀ z, 0 ≤ z → z < s → gi μ (o + 5) z = c z) ∧ p ≤ N ∧ match pd with
  | none => x = 0 ∧ ∃ s1, CS B o p s1 μ ∧ s < s1 ∧ s1 - s ≤ p - p0 ∧ SegC (gi μ (o + 5)) s s1 (u + 1) (bo t)
  | some l => x = 1 ∧ ∃ sm s1, CS B o p s1 μ ∧ s < sm ∧ sm < s1 ∧ s1 - s + 1 ≤ p - p0 ∧ SegC (gi μ (o + 5)) s sm (u + 2) (bo l) ∧ SegC (gi μ (o + 5)) sm s1 (u + 1) (bo t)
abbrev bdH (rd : Int32 → xm → xr → Option xm) (op : Int) (R : xr) (v : Int32 × Int32 × xm) : Option ((Int32 × Int32 × xm) ⊕ (Int32 × xm)) := fX1_readChoice_b9 v.1 v.2.1 v.2.2 (j32 op) R rd
abbrev endH (R : xr) (q : Int32 × xm) : Option xm := if q.1 = 0 then (some q.2) else (xbd (R iC_reader 2) fun a20 => xbd (fX0_emit a20 124 q.2) fun q21 => some q21)
theorem ChoSt.shut {B : xm} {R : xr} {o : Nat} {T : Int → Int} {N p0 s u p x : Int} {c : Int → Int} {pd : Option Pc} {t : Pc} {μ : xm} (hB : BOK B R o T N) (h : ChoSt B o N p0 s u c pd t p x μ) (hs : 0 ≤ s) (hp : s ≤ p0) : (x = 0 → CGo B o N p0 s (u + 2) c (bo (fio pd t)) p μ ∧ pd = none) ∧ (x ≠ 0 → x = 1 ∧ ∃ s1, fX0_emit o (j32 124) μ = some (em μ o s1 124) ∧ CGo B o N p0 s (u + 2) c (bo (fio pd t)) p (em μ o s1 124)) := by
  obtain ⟨h1, hN, h2⟩ := h
  have hN2 := hB.2.2.2.1
  cases pd with
  | none =>
    obtain ⟨e, s1, a1, a2, a3, a4⟩ := h2
    exact ⟨fun _ => ⟨⟨s1, a1, a2, a3, hN, h1, a4.mono (by omega)⟩, rfl⟩, fun k => absurd e k⟩
  | some y =>
    obtain ⟨e, sm, s1, a1, a2, a3, a4, a5, a6⟩ := h2
    refine ⟨fun k => by omega, fun _ => ⟨e, s1, e_emit a1 (by omega) 124, ?_⟩⟩
    obtain ⟨b1, b2, b3⟩ := CS.emits hB a1 (w := 124) (by omega) (by omega)
    refine ⟨s1 + 1, b1, by omega, by omega, hN, fun z z0 z1 => (b2 z z0 (by omega)).trans (h1 z z0 z1), ?_⟩
    exact (a5.keep b2 (by omega)).or (a6.keep b2 (by omega)) b3 (by omega) (by omega)
theorem d_endH {B : xm} {R : xr} {o : Nat} {T : Int → Int} {N f q : Int} {μ : xm} (hB : BOK B R o T N) (h : CD B o f q μ) (x : Int32) : xok (endH R (x, μ)) (CD B o f q) := by
  unfold endH
  by_cases c : x = 0
  · rw [if_pos c]; exact xok_some.mpr h
  · rw [if_neg c, hB.1, xbd_e]
    obtain ⟨ν, e, hd⟩ := d_emit hB h 124
    rw [show fX0_emit o 124 (x, μ).2 = some ν from e, xbd_e]
    exact xok_some.mpr hd
theorem d_loopH {B : xm} {R : xr} {o : Nat} {T : Int → Int} {N f q : Int} {μ : xm} (hB : BOK B R o T N) (h : CD B o f q μ) (rd : Int32 → xm → xr → Option xm) (op : Int) (x i : Int32) (n : Nat) : xok (xloop (n + 1) (bdH rd op R) (x, i, μ)) (fun q' => xok (endH R q') (CD B o f q)) := by
  have e : bdH rd op R (x, i, μ) = some (.inr (x, μ)) := by
    show fX1_readChoice_b9 x i μ (j32 op) R rd = _
    unfold fX1_readChoice_b9
    by_cases c : 200 ≤ i
    · rw [if_pos c]
    · rw [if_neg c, d_sign h, xbd_e, if_neg (by decide), xbd_e, if_neg (by decide)]
  unfold xloop
  rw [e]
  exact xok_some.mpr (d_endH hB h x)
theorem g_endH {B : xm} {R : xr} {o : Nat} {T : Int → Int} {N p0 s u p x : Int} {c : Int → Int} {pd : Option Pc} {t : Pc} {μ : xm} (hB : BOK B R o T N) (h : ChoSt B o N p0 s u c pd t p x μ) (hs : 0 ≤ s) (hp : s ≤ p0) : xok (endH R (j32 x, μ)) (CGo B o N p0 s (u + 2) c (bo (fio pd t)) p) := by
  obtain ⟨g1, g2⟩ := h.shut hB hs hp
  show xok (if j32 x = j32 0 then some μ else xbd (R iC_reader 2) fun a21 => xbd (fX0_emit a21 (j32 124) μ) fun q22 => some q22) _
  by_cases d : x = 0
  · rw [if_pos (by rw [d])]
    exact xok_some.mpr (g1 d).1
  · obtain ⟨g3, s1, g4, g5⟩ := g2 d
    rw [if_neg (fun e => d ((j_eq (by omega) (by omega)).mp e)), hB.1, xbd_e, g4, xbd_e]
    exact xok_some.mpr g5
theorem bdH_or {B : xm} {R : xr} {o : Nat} {T : Int → Int} {N p s x i op : Int} {μ : xm} (hB : BOK B R o T N) (h : CS B o p s μ) (hp : 0 ≤ p ∧ p < N) (hi : 0 ≤ i ∧ i < 200) (rd : Int32 → xm → xr → Option xm) (hc : sgT T N p = 124) : (x = 0 → bdH rd op R (j32 x, j32 i, μ) = xbd (rd (j32 op) (wr μ iC_reader 4 (p + 1)) R) fun q => some (.inl (j32 1, j32 (i + 1), q))) ∧ (∀ ν, x = 1 → fX0_emit o (j32 124) (wr μ iC_reader 4 (p + 1)) = some ν → bdH rd op R (j32 x, j32 i, μ) = xbd (rd (j32 op) ν R) fun q => some (.inl (j32 1, j32 (i + 1), q))) := by
  have hN := hB.2.2.2.1
  have i2 : ¬ 200 ≤ i := by omega
  have isg := e_sign hB h (by omega)
  rw [hc] at isg
  refine ⟨fun hx => ?_, fun ν hx he => ?_⟩
  · show fX1_readChoice_b9 (j32 x) (j32 i) μ (j32 op) R rd = _
    unfold fX1_readChoice_b9 fX1_readChoice_j34 fX1_readChoice_j70 fX1_readChoice_j79
    subst hx
    simp (disch := omega) only [Bool.false_eq_true, lits, jj, jc, jm, Int.cast_ofNat_Int, j_bi0, j_bi1, not_true, not_false_eq_true, if_true, if_false, xe, xok_some, Sum.elim_inl, Sum.elim_inr, Int.reduceEq, Int.reduceLT, Int.reduceLE, Int.reduceAdd, Int.reduceSub, Int.reduceMul, isg, i2, h.2.1]
  · show fX1_readChoice_b9 (j32 x) (j32 i) μ (j32 op) R rd = _
    unfold fX1_readChoice_b9 fX1_readChoice_j34 fX1_readChoice_j70 fX1_readChoice_j79
    subst hx
    simp (disch := omega) only [Bool.false_eq_true, lits, jj, jc, jm, Int.cast_ofNat_Int, j_bi0, j_bi1, not_true, not_false_eq_true, if_true, if_false, xe, xok_some, Sum.elim_inl, Sum.elim_inr, Int.reduceEq, Int.reduceLT, Int.reduceLE, Int.reduceAdd, Int.reduceSub, Int.reduceMul, isg, i2, h.2.1, hB.1, he]
theorem bdH_and {B : xm} {R : xr} {o : Nat} {T : Int → Int} {N p s x i op : Int} {μ : xm} (hB : BOK B R o T N) (h : CS B o p s μ) (hp : 0 ≤ p ∧ p < N) (hi : 0 ≤ i ∧ i < 200) (rd : Int32 → xm → xr → Option xm) (hc : sgT T N p = 38) : bdH rd op R (j32 x, j32 i, μ) = xbd (rd (j32 op) (wr μ iC_reader 4 (p + 1)) R) fun q => xbd (fX0_emit o (j32 38) q) fun q16 => some (.inl (j32 x, j32 (i + 1), q16)) := by
  have hN := hB.2.2.2.1
  have i2 : ¬ 200 ≤ i := by omega
  have isg := e_sign hB h (by omega)
  rw [hc] at isg
  show fX1_readChoice_b9 (j32 x) (j32 i) μ (j32 op) R rd = _
  unfold fX1_readChoice_b9 fX1_readChoice_j34 fX1_readChoice_j70 fX1_readChoice_j79
  simp (disch := omega) only [Bool.false_eq_true, lits, jj, jc, jm, Int.cast_ofNat_Int, j_bi0, j_bi1, not_true, not_false_eq_true, if_true, if_false, xe, xok_some, Sum.elim_inl, Sum.elim_inr, Int.reduceEq, Int.reduceLT, Int.reduceLE, Int.reduceAdd, Int.reduceSub, Int.reduceMul, isg, i2, h.2.1, hB.1]
theorem bdH_no {B : xm} {R : xr} {o : Nat} {T : Int → Int} {N p s x i op : Int} {μ : xm} (hB : BOK B R o T N) (h : CS B o p s μ) (hp : 0 ≤ p ∧ p ≤ N) (rd : Int32 → xm → xr → Option xm) (h2 : ¬ (sgT T N p = 124 ∨ sgT T N p = 38)) : bdH rd op R (j32 x, j32 i, μ) = some (.inr (j32 x, μ)) := by
  have isg := e_sign hB h (by omega)
  have hb := sgT_b hB p
  show fX1_readChoice_b9 (j32 x) (j32 i) μ (j32 op) R rd = _
  unfold fX1_readChoice_b9
  by_cases c : 200 ≤ j32 i
  · rw [if_pos c]
  · rw [if_neg c, isg, xbd_e, if_neg (show ¬ j32 (sgT T N p) = 124 from fun e => h2 (Or.inl ((j_eq (by omega) (by omega)).mp e))), xbd_e, if_neg (show ¬ j32 (sgT T N p) = 38 from fun e => h2 (Or.inr ((j_eq (by omega) (by omega)).mp e)))]
theorem e_loopH {B : xm} {R : xr} {o : Nat} {T : Int → Int} {N p0 s u op : Int} {c : Int → Int} (hB : BOK B R o T N) (hs : 0 ≤ s) (hp : s ≤ p0) (h0 : 0 ≤ p0) {rd : Int32 → xm → xr → Option xm} {Pi : Int → Int → Rs Pc} (hu : 1 ≤ u) (hG : GoodR bo B R o N rd Pi op u) : ∀ (k : Nat) (p x : Int) (pd : Option Pc) (t : Pc) (μ : xm), k ≤ 200 → ChoSt B o N p0 s u c pd t p x μ → ∀ n, xok (xloop (n + k + 1) (bdH rd op R) (j32 x, j32 (200 - k), μ)) (fun q => xok (endH R q) (RkC bo B o N p0 s (u + 2) c (pChoL (sgT T N) Pi op k p pd t))) := by
  intro k
  induction k with
  | zero =>
    intro p x pd t μ hk hS n
    have e : bdH rd op R (j32 x, j32 (200 - (0 : Nat)), μ) = some (.inr (j32 x, μ)) := by
      show fX1_readChoice_b9 (j32 x) (j32 (200 - (0 : Nat))) μ (j32 op) R rd = _
      unfold fX1_readChoice_b9
      rw [if_pos (by decide)]
    unfold xloop
    rw [e]
    exact xok_some.mpr (g_endH hB hS hs hp)
  | succ k ih =>
    intro p x pd t μ hk hS n
    have hN := hB.2.2.2.1
    have hpp : s ≤ p ∧ p ≤ N ∧ p0 ≤ p ∧ ∃ s1, CS B o p s1 μ ∧ s < s1 ∧ s1 ≤ p := by
      obtain ⟨a, b, d⟩ := hS
      cases pd with
      | none => obtain ⟨_, s1, d1, d2, d3, d4⟩ := d; exact ⟨by omega, b, by omega, s1, d1, d2, by omega⟩
      | some y => obtain ⟨_, sm, s1, d1, d2, d3, d4, d5, d6⟩ := d; exact ⟨by omega, b, by omega, s1, d1, by omega, by omega⟩
    obtain ⟨q1, q2, q3, s1, q4, q5, q6⟩ := hpp
    have hsg := sgT_b hB p
    obtain ⟨i, hi⟩ : ∃ i : Int, i = 200 - ((k + 1 : Nat) : Int) := ⟨_, rfl⟩
    have hi1 : 200 - (k : Int) = i + 1 := by omega
    rw [← hi]
    rw [hi1] at ih
    rw [show n + (k + 1) + 1 = (n + k + 1) + 1 by omega]
    unfold xloop pChoL
    by_cases io : sgT T N p = 124 ∨ sgT T N p = 38
    · have hpN : 0 ≤ p ∧ p < N := hsg.2.2 (by omega)
      rw [if_pos io]
      obtain ⟨w1, w2⟩ := CS.go hB q4 hpN
      by_cases ad : sgT T N p = 124
      · obtain ⟨f1, f2⟩ := bdH_or (x := x) (op := op) (i := i) hB q4 hpN (by omega) rd ad
        have hS' : ∃ ν s2, bdH rd op R (j32 x, j32 i, μ) = (xbd (rd (j32 op) ν R) fun q => some (.inl (j32 1, j32 (i + 1), q))) ∧ CS B o (p + 1) s2 ν ∧ s < s2 ∧ s2 - s ≤ p - p0 ∧ (∀ z, 0 ≤ z → z < s → gi ν (o + 5) z = c z) ∧ SegC (gi ν (o + 5)) s s2 (u + 2) (bo (fio pd t)) := by
          obtain ⟨a, b, d⟩ := hS
          cases pd with
          | none =>
            obtain ⟨e, s1', d1, d2, d3, d4⟩ := d
            refine ⟨_, s1', f1 e, (CS.go hB d1 hpN).1, d2, d3, ?_, ?_⟩
            · rw [w2]; exact a
            · rw [w2]; exact d4.mono (by omega)
          | some y =>
            obtain ⟨e, sm, s1', d1, d2, d3, d4, d5, d6⟩ := d
            have w3 := (CS.go hB d1 hpN).1
            obtain ⟨b1, b2, b3⟩ := CS.emits hB w3 (w := 124) (by omega) (by omega)
            rw [w2] at b2
            refine ⟨_, s1' + 1, f2 _ e (e_emit w3 (by omega) 124), b1, by omega, by omega, fun z z0 z1 => (b2 z z0 (by omega)).trans (a z z0 z1), ?_⟩
            exact (d5.keep b2 (by omega)).or (d6.keep b2 (by omega)) b3 (by omega) (by omega)
        obtain ⟨ν, s2, e1, e2, e3, e4, e5, e6⟩ := hS'
        rw [e1]
        obtain ⟨ρ, r1, r2⟩ := hG (p + 1) s2 ν e2 (by omega) (by omega) (by omega)
        rw [r1, xbd_e]
        show xok (xloop (n + k + 1) (bdH rd op R) (j32 1, j32 (i + 1), ρ)) _
        cases hr : Pi op (p + 1) with
        | inl ev => rw [hr] at r2; exact d_loopH hB r2 rd op _ _ (n + k)
        | inr ev =>
          rw [hr] at r2
          obtain ⟨s3, g1, g2, g3, g4, g5, g6⟩ := r2
          dsimp only
          rw [if_pos ad]
          exact ih ev.1 1 (some (fio pd t)) ev.2 ρ (by omega) ⟨fun z z0 z1 => (g5 z z0 (by omega)).trans (e5 z z0 z1), g4, rfl, s2, s3, g1, e3, g2, by omega, e6.keep g5 (by omega), g6.mono (by omega)⟩ n
      · have mu : sgT T N p = 38 := by omega
        rw [bdH_and (x := x) (op := op) (i := i) hB q4 hpN (by omega) rd mu]
        obtain ⟨ρ, r1, r2⟩ := hG (p + 1) s1 _ w1 (by omega) (by omega) (by omega)
        rw [w2] at r2
        rw [r1, xbd_e]
        cases hr : Pi op (p + 1) with
        | inl ev =>
          rw [hr] at r2
          obtain ⟨ν, e1, e2⟩ := d_emit hB r2 (j32 38)
          rw [e1, xbd_e]
          exact d_loopH hB e2 rd op _ _ (n + k)
        | inr ev =>
          rw [hr] at r2
          obtain ⟨s3, g1, g2, g3, g4, g5, g6⟩ := r2
          dsimp only
          rw [if_neg ad, e_emit g1 (by omega), xbd_e]
          obtain ⟨b1, b2, b3⟩ := CS.emits hB g1 (w := 38) (by omega) (by omega)
          refine ih ev.1 x pd (phAnd t ev.2) _ (by omega) ?_ n
          obtain ⟨a, b, d⟩ := hS
          refine ⟨fun z z0 z1 => (b2 z z0 (by omega)).trans ((g5 z z0 (by omega)).trans (a z z0 z1)), g4, ?_⟩
          have hj : ∀ y : Int, y ≤ s1 → ∀ z, 0 ≤ z → z < y → gi (em ρ o s3 38) (o + 5) z = gi μ (o + 5) z := fun y hy z z0 z1 => (b2 z z0 (by omega)).trans (g5 z z0 (by omega))
          cases pd with
          | none =>
            obtain ⟨e, s1', d1, d2, d3, d4⟩ := d
            have es : s1' = s1 := d1.2.2.2.symm.trans q4.2.2.2
            subst es
            exact ⟨e, s3 + 1, b1, by omega, by omega, (d4.keep (hj s1' (by omega)) (by omega)).and (g6.keep b2 (by omega)) b3 (by omega) (by omega)⟩
          | some y =>
            obtain ⟨e, sm, s1', d1, d2, d3, d4, d5, d6⟩ := d
            have es : s1' = s1 := d1.2.2.2.symm.trans q4.2.2.2
            subst es
            exact ⟨e, sm, s3 + 1, b1, d2, by omega, by omega, d5.keep (hj sm (by omega)) (by omega), (d6.keep (hj s1' (by omega)) (by omega)).and (g6.keep b2 (by omega)) b3 (by omega) (by omega)⟩
    · rw [if_neg io, bdH_no hB q4 (by omega) rd io]
      exact xok_some.mpr (g_endH hB hS hs hp)
theorem ccho {B : xm} {R : xr} {o : Nat} {T : Int → Int} {N u op : Int} (hB : BOK B R o T N) {rd : Int32 → xm → xr → Option xm} {Pi : Int → Int → Rs Pc} (hu : 1 ≤ u) (hG : GoodR bo B R o N rd Pi op u) : GoodR bo B R o N (fX1_readChoice rd) (pCho (sgT T N) Pi) op (u + 2) := by
  intro p s μ h hs hsp hp
  unfold fX1_readChoice pCho
  obtain ⟨ρ, r1, r2⟩ := hG p s μ h hs hsp hp
  rw [r1, xbd_e]
  cases hr : Pi op p with
  | inl ev =>
    rw [hr] at r2
    exact xok_bd.mpr (d_loopH hB r2 rd op _ _ 999999)
  | inr ev =>
    rw [hr] at r2
    obtain ⟨s3, g1, g2, g3, g4, g5, g6⟩ := r2
    refine xok_bd.mpr ?_
    exact e_loopH hB hs hsp (by omega) hu hG 200 ev.1 0 none ev.2 ρ (by omega) ⟨g5, g4, rfl, s3, g1, g2, g3, g6.mono (by omega)⟩ 999799
theorem dcho {B : xm} {R : xr} {o : Nat} {T : Int → Int} {N op : Int} (hB : BOK B R o T N) {rd : Int32 → xm → xr → Option xm} (hD : DeadR B R o rd op) : DeadR B R o (fX1_readChoice rd) op := by
  intro f q μ h
  unfold fX1_readChoice
  obtain ⟨ρ, r1, r2⟩ := hD f q μ h
  rw [r1, xbd_e]
  exact xok_bd.mpr (d_loopH hB r2 rd op _ _ 999999)
