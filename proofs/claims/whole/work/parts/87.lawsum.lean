/-! how the program reads a sum -/
def CGo (B : xm) (o : Nat) (N p s u : Int) (c : Int → Int) (φ : Ph) (p' : Int) (ν : xm) : Prop := ∃ s', CS B o p' s' ν ∧ s < s' ∧ s' - s ≤ p' - p ∧ p' ≤ N ∧ (∀ z, 0 ≤ z → z < s → gi ν (o + 5) z = c z) ∧ SegC (gi ν (o + 5)) s s' u φ
def RkC {α : Type} (g : α → Ph) (B : xm) (o : Nat) (N p s u : Int) (c : Int → Int) (r : Rs α) (ν : xm) : Prop := match r with
  | .inl e => CD B o e.1 e.2 ν
  | .inr x => CGo B o N p s u c (g x.2) x.1 ν
def GoodR {α : Type} (g : α → Ph) (B : xm) (R : xr) (o : Nat) (N : Int) (rd : Int32 → xm → xr → Option xm) (sp : Int → Int → Rs α) (op u : Int) : Prop := ∀ p s μ, CS B o p s μ → 0 ≤ s → s ≤ p → p ≤ N → xok (rd (j32 op) μ R) (RkC g B o N p s u (gi μ (o + 5)) (sp op p))
def DeadR (B : xm) (R : xr) (o : Nat) (rd : Int32 → xm → xr → Option xm) (op : Int) : Prop := ∀ f q μ, CD B o f q μ → xok (rd (j32 op) μ R) (CD B o f q)
theorem e_isOp {c : Int} (h : -1 ≤ c ∧ c ≤ 255) : fX1_isOperator (j32 c) = some (j32 (bi (isOp c))) := by
  unfold fX1_isOperator isOp bi
  simp (disch := omega) only [Bool.false_eq_true, lits, jj, jc, jm, Int.cast_ofNat_Int, j_bi0, j_bi1, not_true, not_false_eq_true, if_true, if_false, xe, xok_some, Sum.elim_inl, Sum.elim_inr, Int.reduceEq, Int.reduceLT, Int.reduceLE, Int.reduceAdd, Int.reduceSub, Int.reduceMul]
  by_cases h1 : c = 43
  · simp only [h1, if_true, true_or]
  by_cases h2 : c = 45
  · simp only [h1, h2, if_true, true_or, or_true, if_false]; rfl
  by_cases h3 : c = 42
  · simp only [h3, if_true, true_or, or_true]; rfl
  by_cases h4 : c = 47
  · simp only [h4, if_true, true_or, or_true]; rfl
  by_cases h5 : c = 37
  · simp only [h5, if_true, or_true]; rfl
  simp only [h1, h2, h3, h4, h5, if_false, or_false]
theorem e_isDg {c : Int} (h : -1 ≤ c ∧ c ≤ 255) : fX1_isDigit (j32 c) = some (j32 (bi (isDg c))) := by
  unfold fX1_isDigit isDg bi
  simp (disch := omega) only [Bool.false_eq_true, lits, jj, jc, jm, Int.cast_ofNat_Int, j_bi0, j_bi1, not_true, not_false_eq_true, if_true, if_false, xe, xok_some, Sum.elim_inl, Sum.elim_inr, Int.reduceEq, Int.reduceLT, Int.reduceLE, Int.reduceAdd, Int.reduceSub, Int.reduceMul]
  by_cases h1 : c < 48
  · rw [if_pos h1, if_neg (by omega)]
  · by_cases h2 : 57 < c
    · rw [if_neg h1, if_pos h2, if_neg (by omega)]
    · rw [if_neg h1, if_neg h2, if_pos (by omega)]
def SumSt (B : xm) (o : Nat) (N p0 s u : Int) (c : Int → Int) (pd : Option (Int × Ph)) (t : Ph) (p x : Int) (μ : xm) : Prop := (∀ z, 0 ≤ z → z < s → gi μ (o + 5) z = c z) ∧ p ≤ N ∧ match pd with
  | none => x = -1 ∧ ∃ s1, CS B o p s1 μ ∧ s < s1 ∧ s1 - s ≤ p - p0 ∧ SegC (gi μ (o + 5)) s s1 (u + 1) t
  | some y => x = y.1 ∧ (y.1 = 43 ∨ y.1 = 45) ∧ ∃ sm s1, CS B o p s1 μ ∧ s < sm ∧ sm < s1 ∧ s1 - s + 1 ≤ p - p0 ∧ SegC (gi μ (o + 5)) s sm (u + 2) y.2 ∧ SegC (gi μ (o + 5)) sm s1 (u + 1) t
theorem SegC.keep {c c' : Int → Int} {a b s : Int} {φ : Ph} (h : SegC c a b s φ) {n : Int} (hc : ∀ z, 0 ≤ z → z < n → c' z = c z) (hb : b ≤ n) : SegC c' a b s φ :=
  h.congr fun z a1 b1 => hc z (Int.le_trans h.1 a1) (by omega)
/-- the sum so far, as one piece -/
theorem SumSt.shut {B : xm} {R : xr} {o : Nat} {T : Int → Int} {N p0 s u p x : Int} {c : Int → Int} {pd : Option (Int × Ph)} {t : Ph} {μ : xm} (hB : BOK B R o T N) (h : SumSt B o N p0 s u c pd t p x μ) (hs : 0 ≤ s) (hp : s ≤ p0) : (x = -1 → CGo B o N p0 s (u + 2) c (fin pd t) p μ ∧ pd = none) ∧ (x ≠ -1 → (x = 43 ∨ x = 45) ∧ ∃ s1, fX0_emit o (j32 x) μ = some (em μ o s1 x) ∧ CGo B o N p0 s (u + 2) c (fin pd t) p (em μ o s1 x)) := by
  obtain ⟨h1, hN, h2⟩ := h
  have hN2 := hB.2.2.2.1
  cases pd with
  | none =>
    obtain ⟨e, s1, a1, a2, a3, a4⟩ := h2
    exact ⟨fun _ => ⟨⟨s1, a1, a2, a3, hN, h1, a4.mono (by omega)⟩, rfl⟩, fun k => absurd e k⟩
  | some y =>
    obtain ⟨e, hy, sm, s1, a1, a2, a3, a4, a5, a6⟩ := h2
    refine ⟨fun k => by omega, fun _ => ⟨by omega, s1, e_emit a1 (by omega) x, ?_⟩⟩
    obtain ⟨b1, b2, b3⟩ := CS.emits hB a1 (w := x) (by omega) (by omega)
    refine ⟨s1 + 1, b1, by omega, by omega, hN, fun z z0 z1 => (b2 z z0 (by omega)).trans (h1 z z0 z1), ?_⟩
    exact (a5.keep b2 (by omega)).op (a6.keep b2 (by omega)) (by unfold isOp; omega) (b3.trans e) (by omega) (by omega)
abbrev bdS (rd : Int32 → xm → xr → Option xm) (op : Int) (R : xr) (v : Int32 × Int32 × xm) : Option ((Int32 × Int32 × xm) ⊕ (Int32 × xm)) := fX1_readSum_b9 v.1 v.2.1 v.2.2 (j32 op) R rd
abbrev endS (R : xr) (q : Int32 × xm) : Option xm := if q.1 = (-1) then (some q.2) else (xbd (R iC_reader 2) fun a21 => xbd (fX0_emit a21 q.1 q.2) fun q22 => some q22)
theorem d_endS {B : xm} {R : xr} {o : Nat} {T : Int → Int} {N f q : Int} {μ : xm} (hB : BOK B R o T N) (h : CD B o f q μ) (x : Int32) : xok (endS R (x, μ)) (CD B o f q) := by
  unfold endS
  by_cases c : x = -1
  · rw [if_pos c]; exact xok_some.mpr h
  · rw [if_neg c, hB.1, xbd_e]
    obtain ⟨ν, e, hd⟩ := d_emit hB h x
    rw [show fX0_emit o (x, μ).1 (x, μ).2 = some ν from e, xbd_e]
    exact xok_some.mpr hd
theorem d_loopS {B : xm} {R : xr} {o : Nat} {T : Int → Int} {N f q : Int} {μ : xm} (hB : BOK B R o T N) (h : CD B o f q μ) (rd : Int32 → xm → xr → Option xm) (op : Int) (x i : Int32) (n : Nat) : xok (xloop (n + 1) (bdS rd op R) (x, i, μ)) (fun q' => xok (endS R q') (CD B o f q)) := by
  have e : bdS rd op R (x, i, μ) = some (.inr (x, μ)) := by
    show fX1_readSum_b9 x i μ (j32 op) R rd = _
    unfold fX1_readSum_b9
    by_cases c : 200 ≤ i
    · rw [if_pos c]
    · rw [if_neg c, d_sign h, xbd_e, show fX1_isOperator (j32 (-1)) = some 0 from by decide, xbd_e, if_pos rfl]
  unfold xloop
  rw [e]
  exact xok_some.mpr (d_endS hB h x)
theorem g_endS {B : xm} {R : xr} {o : Nat} {T : Int → Int} {N p0 s u p x : Int} {c : Int → Int} {pd : Option (Int × Ph)} {t : Ph} {μ : xm} (hB : BOK B R o T N) (h : SumSt B o N p0 s u c pd t p x μ) (hs : 0 ≤ s) (hp : s ≤ p0) : xok (endS R (j32 x, μ)) (CGo B o N p0 s (u + 2) c (fin pd t) p) := by
  obtain ⟨g1, g2⟩ := h.shut hB hs hp
  show xok (if j32 x = j32 (-1) then some μ else xbd (R iC_reader 2) fun a21 => xbd (fX0_emit a21 (j32 x) μ) fun q22 => some q22) _
  by_cases d : x = -1
  · rw [if_pos (by rw [d])]
    exact xok_some.mpr (g1 d).1
  · obtain ⟨g3, s1, g4, g5⟩ := g2 d
    rw [if_neg (fun e => d ((j_eq (by omega) (by omega)).mp e)), hB.1, xbd_e, g4, xbd_e]
    exact xok_some.mpr g5
theorem bdS_add {B : xm} {R : xr} {o : Nat} {T : Int → Int} {N p s x i op c : Int} {μ : xm} (hB : BOK B R o T N) (h : CS B o p s μ) (hp : 0 ≤ p ∧ p < N) (hi : 0 ≤ i ∧ i < 200) (rd : Int32 → xm → xr → Option xm) (hc : sgT T N p = c) (h2 : c = 43 ∨ c = 45) : (x = -1 → bdS rd op R (j32 x, j32 i, μ) = xbd (rd (j32 op) (wr μ iC_reader 4 (p + 1)) R) fun q => some (.inl (j32 c, j32 (i + 1), q))) ∧ (∀ ν, x = 43 ∨ x = 45 → fX0_emit o (j32 x) (wr μ iC_reader 4 (p + 1)) = some ν → bdS rd op R (j32 x, j32 i, μ) = xbd (rd (j32 op) ν R) fun q => some (.inl (j32 c, j32 (i + 1), q))) := by
  have hN := hB.2.2.2.1
  have i2 : ¬ 200 ≤ i := by omega
  have isg := e_sign hB h (by omega)
  rw [hc] at isg
  have iop : fX1_isOperator (j32 c) = some (j32 1) := by rcases h2 with rfl | rfl <;> decide
  refine ⟨fun hx => ?_, fun ν hx he => ?_⟩
  · show fX1_readSum_b9 (j32 x) (j32 i) μ (j32 op) R rd = _
    unfold fX1_readSum_b9 fX1_readSum_j56 fX1_readSum_j61 fX1_readSum_j81 fX1_readSum_j89
    subst hx
    rcases h2 with rfl | rfl <;> (simp (disch := omega) only [Bool.false_eq_true, lits, jj, jc, jm, Int.cast_ofNat_Int, j_bi0, j_bi1, not_true, not_false_eq_true, if_true, if_false, xe, xok_some, Sum.elim_inl, Sum.elim_inr, Int.reduceEq, Int.reduceLT, Int.reduceLE, Int.reduceAdd, Int.reduceSub, Int.reduceMul, isg, iop, i2, h.2.1])
  · show fX1_readSum_b9 (j32 x) (j32 i) μ (j32 op) R rd = _
    unfold fX1_readSum_b9 fX1_readSum_j56 fX1_readSum_j61 fX1_readSum_j81 fX1_readSum_j89
    have hx1 : ¬ x = -1 := by omega
    rcases h2 with rfl | rfl <;> (simp (disch := omega) only [Bool.false_eq_true, lits, jj, jc, jm, Int.cast_ofNat_Int, j_bi0, j_bi1, not_true, not_false_eq_true, if_true, if_false, xe, xok_some, Sum.elim_inl, Sum.elim_inr, Int.reduceEq, Int.reduceLT, Int.reduceLE, Int.reduceAdd, Int.reduceSub, Int.reduceMul, isg, iop, i2, h.2.1, hx1, hB.1, he])
theorem bdS_mul {B : xm} {R : xr} {o : Nat} {T : Int → Int} {N p s x i op c : Int} {μ : xm} (hB : BOK B R o T N) (h : CS B o p s μ) (hp : 0 ≤ p ∧ p < N) (hi : 0 ≤ i ∧ i < 200) (rd : Int32 → xm → xr → Option xm) (hc : sgT T N p = c) (h2 : c = 42 ∨ c = 47 ∨ c = 37) : bdS rd op R (j32 x, j32 i, μ) = xbd (rd (j32 op) (wr μ iC_reader 4 (p + 1)) R) fun q => xbd (fX0_emit o (j32 c) q) fun q16 => some (.inl (j32 x, j32 (i + 1), q16)) := by
  have hN := hB.2.2.2.1
  have i2 : ¬ 200 ≤ i := by omega
  have isg := e_sign hB h (by omega)
  rw [hc] at isg
  have iop : fX1_isOperator (j32 c) = some (j32 1) := by rcases h2 with rfl | rfl | rfl <;> decide
  show fX1_readSum_b9 (j32 x) (j32 i) μ (j32 op) R rd = _
  unfold fX1_readSum_b9 fX1_readSum_j61 fX1_readSum_j81 fX1_readSum_j89
  rcases h2 with rfl | rfl | rfl <;> (simp (disch := omega) only [Bool.false_eq_true, lits, jj, jc, jm, Int.cast_ofNat_Int, j_bi0, j_bi1, not_true, not_false_eq_true, if_true, if_false, xe, xok_some, Sum.elim_inl, Sum.elim_inr, Int.reduceEq, Int.reduceLT, Int.reduceLE, Int.reduceAdd, Int.reduceSub, Int.reduceMul, isg, iop, i2, h.2.1, hB.1])
theorem bdS_no {B : xm} {R : xr} {o : Nat} {T : Int → Int} {N p s x i op : Int} {μ : xm} (hB : BOK B R o T N) (h : CS B o p s μ) (hp : 0 ≤ p ∧ p ≤ N) (rd : Int32 → xm → xr → Option xm) (h2 : ¬ isOp (sgT T N p)) : bdS rd op R (j32 x, j32 i, μ) = some (.inr (j32 x, μ)) := by
  have isg := e_sign hB h (by omega)
  have iop := e_isOp (c := sgT T N p) (by have := sgT_b hB p; omega)
  rw [bi, if_neg h2] at iop
  show fX1_readSum_b9 (j32 x) (j32 i) μ (j32 op) R rd = _
  unfold fX1_readSum_b9
  by_cases c : 200 ≤ j32 i
  · rw [if_pos c]
  · rw [if_neg c, isg, xbd_e, iop, xbd_e, if_pos (show j32 0 = 0 from rfl)]
theorem e_loopS {B : xm} {R : xr} {o : Nat} {T : Int → Int} {N p0 s u op : Int} {c : Int → Int} (hB : BOK B R o T N) (hs : 0 ≤ s) (hp : s ≤ p0) (h0 : 0 ≤ p0) {rd : Int32 → xm → xr → Option xm} {Fc : Int → Int → Rs Ph} (hu : 1 ≤ u) (hG : GoodR id B R o N rd Fc op u) : ∀ (k : Nat) (p x : Int) (pd : Option (Int × Ph)) (t : Ph) (μ : xm), k ≤ 200 → SumSt B o N p0 s u c pd t p x μ → ∀ n, xok (xloop (n + k + 1) (bdS rd op R) (j32 x, j32 (200 - k), μ)) (fun q => xok (endS R q) (RkC id B o N p0 s (u + 2) c (pSumL (sgT T N) Fc op k p pd t))) := by
  intro k
  induction k with
  | zero =>
    intro p x pd t μ hk hS n
    have e : bdS rd op R (j32 x, j32 (200 - (0 : Nat)), μ) = some (.inr (j32 x, μ)) := by
      show fX1_readSum_b9 (j32 x) (j32 (200 - (0 : Nat))) μ (j32 op) R rd = _
      unfold fX1_readSum_b9
      rw [if_pos (by decide)]
    unfold xloop
    rw [e]
    exact xok_some.mpr (g_endS hB hS hs hp)
  | succ k ih =>
    intro p x pd t μ hk hS n
    have hN := hB.2.2.2.1
    have hpp : s ≤ p ∧ p ≤ N ∧ p0 ≤ p ∧ ∃ s1, CS B o p s1 μ ∧ s < s1 ∧ s1 ≤ p := by
      obtain ⟨a, b, d⟩ := hS
      cases pd with
      | none => obtain ⟨_, s1, d1, d2, d3, d4⟩ := d; exact ⟨by omega, b, by omega, s1, d1, d2, by omega⟩
      | some y => obtain ⟨_, _, sm, s1, d1, d2, d3, d4, d5, d6⟩ := d; exact ⟨by omega, b, by omega, s1, d1, by omega, by omega⟩
    obtain ⟨q1, q2, q3, s1, q4, q5, q6⟩ := hpp
    have hsg := sgT_b hB p
    have hsg := sgT_b hB p
    obtain ⟨i, hi⟩ : ∃ i : Int, i = 200 - ((k + 1 : Nat) : Int) := ⟨_, rfl⟩
    have hi1 : 200 - (k : Int) = i + 1 := by omega
    rw [← hi]
    rw [hi1] at ih
    rw [show n + (k + 1) + 1 = (n + k + 1) + 1 by omega]
    unfold xloop pSumL
    by_cases io : isOp (sgT T N p)
    · have hpN : 0 ≤ p ∧ p < N := hsg.2.2 (by unfold isOp at io; omega)
      rw [if_pos io]
      obtain ⟨w1, w2⟩ := CS.go hB q4 hpN
      by_cases ad : sgT T N p = 43 ∨ sgT T N p = 45
      · obtain ⟨f1, f2⟩ := bdS_add (x := x) (op := op) (i := i) hB q4 hpN (by omega) rd rfl ad
        have hS' : ∃ ν s2, bdS rd op R (j32 x, j32 i, μ) = (xbd (rd (j32 op) ν R) fun q => some (.inl (j32 (sgT T N p), j32 (i + 1), q))) ∧ CS B o (p + 1) s2 ν ∧ s < s2 ∧ s2 - s ≤ p - p0 ∧ (∀ z, 0 ≤ z → z < s → gi ν (o + 5) z = c z) ∧ SegC (gi ν (o + 5)) s s2 (u + 2) (fin pd t) := by
          obtain ⟨a, b, d⟩ := hS
          cases pd with
          | none =>
            obtain ⟨e, s1', d1, d2, d3, d4⟩ := d
            refine ⟨_, s1', f1 e, (CS.go hB d1 hpN).1, d2, d3, ?_, ?_⟩
            · rw [w2]; exact a
            · rw [w2]; exact d4.mono (by omega)
          | some y =>
            obtain ⟨e, hy, sm, s1', d1, d2, d3, d4, d5, d6⟩ := d
            have w3 := (CS.go hB d1 hpN).1
            obtain ⟨b1, b2, b3⟩ := CS.emits hB w3 (w := x) (by omega) (by omega)
            rw [w2] at b2
            refine ⟨_, s1' + 1, f2 _ (by omega) (e_emit w3 (by omega) x), b1, by omega, by omega, fun z z0 z1 => (b2 z z0 (by omega)).trans (a z z0 z1), ?_⟩
            exact (d5.keep b2 (by omega)).op (d6.keep b2 (by omega)) (by unfold isOp; omega) (b3.trans e) (by omega) (by omega)
        obtain ⟨ν, s2, e1, e2, e3, e4, e5, e6⟩ := hS'
        rw [e1]
        obtain ⟨ρ, r1, r2⟩ := hG (p + 1) s2 ν e2 (by omega) (by omega) (by omega)
        rw [r1, xbd_e]
        show xok (xloop (n + k + 1) (bdS rd op R) (j32 (sgT T N p), j32 (i + 1), ρ)) _
        cases hr : Fc op (p + 1) with
        | inl ev => rw [hr] at r2; exact d_loopS hB r2 rd op _ _ (n + k)
        | inr ev =>
          rw [hr] at r2
          obtain ⟨s3, g1, g2, g3, g4, g5, g6⟩ := r2
          dsimp only
          rw [if_pos ad]
          exact ih ev.1 (sgT T N p) (some (sgT T N p, fin pd t)) ev.2 ρ (by omega) ⟨fun z z0 z1 => (g5 z z0 (by omega)).trans (e5 z z0 z1), g4, rfl, ad, s2, s3, g1, e3, g2, by omega, e6.keep g5 (by omega), g6.mono (by omega)⟩ n
      · have mu : sgT T N p = 42 ∨ sgT T N p = 47 ∨ sgT T N p = 37 := by unfold isOp at io; omega
        rw [bdS_mul (x := x) (op := op) (i := i) hB q4 hpN (by omega) rd rfl mu]
        obtain ⟨ρ, r1, r2⟩ := hG (p + 1) s1 _ w1 (by omega) (by omega) (by omega)
        rw [w2] at r2
        rw [r1, xbd_e]
        cases hr : Fc op (p + 1) with
        | inl ev =>
          rw [hr] at r2
          obtain ⟨ν, e1, e2⟩ := d_emit hB r2 (j32 (sgT T N p))
          rw [e1, xbd_e]
          exact d_loopS hB e2 rd op _ _ (n + k)
        | inr ev =>
          rw [hr] at r2
          obtain ⟨s3, g1, g2, g3, g4, g5, g6⟩ := r2
          dsimp only
          rw [if_neg ad, e_emit g1 (by omega), xbd_e]
          obtain ⟨b1, b2, b3⟩ := CS.emits hB g1 (w := sgT T N p) (by omega) (by omega)
          refine ih ev.1 x pd (ph2 (sgT T N p) t ev.2) _ (by omega) ?_ n
          obtain ⟨a, b, d⟩ := hS
          refine ⟨fun z z0 z1 => (b2 z z0 (by omega)).trans ((g5 z z0 (by omega)).trans (a z z0 z1)), g4, ?_⟩
          have hj : ∀ y : Int, y ≤ s1 → ∀ z, 0 ≤ z → z < y → gi (em ρ o s3 (sgT T N p)) (o + 5) z = gi μ (o + 5) z := fun y hy z z0 z1 => (b2 z z0 (by omega)).trans (g5 z z0 (by omega))
          cases pd with
          | none =>
            obtain ⟨e, s1', d1, d2, d3, d4⟩ := d
            have es : s1' = s1 := d1.2.2.2.symm.trans q4.2.2.2
            subst es
            exact ⟨e, s3 + 1, b1, by omega, by omega, (d4.keep (hj s1' (by omega)) (by omega)).op (g6.keep b2 (by omega)) io b3 (by omega) (by omega)⟩
          | some y =>
            obtain ⟨e, hy, sm, s1', d1, d2, d3, d4, d5, d6⟩ := d
            have es : s1' = s1 := d1.2.2.2.symm.trans q4.2.2.2
            subst es
            exact ⟨e, hy, sm, s3 + 1, b1, d2, by omega, by omega, d5.keep (hj sm (by omega)) (by omega), (d6.keep (hj s1' (by omega)) (by omega)).op (g6.keep b2 (by omega)) io b3 (by omega) (by omega)⟩
    · rw [if_neg io, bdS_no hB q4 (by omega) rd io]
      exact xok_some.mpr (g_endS hB hS hs hp)
