/-! how the program reads a law -/
theorem gi_nn {μ ν : xm} {a b : Nat} (h : ∀ z, 0 ≤ z → gi ν a z = gi μ b z) : gi ν a = gi μ b := by
  funext z
  by_cases c : 0 ≤ z
  · exact h z c
  · have h0 := h 0 (by omega)
    unfold gi at h0 ⊢
    rw [show z.toNat = 0 by omega]
    exact h0
theorem byt_dec : ∀ i : Fin 256, 0 ≤ (j32 ((i.val : Int) - 128) &&& 255).toInt ∧ (j32 ((i.val : Int) - 128) &&& 255).toInt ≤ 255 ∧ j32 (nb ((j32 ((i.val : Int) - 128) &&& 255).toInt8.toInt32)) &&& 255 = (j32 ((i.val : Int) - 128) &&& 255) := by decide +kernel
def bT (t : Int) : Int := (j32 t &&& 255).toInt
theorem byt {t : Int} (h : -128 ≤ t ∧ t ≤ 127) : 0 ≤ bT t ∧ bT t ≤ 255 ∧ j32 t &&& 255 = j32 (bT t) ∧ j32 (nb ((j32 t &&& 255).toInt8.toInt32)) &&& j32 255 = j32 (bT t) := by
  have e := byt_dec ⟨(t + 128).toNat, by omega⟩
  have e1 : (((t + 128).toNat : Nat) : Int) - 128 = t := by omega
  simp only [e1] at e
  refine ⟨e.1, e.2.1, (j32_toInt _).symm, ?_⟩
  unfold bT
  rw [j32_toInt]
  exact e.2.2
theorem d_cla {B μ : xm} {R : xr} {o : Nat} {T : Int → Int} {N f q : Int} (h : CLD B R o T N f q μ) : xok (fX1_readClause μ R) (CLD B R o T N f q) := by
  unfold fX1_readClause
  rw [d_sign h.cd, xbd_e, if_neg (by decide), if_neg (by decide), if_neg (by decide), d_stop h.cd, xbd_e]
  exact xok_some.mpr h
abbrev bdL (R : xr) (v : Int32 × xm) : Option ((Int32 × xm) ⊕ (xm)) := fX1_read_b74 v.1 v.2 R
def KL (B : xm) (R : xr) (o : Nat) (T : Int → Int) (N : Int) (r : Rs (List Cl)) (ν : xm) : Prop := match r with
  | .inl e => CLD B R o T N e.1 e.2 ν
  | .inr x => KS B R o T N x.1 x.2 ν
theorem d_loopL {B μ : xm} {R : xr} {o : Nat} {T : Int → Int} {N f q : Int} (h : CLD B R o T N f q μ) (i : Int32) (n : Nat) : xok (xloop (n + 1) (bdL R) (i, μ)) (CLD B R o T N f q) := by
  have lo := gi_lo μ iC_reader 5
  have hi := gi_hi μ iC_reader 5
  have h1 := h.2.2.2.1
  have h2 := h.2.2.2.2
  have e : bdL R (i, μ) = some (.inr μ) := by
    show fX1_read_b74 i μ R = _
    unfold fX1_read_b74
    by_cases c : 14 ≤ i
    · rw [if_pos c]
    · rw [h1] at lo hi
      rw [if_neg c, j_rd, show gi μ iC_reader ((5 : Nat) : Int) = f from h1, if_neg (show ¬ j32 f = 0 from fun k => h2 ((j_eq (b := 0) (by omega) (by omega)).mp k))]
  unfold xloop
  rw [e]
  exact xok_some.mpr h
theorem e_loopL {B : xm} {R : xr} {o : Nat} {T : Int → Int} {N : Int} : ∀ (k : Nat) (p : Int) (ls : List Cl) (μ : xm), k ≤ 14 → KS B R o T N p ls μ → ∀ n, xok (xloop (n + k + 1) (bdL R) (j32 (14 - k), μ)) (KL B R o T N (pLaw (sgT T N) N k p ls)) := by
  intro k
  induction k with
  | zero =>
    intro p ls μ hk hK n
    have e : bdL R (j32 (14 - (0 : Nat)), μ) = some (.inr μ) := by
      show fX1_read_b74 (j32 (14 - (0 : Nat))) μ R = _
      unfold fX1_read_b74
      rw [if_pos (by decide)]
    unfold xloop
    rw [e]
    exact xok_some.mpr hK
  | succ k ih =>
    intro p ls μ hk hK n
    obtain ⟨hB, hL, h4, h5, hp, s, h7, hs, h6, hln, hcl⟩ := id hK
    have hN := hB.2.2.2.1
    have hcs : CS μ o p s μ := ⟨CB.rf, h4, h5, h7⟩
    have h3 := hB.2.2.1
    obtain ⟨i, hi⟩ : ∃ i : Int, i = 14 - ((k + 1 : Nat) : Int) := ⟨_, rfl⟩
    have hi1 : 14 - (k : Int) = i + 1 := by omega
    have i14 : ¬ 14 ≤ i := by omega
    rw [← hi]
    rw [hi1] at ih
    rw [show n + (k + 1) + 1 = (n + k + 1) + 1 by omega]
    unfold xloop pLaw
    by_cases c : p < N
    · have c' : ¬ N ≤ p := by omega
      rw [if_pos c]
      obtain ⟨ν, e1, e2⟩ := e_pass (k := 59) hB hcs hp (by omega)
      have e : bdL R (j32 i, μ) = xbd (fX1_readClause ν R) fun q19 => some (.inl (j32 (i + 1), q19)) := by
        show fX1_read_b74 (j32 i) μ R = _
        unfold fX1_read_b74
        simp (disch := omega) only [Bool.false_eq_true, lits, jj, jc, jm, Int.cast_ofNat_Int, j_bi0, j_bi1, not_true, not_false_eq_true, if_true, if_false, xe, xok_some, Sum.elim_inl, Sum.elim_inr, Int.reduceEq, Int.reduceLT, Int.reduceLE, Int.reduceAdd, Int.reduceSub, Int.reduceMul, i14, h3, h4, h5, c', e1]
      rw [e]
      by_cases c59 : sgT T N p = 59
      · rw [if_pos c59] at e2 ⊢
        have K2 : KS B R o T N (p + 1) ls ν := by
          obtain ⟨w1, w2⟩ := CS.go hB hcs ⟨hp.1, c⟩
          rw [← e2] at w1 w2
          have ho := hB.2.1
          have n1 : iC_reader = 3 := rfl
          refine ⟨hB.cb w1.1, hL.cb w1.1, w1.2.1, w1.2.2.1, by omega, s, w1.2.2.2, by omega, ?_, hln, ?_⟩
          · rw [e2, gi_wr_o (by omega)]; exact h6
          · rw [e2, gi_wr_f (show o + 1 ≠ iC_reader by omega), gi_wr_f (show o + 2 ≠ iC_reader by omega), gi_wr_f (show o + 3 ≠ iC_reader by omega), gi_wr_f (show o + 4 ≠ iC_reader by omega), gi_wr_f (show o + 5 ≠ iC_reader by omega)]; exact hcl
        obtain ⟨ρ, r1, r2⟩ := ccla K2
        rw [r1, xbd_e]
        cases hr : pCla (sgT T N) ls.length (p + 1) with
        | inl ev =>
          rw [hr] at r2
          exact d_loopL r2 _ (n + k)
        | inr ev =>
          obtain ⟨q, cl⟩ := ev
          rw [hr] at r2
          exact ih q (ls ++ [cl]) ρ (by omega) r2.2 n
      · rw [if_neg c59] at e2 ⊢
        obtain ⟨ρ, r1, r2⟩ := d_cla (CLD.to hB hL e2)
        rw [r1, xbd_e]
        exact d_loopL r2 _ (n + k)
    · have c' : N ≤ p := by omega
      rw [if_neg c]
      have e : bdL R (j32 i, μ) = some (.inr μ) := by
        show fX1_read_b74 (j32 i) μ R = _
        unfold fX1_read_b74
        simp (disch := omega) only [Bool.false_eq_true, lits, jj, jc, jm, Int.cast_ofNat_Int, j_bi0, j_bi1, not_true, not_false_eq_true, if_true, if_false, xe, xok_some, Sum.elim_inl, Sum.elim_inr, Int.reduceEq, Int.reduceLT, Int.reduceLE, Int.reduceAdd, Int.reduceSub, Int.reduceMul, i14, h3, h4, h5, c']
      rw [e]
      exact xok_some.mpr hK
/-- the frame of a law read -/
def FrC (o : Nat) (μ ν : xm) : Prop := ν.2 = μ.2 ∧ (∀ a, a ≠ iC_tape → a ≠ iC_reader → a ≠ iC_reader_text → ¬(o ≤ a ∧ a ≤ o + 5) → gi ν a = gi μ a) ∧ gi ν iC_tape 1 = 0
theorem ctext {μ : xm} {N : Int} (hN : 1 ≤ N ∧ N ≤ 200) (h3 : gi μ iC_reader 3 = N) (hl : N ≤ gi μ iC_tape 1) : xok (xloop xfu (fun v => fX1_read_b16 v.1 v.2) (0, μ)) (fun ν => ν.2 = μ.2 ∧ (∀ a, a ≠ iC_reader_text → gi ν a = gi μ a) ∧ ∀ z, 0 ≤ z → z < N → gi ν iC_reader_text z = nb ((j32 (gi μ iC_tape_bytes z) &&& 255).toInt8.toInt32)) := by
  have hhi := gi_hi μ iC_tape 1
  have n2 : iC_reader_text = 4 := rfl
  have n3 : iC_tape = 1 := rfl
  have n4 : iC_tape_bytes = 2 := rfl
  have n1 : iC_reader = 3 := rfl
  refine xok_for (fun k a => a.1 = j32 k ∧ a.2.2 = μ.2 ∧ (∀ b, b ≠ iC_reader_text → gi a.2 b = gi μ b) ∧ ∀ z : Int, 0 ≤ z → z < (k : Int) → gi a.2 iC_reader_text z = nb ((j32 (gi μ iC_tape_bytes z) &&& 255).toInt8.toInt32)) N.toNat (by omega) ⟨rfl, rfl, fun _ _ => rfl, fun z a b => by omega⟩ ?_ ?_
  · rintro k ⟨x, τ⟩ hk ⟨a1, a2, a3, a4⟩
    simp only at a1 a2 a3 a4
    subst a1
    have b1 : ¬ N ≤ (k : Int) := by omega
    have b2 : ¬ 200 ≤ (k : Int) := by omega
    have b3 : ¬ (k : Int) < 0 := by omega
    have b4 : ¬ gi μ iC_tape 1 ≤ (k : Int) := by omega
    have b5 : ¬ 400 ≤ (k : Int) := by omega
    have g3 : gi τ iC_reader 3 = N := by rw [a3 _ (by omega)]; exact h3
    have g1 : gi τ iC_tape 1 = gi μ iC_tape 1 := by rw [a3 _ (by omega)]
    have gt : gi τ iC_tape_bytes = gi μ iC_tape_bytes := a3 _ (by omega)
    have eb : fX9_byteAt (j32 k) τ = some (j32 (gi μ iC_tape_bytes k) &&& 255) := by
      unfold fX9_byteAt
      simp (disch := omega) only [Bool.false_eq_true, lits, jj, jc, jm, Int.cast_ofNat_Int, j_bi0, j_bi1, not_true, not_false_eq_true, if_true, if_false, xe, xok_some, Sum.elim_inl, Sum.elim_inr, Int.reduceEq, Int.reduceLT, Int.reduceLE, Int.reduceAdd, Int.reduceSub, Int.reduceMul, g1, b3, b4, b5, gt]
    have e : fX1_read_b16 (j32 k) τ = some (.inl (j32 (k + 1), wr τ iC_reader_text k (nb ((j32 (gi μ iC_tape_bytes k) &&& 255).toInt8.toInt32)))) := by
      unfold fX1_read_b16
      simp (disch := omega) only [Bool.false_eq_true, lits, jj, jc, jm, Int.cast_ofNat_Int, j_bi0, j_bi1, not_true, not_false_eq_true, if_true, if_false, xe, xok_some, Sum.elim_inl, Sum.elim_inr, Int.reduceEq, Int.reduceLT, Int.reduceLE, Int.reduceAdd, Int.reduceSub, Int.reduceMul, g3, b1, b2]
      rw [eb, xbd_e, j_sB (by omega), xbd_e]
      rfl
    show xok (fX1_read_b16 (j32 k) τ) _
    rw [e, xok_some]
    refine ⟨rfl, a2, fun b hb => by rw [gi_wr_f hb]; exact a3 b hb, fun z z0 z1 => ?_⟩
    have hb := nb_b ((j32 (gi μ iC_tape_bytes k) &&& 255).toInt8.toInt32)
    show gi (wr τ iC_reader_text k _) iC_reader_text z = _
    by_cases c : z = k
    · rw [c, gi_wr (by omega)]
    · rw [gi_wr_z ⟨by omega, z0, c⟩]; exact a4 z z0 (by omega)
  · rintro ⟨x, τ⟩ ⟨a1, a2, a3, a4⟩
    simp only at a1 a2 a3 a4
    subst a1
    have b1 : N ≤ ((N.toNat : Nat) : Int) := by omega
    have g3 : gi τ iC_reader 3 = N := by rw [a3 _ (by omega)]; exact h3
    have e : fX1_read_b16 (j32 ((N.toNat : Nat) : Int)) τ = some (.inr τ) := by
      unfold fX1_read_b16
      simp (disch := omega) only [Bool.false_eq_true, lits, jj, jc, jm, Int.cast_ofNat_Int, j_bi0, j_bi1, not_true, not_false_eq_true, if_true, if_false, xe, xok_some, Sum.elim_inl, Sum.elim_inr, Int.reduceEq, Int.reduceLT, Int.reduceLE, Int.reduceAdd, Int.reduceSub, Int.reduceMul, g3, b1]
    show xok (fX1_read_b16 (j32 ((N.toNat : Nat) : Int)) τ) _
    rw [e, xok_some]
    exact ⟨a2, a3, fun z z0 z1 => a4 z z0 (by omega)⟩
theorem cread {A : xAs} {μ : xm} {R : xr} {n : Nat} (hC : CH A μ R n) (ht : ∀ z, 0 ≤ z → z < 400 → -128 ≤ A iM_tape z ∧ A iM_tape z ≤ 127) {o o1 : Nat} (hR1 : R iC_reader 1 = some o1) (hR : R iC_reader 2 = some o) (ho : o = 5 ∨ o = 12) (ho1 : o1 ≠ o) {N : Int} (hN : 1 ≤ N ∧ N ≤ 200) (hA : N ≤ A iM 11) : ∃ ans ν R', fX11_law (j32 N) μ R = some (ans, ν, R') ∧ FrC o μ ν ∧ (∀ z, 0 ≤ z → z ≠ 1 → gi ν iC_tape z = gi μ iC_tape z) ∧ match pAll (sgT (fun z => bT (A iM_tape z)) N) N with
    | .inl e => ans = j32 (-1000 * e.1 - e.2) ∧ R' = R
    | .inr x => ans = j32 x.2.length ∧ LayC ν o x.2 ∧ R' = xup (xup R iC_reader 1 (some o)) iC_reader 2 (some o1) := by
  have n2 : iC_reader_text = 4 := rfl
  have n3 : iC_tape = 1 := rfl
  have n4 : iC_tape_bytes = 2 := rfl
  have n1 : iC_reader = 3 := rfl
  have htl := hC.taped
  have hhi := gi_hi μ iC_tape 1
  rw [htl] at hhi
  obtain ⟨μ2, hμ2⟩ : ∃ μ2, μ2 = wr μ iC_reader 3 N := ⟨_, rfl⟩
  obtain ⟨τ, t1, t2, t3, t4⟩ := ctext (μ := μ2) hN (by rw [hμ2, gi_wr (by omega)]) (by rw [hμ2, gi_wr_o (by omega), htl]; exact hA)
  obtain ⟨κ, hκ⟩ : ∃ κ, κ = wr (wr (wr (wr τ iC_reader 4 0) iC_reader 5 0) o 6 0) o 7 0 := ⟨_, rfl⟩
  have hB : BOK κ R o (fun z => bT (A iM_tape z)) N := by
    refine ⟨hR, ho, ?_, by omega, fun z z0 z1 => ?_⟩
    · rw [hκ, gi_wr_o (by omega), gi_wr_o (by omega), gi_wr_z (by omega), gi_wr_z (by omega), t3 _ (by omega), hμ2, gi_wr (by omega)]
    · have hb := byt (ht z z0 (by omega))
      refine ⟨?_, hb.1, hb.2.1⟩
      rw [hκ, gi_wr_o (by omega), gi_wr_o (by omega), gi_wr_o (by omega), gi_wr_o (by omega), t4 z z0 z1, hμ2, gi_wr_o (by omega), hC.tape z z0 (by omega)]
      exact hb.2.2.2
  have hK : KS κ R o (fun z => bT (A iM_tape z)) N 0 [] κ := by
    refine ⟨hB, CL.rf, ?_, ?_, by omega, 0, ?_, by omega, ?_, by decide, fun i h => absurd h (Nat.not_lt_zero _)⟩
    · rw [hκ, gi_wr_o (by omega), gi_wr_o (by omega), gi_wr_z (by omega), gi_wr (by omega)]
    · rw [hκ, gi_wr_o (by omega), gi_wr_o (by omega), gi_wr (by omega)]
    · rw [hκ, gi_wr (by omega)]
    · rw [hκ, gi_wr_z (by omega), gi_wr (by omega)]; rfl
  have fκ : ∀ a, a ≠ iC_reader → a ≠ iC_reader_text → a ≠ o → gi κ a = gi μ a := fun a h1 h2 h3 => by
    rw [hκ, gi_wr_f h3, gi_wr_f h3, gi_wr_f h1, gi_wr_f h1, t3 a h2, hμ2, gi_wr_f h1]
  have gκ : κ.2 = μ.2 := by rw [hκ]; exact t2.trans (by rw [hμ2]; rfl)
  generalize hT : (fun z => bT (A iM_tape z)) = T at *
  have hmain : xok (xbd (fX1_readClause κ R) fun q14 => xloop xfu (bdL R) (0, q14)) (KL κ R o T N (pAll (sgT T N) N)) := by
    obtain ⟨ρ, r1, r2⟩ := ccla hK
    rw [r1, xbd_e]
    unfold pAll
    cases hr : pCla (sgT T N) 0 0 with
    | inl ev =>
      rw [show (([] : List Cl).length : Int) = 0 from rfl, hr] at r2
      exact d_loopL r2 _ 999999
    | inr ev =>
      obtain ⟨q, cl⟩ := ev
      rw [show (([] : List Cl).length : Int) = 0 from rfl, hr] at r2
      exact e_loopL 14 q [cl] ρ (by omega) r2.2 999985
  obtain ⟨ν, m1, m2⟩ := hmain
  have hFr : CL κ o ν → FrC o μ (wr ν iC_tape 1 0) ∧ (∀ z, 0 ≤ z → z ≠ 1 → gi (wr ν iC_tape 1 0) iC_tape z = gi μ iC_tape z) := fun h => by
    refine ⟨⟨h.1.trans gκ, fun a c1 c2 c3 c4 => ?_, gi_wr (by omega)⟩, fun z z0 z1 => ?_⟩
    · rw [gi_wr_f c1]
      refine gi_nn fun z z0 => ?_
      rw [h.2 a z z0 (by omega) (by omega), fκ a c2 c3 (by omega)]
    · rw [gi_wr_z (by omega), h.2 iC_tape z z0 (by omega) (by omega), fκ _ (by omega) (by omega) (by omega)]
  have eE : ∀ X : Int32 × xm × xr, fX1_read (j32 N) μ R = some X → fX11_law (j32 N) μ R = some (X.1, wr X.2.1 iC_tape 1 0, X.2.2) := fun X h => by
    have c1 : ¬ N < 1 := by omega
    have c2 : ¬ 200 < N := by omega
    have c3 : N ≤ A iM 11 := hA
    unfold fX11_law fX11_within fX9_length fX9_empty
    simp (disch := omega) only [Bool.false_eq_true, lits, jj, jc, jm, Int.cast_ofNat_Int, j_bi0, j_bi1, not_true, not_false_eq_true, if_true, if_false, xe, xok_some, Sum.elim_inl, Sum.elim_inr, Int.reduceEq, Int.reduceLT, Int.reduceLE, Int.reduceAdd, Int.reduceSub, Int.reduceMul, htl, c1, c2, c3, h]
  have eR : fX1_read (j32 N) μ R = (if (ν.1 iC_reader 5) = 0 then some (ν.1 o 6, ν, xup (xup R iC_reader 1 (some o)) iC_reader 2 (some o1)) else some (((-1000) * (ν.1 iC_reader 5)) - (ν.1 iC_reader 4), ν, R)) := by
    have eh : fX11_held (j32 N) 0 200 = some (j32 N) := by
      unfold fX11_held
      rw [show (200 : Int32) = j32 200 from rfl, show (0 : Int32) = j32 0 from rfl, j_min (by omega) (by omega), j_max (by omega) (by omega)]
      congr 2; omega
    have ee : fX0_empty o (xpI (xpI τ iC_reader 4 0) iC_reader 5 0) = some κ := by rw [hκ]; rfl
    unfold fX1_read
    rw [eh, xbd_e, xlt_e, show xpI μ iC_reader 3 (j32 N) = μ2 from hμ2.symm, t1, xbd_e, xlt_e, xlt_e, xbd_mk hR, ee, xbd_e]
    obtain ⟨ρ, r1, r2⟩ := xbd_some m1
    rw [r1, xbd_e, r2, xbd_e, xbd_mk hR1, xbd_mk hR, xlt_e, xlt_e]
    have e1 : xup (xup R iC_reader 1 (some o)) iC_reader 2 (some o1) iC_reader 1 = some o := by
      rw [xup_nek (by decide), xup_self]
    rw [xbd_mk e1]
    rfl
  generalize pAll (sgT T N) N = pr at m2 ⊢
  cases pr with
  | inl ev =>
    obtain ⟨d1, d2, d3, d4, d5⟩ := m2
    have lo := gi_lo ν iC_reader 5
    have hi := gi_hi ν iC_reader 5
    rw [j_rd ν iC_reader 5, j_rd ν iC_reader 4, show gi ν iC_reader ((5 : Nat) : Int) = ev.1 from d4, show gi ν iC_reader ((4 : Nat) : Int) = ev.2 from d3] at eR
    rw [d4] at lo hi
    rw [if_neg (show ¬ j32 ev.1 = 0 from fun k => d5 ((j_eq (b := 0) (by omega) (by omega)).mp k))] at eR
    have := eE _ eR
    refine ⟨_, _, _, this, (hFr d2).1, (hFr d2).2, ?_, rfl⟩
    rw [show (-1000 : Int32) = j32 (-1000) from rfl, j_mul, j_sub]
  | inr ev =>
    obtain ⟨d1, d2, d3, d4, d5, s, d6, d7, d8, d9, d10⟩ := m2
    rw [j_rd ν iC_reader 5, j_rd ν o 6, show gi ν iC_reader ((5 : Nat) : Int) = 0 from d4, show gi ν o ((6 : Nat) : Int) = ev.2.length from d8, if_pos (show j32 0 = 0 from rfl)] at eR
    have := eE _ eR
    refine ⟨_, _, _, this, (hFr d2).1, (hFr d2).2, rfl, ?_, rfl⟩
    refine LayC.gi (μ := ν) ⟨d8, d9, fun i h => ?_⟩ (fun j j1 j2 => gi_wr_f (by omega))
    obtain ⟨y1, y2, y3, y4⟩ := d10 i h
    exact ⟨y1, y2, y3, by omega⟩
