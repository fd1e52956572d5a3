/-! how the program reads a factor, and so any sum -/
theorem csum {B : xm} {R : xr} {o : Nat} {T : Int → Int} {N u op : Int} (hB : BOK B R o T N) {rd : Int32 → xm → xr → Option xm} {Fc : Int → Int → Rs Ph} (hu : 1 ≤ u) (hG : GoodR id B R o N rd Fc op u) : GoodR id B R o N (fX1_readSum rd) (pSum (sgT T N) Fc) op (u + 2) := by
  intro p s μ h hs hsp hp
  unfold fX1_readSum pSum
  obtain ⟨ρ, r1, r2⟩ := hG p s μ h hs hsp hp
  rw [r1, xbd_e]
  cases hr : Fc op p with
  | inl ev =>
    rw [hr] at r2
    exact xok_bd.mpr (d_loopS hB r2 rd op _ _ 999999)
  | inr ev =>
    rw [hr] at r2
    obtain ⟨s3, g1, g2, g3, g4, g5, g6⟩ := r2
    refine xok_bd.mpr ?_
    exact e_loopS hB hs hsp (by omega) hu hG 200 ev.1 (-1) none ev.2 ρ (by omega) ⟨g5, g4, rfl, s3, g1, g2, g3, g6.mono (by omega)⟩ 999799
theorem dsum {B : xm} {R : xr} {o : Nat} {T : Int → Int} {N op : Int} (hB : BOK B R o T N) {rd : Int32 → xm → xr → Option xm} (hD : DeadR B R o rd op) : DeadR B R o (fX1_readSum rd) op := by
  intro f q μ h
  unfold fX1_readSum
  obtain ⟨ρ, r1, r2⟩ := hD f q μ h
  rw [r1, xbd_e]
  exact xok_bd.mpr (d_loopS hB r2 rd op _ _ 999999)
theorem dfac {B : xm} {R : xr} {o : Nat} (g : Int32 → xm → xr → Option xm) (op : Int) : DeadR B R o (fX1_readFactor g) op := by
  intro f q μ h
  unfold fX1_readFactor
  rw [d_sign h, xbd_e, if_neg (by decide), show fX1_isDigit (j32 (-1)) = some 0 from by decide, xbd_e, if_pos rfl, show fX0_isFact (j32 (-1)) = some 0 from by decide, xbd_e, if_pos rfl, d_stop h, xbd_e]
  exact xok_some.mpr h
abbrev bdN (v : Int32 × Int32 × xm) : Option ((Int32 × Int32 × xm) ⊕ (Int32 × xm)) := fX1_readFactor_b48 v.1 v.2.1 v.2.2
theorem e_numL {B : xm} {R : xr} {o : Nat} {T : Int → Int} {N s : Int} {c : Int → Int} (hB : BOK B R o T N) : ∀ (k : Nat) (v p : Int) (μ : xm), k ≤ 5 → CS B o p s μ → gi μ (o + 5) = c → 0 ≤ p → p ≤ N → 0 ≤ v → (v + 1) * 10 ^ k ≤ 100000 → ∀ n, xok (xloop (n + k + 1) bdN (j32 v, j32 (5 - k), μ)) (fun q => q.1 = j32 (numV (sgT T N) k v p).1 ∧ CS B o (numV (sgT T N) k v p).2 s q.2 ∧ gi q.2 (o + 5) = c ∧ p ≤ (numV (sgT T N) k v p).2 ∧ (numV (sgT T N) k v p).2 ≤ N ∧ 0 ≤ (numV (sgT T N) k v p).1 ∧ (numV (sgT T N) k v p).1 ≤ 99999) := by
  intro k
  induction k with
  | zero =>
    intro v p μ hk h hc h0 hp hv hl n
    have e : bdN (j32 v, j32 (5 - (0 : Nat)), μ) = some (.inr (j32 v, μ)) := by
      show fX1_readFactor_b48 (j32 v) (j32 (5 - (0 : Nat))) μ = _
      unfold fX1_readFactor_b48
      rw [if_pos (by decide)]
    unfold xloop
    rw [e]
    exact xok_some.mpr ⟨rfl, h, hc, Int.le_refl _, hp, hv, by show v ≤ 99999; omega⟩
  | succ k ih =>
    intro v p μ hk h hc h0 hp hv hl n
    have hN := hB.2.2.2.1
    have hsg := sgT_b hB p
    have isg := e_sign hB h (by omega)
    have idg := e_isDg (c := sgT T N p) (by omega)
    have h10 : (10 : Int) ^ (k + 1) = 10 ^ k * 10 := Int.pow_succ _ _
    have hm : (0 : Int) < 10 ^ k := Int.pow_pos (by omega)
    have hvv : v + 1 ≤ 100000 := by
      have h1 : (v + 1) * 1 ≤ (v + 1) * 10 ^ (k + 1) := Int.mul_le_mul_of_nonneg_left (by omega) (by omega)
      omega
    rw [show n + (k + 1) + 1 = (n + k + 1) + 1 by omega]
    obtain ⟨i, hi⟩ : ∃ i : Int, i = 5 - ((k + 1 : Nat) : Int) := ⟨_, rfl⟩
    have hi1 : 5 - (k : Int) = i + 1 := by omega
    rw [← hi]
    rw [hi1] at ih
    have i5 : ¬ 5 ≤ i := by omega
    unfold xloop numV
    by_cases d : isDg (sgT T N p)
    · have hpN := hsg.2.2 (by unfold isDg at d; omega)
      rw [bi, if_pos d] at idg
      have e : bdN (j32 v, j32 i, μ) = some (.inl (j32 (v * 10 + sgT T N p - 48), j32 (i + 1), wr μ iC_reader 4 (p + 1))) := by
        show fX1_readFactor_b48 (j32 v) (j32 i) μ = _
        unfold fX1_readFactor_b48
        simp (disch := omega) only [Bool.false_eq_true, lits, jj, jc, jm, Int.cast_ofNat_Int, j_bi0, j_bi1, not_true, not_false_eq_true, if_true, if_false, xe, xok_some, Sum.elim_inl, Sum.elim_inr, Int.reduceEq, Int.reduceLT, Int.reduceLE, Int.reduceAdd, Int.reduceSub, Int.reduceMul, isg, idg, i5, h.2.1]
      rw [e]
      simp only [if_pos d]
      obtain ⟨w1, w2⟩ := CS.go hB h hpN
      have d2 : 48 ≤ sgT T N p ∧ sgT T N p ≤ 57 := d
      refine xok_mono (ih (v * 10 + sgT T N p - 48) (p + 1) _ (by omega) w1 (w2.trans hc) (by omega) (by omega) (by omega) ?_ n) ?_
      · have h1 : (v * 10 + sgT T N p - 48 + 1) * 10 ^ k ≤ ((v + 1) * 10) * 10 ^ k := Int.mul_le_mul_of_nonneg_right (by omega) (by omega)
        have h2 : ((v + 1) * 10) * 10 ^ k = (v + 1) * (10 ^ k * 10) := by rw [Int.mul_assoc, Int.mul_comm 10]
        rw [h10] at hl
        omega
      · rintro q ⟨a1, a2, a3, a4, a5, a6, a7⟩
        exact ⟨a1, a2, a3, by omega, a5, a6, a7⟩
    · rw [bi, if_neg d] at idg
      have e : bdN (j32 v, j32 i, μ) = some (.inr (j32 v, μ)) := by
        show fX1_readFactor_b48 (j32 v) (j32 i) μ = _
        unfold fX1_readFactor_b48
        simp (disch := omega) only [Bool.false_eq_true, lits, jj, jc, jm, Int.cast_ofNat_Int, j_bi0, j_bi1, not_true, not_false_eq_true, if_true, if_false, xe, xok_some, Sum.elim_inl, Sum.elim_inr, Int.reduceEq, Int.reduceLT, Int.reduceLE, Int.reduceAdd, Int.reduceSub, Int.reduceMul, isg, idg, i5]
      rw [e]
      simp only [if_neg d]
      exact xok_some.mpr ⟨rfl, h, hc, Int.le_refl _, hp, hv, by show v ≤ 99999; omega⟩
theorem isF_none {c : Int} (h : -1 ≤ c ∧ c ≤ 255) (hf : fcI c = none) : fX0_isFact (j32 c) = some (j32 0) := by
  unfold fcI at hf
  have hn : ¬(c = 97 ∨ c = 98 ∨ c = 100 ∨ c = 103 ∨ c = 104 ∨ c = 107 ∨ c = 110 ∨ c = 114 ∨ c = 118 ∨ c = 119 ∨ c = 120 ∨ c = 121) := by
    intro hc
    rcases hc with rfl | rfl | rfl | rfl | rfl | rfl | rfl | rfl | rfl | rfl | rfl | rfl <;> cases hf
  unfold fX0_isFact
  simp (disch := omega) only [Bool.false_eq_true, lits, jj, jc, jm, Int.cast_ofNat_Int, j_bi0, j_bi1, not_true, not_false_eq_true, if_true, if_false, xe, xok_some, Sum.elim_inl, Sum.elim_inr, Int.reduceEq, Int.reduceLT, Int.reduceLE, Int.reduceAdd, Int.reduceSub, Int.reduceMul]
  rw [if_neg hn]
theorem isF_some {c : Int} {i : Nat} (hf : fcI c = some i) : fX0_isFact (j32 c) = some (j32 1) ∧ 97 ≤ c ∧ c ≤ 121 := by
  unfold fcI at hf
  repeat' split at hf
  all_goals first | (cases hf; subst_vars; exact ⟨by decide, by decide, by decide⟩) | cases hf
theorem numV_ge (sg : Int → Int) : ∀ (k : Nat) (v p : Int), p ≤ (numV sg k v p).2
  | 0, v, p => Int.le_refl _
  | k + 1, v, p => by
    unfold numV
    by_cases h : isDg (sg p)
    · rw [if_pos h]; have := numV_ge sg k (v * 10 + sg p - 48) (p + 1); omega
    · rw [if_neg h]; exact Int.le_refl _
theorem cfac {B : xm} {R : xr} {o : Nat} {T : Int → Int} {N u op : Int} (hB : BOK B R o T N) (hop : 0 ≤ op ∧ op ≤ 6) (hu : 1 ≤ u) {g : Int32 → xm → xr → Option xm} {S : Int → Int → Rs Ph} (hG : op < 6 → GoodR id B R o N g S (op + 1) u) : GoodR id B R o N (fX1_readFactor g) (pFac (sgT T N) S) op u := by
  intro p s μ h hs hsp hp
  have hN := hB.2.2.2.1
  have hsg := sgT_b hB p
  have isg := e_sign hB h (by omega)
  have idg := e_isDg (c := sgT T N p) (by omega)
  unfold fX1_readFactor pFac
  rw [isg, xbd_e]
  by_cases c91 : sgT T N p = 91
  · have hpN := hsg.2.2 (by omega)
    obtain ⟨w1, w2⟩ := CS.go hB h hpN
    rw [if_pos (by rw [c91]; rfl), if_pos c91]
    by_cases c6 : op < 6
    · rw [if_pos c6, e_opens hB h hpN ⟨hop.1, c6⟩, xbd_e]
      rw [if_neg (show ¬ (j32 1, wr μ iC_reader 4 (p + 1)).1 = 0 from (by decide : ¬ (j32 1 = 0)))]
      obtain ⟨ρ, r1, r2⟩ := hG c6 (p + 1) s _ w1 hs (by omega) (by omega)
      rw [w2] at r2
      rw [show j32 op + 1 = j32 (op + 1) from j_add op 1]
      rw [r1, xbd_e]
      cases hr : S (op + 1) (p + 1) with
      | inl ev =>
        rw [hr] at r2
        rw [show (93 : Int32) = j32 93 from rfl, d_pass r2 (by omega), xbd_e]
        exact xok_some.mpr r2
      | inr ev =>
        rw [hr] at r2
        obtain ⟨s3, g1, g2, g3, g4, g5, g6⟩ := r2
        obtain ⟨ν, e1, e2⟩ := e_pass (k := 93) hB g1 (by omega) (by omega)
        rw [show (93 : Int32) = j32 93 from rfl, e1, xbd_e]
        refine xok_some.mpr ?_
        dsimp only
        by_cases c93 : sgT T N ev.1 = 93
        · rw [if_pos c93] at e2 ⊢
          have hq := (sgT_b hB ev.1).2.2 (by omega)
          obtain ⟨w3, w4⟩ := CS.go hB g1 hq
          subst e2
          exact ⟨s3, w3, g2, by show s3 - s ≤ ev.1 + 1 - p; omega, by show ev.1 + 1 ≤ N; omega, fun z z0 z1 => by rw [w4]; exact g5 z z0 z1, by rw [w4]; exact g6⟩
        · rw [if_neg c93] at e2 ⊢
          exact e2
    · rw [if_neg c6]
      obtain ⟨ν, e, hd⟩ := e_opens5 (op := op) h (by omega)
      rw [e, xbd_e, if_pos (show (j32 0, ν).1 = 0 from rfl)]
      exact xok_some.mpr hd
  · rw [if_neg (show ¬ j32 (sgT T N p) = 91 from fun e => c91 ((j_eq (by omega) (by omega)).mp e)), if_neg c91, idg, xbd_e]
    by_cases d : isDg (sgT T N p)
    · rw [bi, if_pos d, if_neg (show ¬ j32 1 = 0 from by decide), if_pos d]
      have d2 : 48 ≤ sgT T N p ∧ sgT T N p ≤ 57 := d
      have hpN := hsg.2.2 (by omega)
      obtain ⟨⟨qv, qi⟩, r1, r2, r3, r4, r5, r6, r7, r8⟩ := e_numL hB 5 0 p μ (by omega) h rfl (by omega) hp (by omega) (by omega) 999994
      have hgt : p + 1 ≤ (numV (sgT T N) 5 0 p).2 := by
        have e : numV (sgT T N) 5 0 p = numV (sgT T N) 4 (0 * 10 + sgT T N p - 48) (p + 1) := by
          conv => lhs; unfold numV
          rw [if_pos d]
        rw [e]; exact numV_ge _ _ _ _
      rw [show xloop xfu (fun v => fX1_readFactor_b48 v.1 v.2.1 v.2.2) (0, 0, μ) = some (qv, qi) from r1, xbd_e]
      unfold pNum
      generalize numV (sgT T N) 5 0 p = nv at r2 r3 r5 r6 r7 r8 hgt ⊢
      obtain ⟨v, q⟩ := nv
      simp only at r2 r3 r4 r5 r6 r7 r8 hgt ⊢
      subst r2
      have hsq := sgT_b hB q
      rw [e_sign hB r3 (by omega), xbd_e, e_isDg (by omega), xbd_e]
      have em1 : (-1 : Int32) - j32 v = j32 (-1 - v) := by rw [show (-1 : Int32) = j32 (-1) from rfl, j_sub]
      unfold fX1_readFactor_j108
      by_cases d3 : isDg (sgT T N q)
      · rw [bi, if_pos d3, if_neg (show ¬ j32 1 = 0 from by decide), if_pos d3]
        obtain ⟨ν, e1, e2⟩ := e_stop (k := 2) (by omega) r3
        rw [show (2 : Int32) = j32 2 from rfl, e1, xbd_e, hB.1, xbd_e]
        obtain ⟨ν2, e3, e4⟩ := d_emit hB e2 (-1 - j32 v)
        rw [e3, xbd_e]
        exact xok_some.mpr e4
      · rw [bi, if_neg d3, if_pos (show j32 0 = 0 from rfl), if_neg d3, hB.1, xbd_e]
        rw [em1, e_emit r3 (by omega), xbd_e]
        obtain ⟨b1, b2, b3⟩ := CS.emits hB r3 (w := -1 - v) (by omega) (by omega)
        rw [r4] at b2
        exact xok_some.mpr ⟨s + 1, b1, by omega, by show s + 1 - s ≤ q - p; omega, r6, b2, (SegC.num hs ⟨r7, r8⟩ b3).mono hu⟩
    · rw [bi, if_neg d, if_pos (show j32 0 = 0 from rfl), if_neg d]
      cases hf : fcI (sgT T N p) with
      | none =>
        obtain ⟨ν, e, hd⟩ := e_stop (k := 1) (by omega) h
        rw [isF_none (by omega) hf, xbd_e, if_pos (show j32 0 = 0 from rfl), show (1 : Int32) = j32 1 from rfl, e, xbd_e]
        exact xok_some.mpr hd
      | some i =>
        obtain ⟨f1, f2, f3⟩ := isF_some hf
        have hpN := hsg.2.2 (by omega)
        obtain ⟨w1, w2⟩ := CS.go hB h hpN
        rw [f1, xbd_e, if_neg (show ¬ j32 1 = 0 from by decide)]
        have ep : xpI μ iC_reader 4 (μ.1 iC_reader 4 + 1) = wr μ iC_reader 4 (p + 1) := by
          rw [j_rd, show gi μ iC_reader ((4 : Nat) : Int) = p from h.2.1, show (1 : Int32) = j32 1 from rfl, j_add]; rfl
        rw [xlt_e, ep, hB.1, xbd_e, e_emit w1 (by omega), xbd_e]
        obtain ⟨b1, b2, b3⟩ := CS.emits hB w1 (w := sgT T N p) (by omega) (by omega)
        rw [w2] at b2
        exact xok_some.mpr ⟨s + 1, b1, by omega, by show s + 1 - s ≤ p + 1 - p; omega, by show p + 1 ≤ N; omega, b2, (SegC.fact hs hf b3).mono hu⟩
/-- any sum -/
theorem csums {B : xm} {R : xr} {o : Nat} {T : Int → Int} {N : Int} (hB : BOK B R o T N) : ∀ (D : Nat) (op : Int), 0 ≤ op → op ≤ 6 → 7 ≤ op + D → GoodR id B R o N (rX1_readSum D) (rSum (sgT T N) D) op (2 * (6 - op) + 3) := by
  intro D
  induction D with
  | zero => intro op h0 h6 h; omega
  | succ D ih =>
    intro op h0 h6 h
    have hf : GoodR id B R o N (fX1_readFactor (rX1_readSum D)) (pFac (sgT T N) (rSum (sgT T N) D)) op (2 * (6 - op) + 1) :=
      cfac hB ⟨h0, h6⟩ (by omega) (fun c => by
        have := ih (op + 1) (by omega) (by omega) (by omega)
        rw [show 2 * (6 - (op + 1)) + 3 = 2 * (6 - op) + 1 by omega] at this
        exact this)
    have := csum hB (by omega) hf
    rw [show 2 * (6 - op) + 1 + 2 = 2 * (6 - op) + 3 by omega] at this
    exact this
theorem dsums {B : xm} {R : xr} {o : Nat} {T : Int → Int} {N : Int} (hB : BOK B R o T N) (D : Nat) (op : Int) : DeadR B R o (rX1_readSum (D + 1)) op := dsum hB (dfac _ op)
