/-! settle: the reference goes over -/
def frM (μ ν : xm) : Prop := (∀ o, o ≠ iM → (o < 84 ∨ 88 < o) → gi ν o = gi μ o) ∧ ∀ z, 0 ≤ z → z ≠ 37 → gi ν iM z = gi μ iM z
theorem frM.rf {μ : xm} : frM μ μ := ⟨fun _ _ _ => rfl, fun _ _ _ => rfl⟩
theorem frM.tr {μ ν ρ : xm} (h1 : frM μ ν) (h2 : frM ν ρ) : frM μ ρ := ⟨fun o a b => (h2.1 o a b).trans (h1.1 o a b), fun z a b => (h2.2 z a b).trans (h1.2 z a b)⟩
theorem addM_fr {μ : xm} {k a b c d e : Int} (hk : 0 ≤ k) : frM μ (addM μ k a b c d e) := by
  refine ⟨fun o h1 h2 => ?_, fun z h1 h2 => ?_⟩
  · unfold addM
    rw [gi_wr_f h1, gi_wr_f (by show o ≠ 88; omega), gi_wr_f (by show o ≠ 87; omega), gi_wr_f (by show o ≠ 86; omega), gi_wr_f (by show o ≠ 85; omega), gi_wr_f (by show o ≠ 84; omega)]
  · unfold addM
    rw [gi_wr_z (by omega), gi_wr_o (by decide), gi_wr_o (by decide), gi_wr_o (by decide), gi_wr_o (by decide), gi_wr_o (by decide)]
def frO (μ ν : xm) : Prop := (∀ o, (o < 61 ∨ 107 ≤ o) → gi ν o = gi μ o) ∧ LK μ ν
theorem frO.rf {μ : xm} : frO μ μ := ⟨fun _ _ => rfl, LK.rf⟩
theorem frO.tr {μ ν ρ : xm} (h1 : frO μ ν) (h2 : frO ν ρ) : frO μ ρ := ⟨fun o a => (h2.1 o a).trans (h1.1 o a), h1.2.tr h2.2⟩
theorem frM.o {μ ν : xm} (h : frM μ ν) : frO μ ν := ⟨fun o a => h.1 o (by show o ≠ 61; omega) (by omega), fun o a => h.1 o (by show o ≠ 61; omega) (by omega), h.2 20 (by decide) (by decide)⟩
theorem gsS {B : xAs} {ρ : xm} (hA : RH B ρ) (hI : Inv B) {p : Int} (hp : p = 0 ∨ p = 1) {N k : Nat} (hN : N ≤ 24) (hk : k < N) (h34 : gi ρ iM 34 = N) {a c y v nn : Int} (hr : gi ρ iM_chainWho k = a ∧ gi ρ iM_chainMinutes k = c) (ha : 0 ≤ a ∧ a < 8) (hc : 0 ≤ c ∧ c ≤ 1440) (hy : 0 ≤ y ∧ y < 8) (hv : 0 ≤ v ∧ v ≤ 100) (hfull : p = 0 ∨ (c = 0 ∨ a = y) ∨ B iM 37 < 60) (hnn : 0 ≤ nn ∧ nn ≤ 10000) (μ9 : xm) : fX12_goesOver_b61 (j32 nn) (j32 k) ρ (j32 p) (j32 y) (j32 v, μ9) = some (.inl (if c = 0 ∨ a = y then (j32 nn, j32 ((k : Int) + 1), ρ) else (j32 (nn + 1), j32 ((k : Int) + 1), if p = 0 then ρ else addM ρ (B iM 37) a y c (B iM 0) (if v = 0 then -1 else B iM 0 + v)))) := by
  have h0 := hI.now
  have h1 := hI.notes
  have e0 : gi ρ iM 0 = B iM 0 := (RH.sc hA).1
  unfold fX12_goesOver_b61
  by_cases d1 : c = 0
  · simp (disch := omega) only [Bool.false_eq_true, lits, jj, jc, jm, Int.cast_ofNat_Int, j_bi0, j_bi1, not_true, not_false_eq_true, if_true, if_false, xe, xok_some, Sum.elim_inl, Sum.elim_inr, Int.reduceEq, Int.reduceLT, Int.reduceLE, Int.reduceAdd, Int.reduceSub, Int.reduceMul, h34, show ¬ (N : Int) ≤ k by omega, hr.2, hr.1, d1, true_or]
  · by_cases d2 : a = y
    · simp (disch := omega) only [Bool.false_eq_true, lits, jj, jc, jm, Int.cast_ofNat_Int, j_bi0, j_bi1, not_true, not_false_eq_true, if_true, if_false, xe, xok_some, Sum.elim_inl, Sum.elim_inr, Int.reduceEq, Int.reduceLT, Int.reduceLE, Int.reduceAdd, Int.reduceSub, Int.reduceMul, h34, show ¬ (N : Int) ≤ k by omega, hr.2, hr.1, d1, d2, or_true]
    · rcases hp with rfl | rfl
      · simp (disch := omega) only [Bool.false_eq_true, lits, jj, jc, jm, Int.cast_ofNat_Int, j_bi0, j_bi1, not_true, not_false_eq_true, if_true, if_false, xe, xok_some, Sum.elim_inl, Sum.elim_inr, Int.reduceEq, Int.reduceLT, Int.reduceLE, Int.reduceAdd, Int.reduceSub, Int.reduceMul, h34, show ¬ (N : Int) ≤ k by omega, hr.2, hr.1, d1, d2, or_self]
      · have d3 : B iM 37 < 60 := by omega
        by_cases d4 : v = 0
        · have e4 := eX12_makes hA hI (a := a) (b := y) (c := c) (d := B iM 0) (e := -1) d3
          simp (disch := omega) only [Bool.false_eq_true, lits, jj, jc, jm, Int.cast_ofNat_Int, j_bi0, j_bi1, not_true, not_false_eq_true, if_true, if_false, xe, xok_some, Sum.elim_inl, Sum.elim_inr, Int.reduceEq, Int.reduceLT, Int.reduceLE, Int.reduceAdd, Int.reduceSub, Int.reduceMul, h34, show ¬ (N : Int) ≤ k by omega, hr.2, hr.1, d1, d2, or_self, d4, e0, e4]
        · have e4 := eX12_makes hA hI (a := a) (b := y) (c := c) (d := B iM 0) (e := B iM 0 + v) d3
          simp (disch := omega) only [Bool.false_eq_true, lits, jj, jc, jm, Int.cast_ofNat_Int, j_bi0, j_bi1, not_true, not_false_eq_true, if_true, if_false, xe, xok_some, Sum.elim_inl, Sum.elim_inr, Int.reduceEq, Int.reduceLT, Int.reduceLE, Int.reduceAdd, Int.reduceSub, Int.reduceMul, h34, show ¬ (N : Int) ≤ k by omega, hr.2, hr.1, d1, d2, or_self, d4, e0, e4]
theorem gsL {B : xAs} {ρ : xm} (hA : RH B ρ) (hI : Inv B) {p : Int} (hp : p = 0 ∨ p = 1) {w c : Nat → Int} {N : Nat} (hN : N ≤ 24) (h34 : gi ρ iM 34 = N) (hr : ∀ i : Nat, i < N → gi ρ iM_chainWho i = w i ∧ gi ρ iM_chainMinutes i = c i) (hw : wOk w c N) {y v l nn : Int} (hy : 0 ≤ y ∧ y < 8) (hv : 0 ≤ v ∧ v ≤ 100) (hl : l = if v = 0 then -1 else B iM 0 + v) (h : p = 0 ∨ B iM 37 + ctk w c y N ≤ 60) (hnn : 0 ≤ nn ∧ nn ≤ 5000) (μ9 : xm) : xok (xloop xfu (fun s => fX12_goesOver_b61 s.1 s.2.1 s.2.2 (j32 p) (j32 y) (j32 v, μ9)) (j32 nn, j32 0, ρ)) (fun r => ∃ ρ', r = (j32 (nn + ctk w c y N), ρ') ∧ RH (stk p w c y l B N) ρ' ∧ frM ρ ρ') := by
  have h37 := hI.notes
  have h0 := hI.now
  have hlb : -1 ≤ l ∧ l ≤ 199 := by rw [hl]; split <;> omega
  refine xok_for (fun k s => s.1 = j32 (nn + ctk w c y k) ∧ s.2.1 = j32 k ∧ RH (stk p w c y l B k) s.2.2 ∧ frM ρ s.2.2) N (by omega) ⟨by show j32 nn = j32 (nn + 0); rw [Int.add_zero], rfl, hA, frM.rf⟩ ?_ ?_
  · intro k s hk hs
    obtain ⟨s1, s2, σ⟩ := s
    obtain ⟨g1, g2, g3, g4⟩ := hs
    simp only at g1 g2 g3 g4
    subst g1; subst g2
    have hmk : ctk w c y k ≤ ctk w c y N := ctk_m (by omega)
    have hbk := ctk_b (w := w) (c := c) (y := y) k
    have ho := stk_ok hI hw hy hlb (p := p) k (by omega) (by omega)
    have hrk := hr k hk
    have hwk := hw k hk
    have eN := ho.1.e.2.2.2.2.2.2
    have e : stk p w c y l B (k + 1) = if (c k = 0 ∨ w k = y) ∨ p = 0 then stk p w c y l B k else addA (stk p w c y l B k) (stk p w c y l B k iM 37) (w k) y (c k) (stk p w c y l B k iM 0) l := rfl
    have ec : ctk w c y (k + 1) = if c k = 0 ∨ w k = y then ctk w c y k else ctk w c y k + 1 := rfl
    have hm1 : ctk w c y (k + 1) ≤ ctk w c y N := ctk_m (by omega)
    have hfull : p = 0 ∨ (c k = 0 ∨ w k = y) ∨ stk p w c y l B k iM 37 < 60 := by
      rcases h with h | h
      · exact Or.inl h
      · by_cases d : c k = 0 ∨ w k = y
        · exact Or.inr (Or.inl d)
        · rw [if_neg d] at ec
          have := ho.2.2
          by_cases q : p = 0
          · exact Or.inl q
          · rw [if_neg q] at this; exact Or.inr (Or.inr (by omega))
    have st := gsS g3 ho.2.1 hp hN hk ((g4.2 34 (by decide) (by decide)).trans h34) (a := w k) (c := c k) (y := y) (v := v) (nn := nn + ctk w c y k) ⟨by rw [g4.1 _ (by decide) (by decide)]; exact hrk.1, by rw [g4.1 _ (by decide) (by decide)]; exact hrk.2⟩ hwk.1 hwk.2 hy hv hfull (by omega) μ9
    rw [eN, ← hl] at st
    show xok (fX12_goesOver_b61 (j32 (nn + ctk w c y k)) (j32 k) σ (j32 p) (j32 y) _) _
    rw [st, xok_some]
    by_cases d : c k = 0 ∨ w k = y
    · rw [if_pos d] at ec ⊢
      rw [if_pos (Or.inl d)] at e
      exact ⟨by rw [ec], rfl, by rw [e]; exact g3, g4⟩
    · rw [if_neg d] at ec ⊢
      by_cases q : p = 0
      · rw [if_pos (Or.inr q)] at e
        rw [if_pos q]
        exact ⟨by rw [ec]; show j32 _ = j32 _; congr 1; omega, rfl, by rw [e]; exact g3, g4⟩
      · rw [if_neg (by omega)] at e
        rw [if_neg q]
        have hlt : stk p w c y l B k iM 37 < 60 := by omega
        have hb := ho.2.1.notes
        refine ⟨by rw [ec]; show j32 _ = j32 _; congr 1; omega, rfl, ?_, g4.tr (addM_fr hb.1)⟩
        rw [e, eN]
        exact addM_RH g3 ⟨hb.1, hlt⟩ ⟨hwk.1, hy, hwk.2, by omega, hlb, fun e => absurd (Or.inr e) d⟩
  · intro s hs
    obtain ⟨s1, s2, σ⟩ := s
    obtain ⟨g1, g2, g3, g4⟩ := hs
    simp only at g1 g2 g3 g4
    subst g1; subst g2
    have g6 : gi σ iM 34 = N := (g4.2 34 (by decide) (by decide)).trans h34
    show xok (fX12_goesOver_b61 _ (j32 N) σ _ _ _) _
    unfold fX12_goesOver_b61
    simp (disch := omega) only [Bool.false_eq_true, lits, jj, jc, jm, Int.cast_ofNat_Int, j_bi0, j_bi1, not_true, not_false_eq_true, if_true, if_false, xe, xok_some, Sum.elim_inl, Sum.elim_inr, Int.reduceEq, Int.reduceLT, Int.reduceLE, Int.reduceAdd, Int.reduceSub, Int.reduceMul, g6, Int.le_refl]
    exact ⟨σ, rfl, g3, g4⟩
theorem gs15 {V : Int → (Nat → Int) → Int} {A B : xAs} {ν : xm} {R : xr} (hL : Law V ν R) (hA : RH B ν) (hIA : Inv A) (hI : Inv B) (hx : nExt A B) {p : Int} (hp : p = 0 ∨ p = 1) {m x nn : Int} {j : Nat} (hm : 0 ≤ m ∧ m < A iM 1) (hxb : 0 ≤ x ∧ x < 8) (hj : j < 8) (h : p = 0 ∨ B iM 37 + ctP V A m x j ≤ 60) (hnn : 0 ≤ nn ∧ nn ≤ 4000) : ∃ ν', fX12_goesOver_b15 (j32 nn) (j32 j) ν (j32 m) (j32 p) (j32 x) = some (.inl (j32 (nn + ctP V A m x j), j32 ((j : Int) + 1), ν')) ∧ RH (stP p V A m x j B) ν' ∧ frO ν ν' := by
  have hmt := hIA.mt
  have e1 := eX12_areTwo hA hI (m := m) (x := x) (y := j) (by omega) (by omega) (by omega)
  rw [show (bi (isCase B m x j)) = bi (isCase A m x j) by unfold bi; simp only [isCase_same hx]] at e1
  by_cases c : isCase A m x j
  · have hpo := pOk hL.2.2 hIA c
    have cB : isCase B m x j := by rw [isCase_same hx]; exact c
    have heB := chN_same hx hpo.1
    have hfe : fF B m x j = fF A m x j := fF_same hx
    rw [← hfe] at heB
    obtain ⟨ν1, h1, h2, h3⟩ := eX12_owesBy hL hA hI cB (w := 2) (by omega)
    rw [show wL 2 = 108 from rfl, hfe] at h1
    obtain ⟨ν2, f1, f2, f3, f4, f5, f6⟩ := chs_ok (hL.keep h3.lk rfl) h2 hI cB heB
    have hw1 : ∀ i : Nat, i < pN V A m x j → gi ν2 iM_chainWho i = pW V A m x j i ∧ gi ν2 iM_chainMinutes i = pC V A m x j i := by
      intro i hi
      have := f6 i (by unfold pN at hi; rw [hfe]; exact hi)
      rw [hfe] at this
      unfold chWho chMin at this
      rw [chP_same hx, chS_same hx] at this
      exact this
    have h34 : gi ν2 iM 34 = (pN V A m x j : Nat) := by rw [f5, hfe]; rfl
    have ec : ctP V A m x j = ctk (pW V A m x j) (pC V A m x j) j (pN V A m x j) := if_pos c
    have hv := hL.2.2 108 100 (fF A m x j) (Or.inr (Or.inr ⟨rfl, rfl⟩))
    have hl : pL V A m x j = if V 108 (fF A m x j) = 0 then -1 else B iM 0 + V 108 (fF A m x j) := by rw [hx.e.2.2.2.2.2.2]; rfl
    obtain ⟨r, r1, ν', rfl, r2, r3⟩ := gsL f2 hI hp hpo.2.2.1 h34 hw1 hpo.2.1 (y := j) (nn := nn) (by omega) hv hl (by rw [← ec]; exact h) (by omega) ν1
    refine ⟨ν', ?_, ?_, ?_⟩
    · unfold fX12_goesOver_b15
      simp only [lits] at r1 ⊢
      rw [if_neg (by rw [j_le (by omega) (by omega)]; omega), e1, xbd_e, if_neg (by rw [j_bi0]; exact not_not_intro c), show j32 2 = j32 (2 : Int) from rfl, h1, xbd_e, f1, xbd_e, r1, xbd_e, xlt_e, ec, j_add]
    · unfold stP; rw [if_pos c]; exact r2
    · have q1 : frO ν ν1 := ⟨h3.cl, h3.lk⟩
      have q2 : frO ν1 ν2 := ⟨f4, f3⟩
      exact (q1.tr q2).tr r3.o
  · refine ⟨ν, ?_, by unfold stP; rw [if_neg c]; exact hA, frO.rf⟩
    unfold fX12_goesOver_b15
    have ec : ctP V A m x j = 0 := if_neg c
    simp (disch := omega) only [Bool.false_eq_true, lits, jj, jc, jm, Int.cast_ofNat_Int, j_bi0, j_bi1, not_true, not_false_eq_true, if_true, if_false, xe, xok_some, Sum.elim_inl, Sum.elim_inr, Int.reduceEq, Int.reduceLT, Int.reduceLE, Int.reduceAdd, Int.reduceSub, Int.reduceMul, show ¬ (8 : Int) ≤ j by omega, e1, eq_false c, ec, Int.add_zero]
theorem gs15L {V : Int → (Nat → Int) → Int} {A B : xAs} {ν : xm} {R : xr} (hL : Law V ν R) (hA : RH B ν) (hIA : Inv A) (hI : Inv B) (hx : nExt A B) {p : Int} (hp : p = 0 ∨ p = 1) {m x nn : Int} (hm : 0 ≤ m ∧ m < A iM 1) (hxb : 0 ≤ x ∧ x < 8) (h : p = 0 ∨ B iM 37 + ctY V A m x 8 ≤ 60) (hnn : 0 ≤ nn ∧ nn ≤ 3000) : ∃ ν', xloop xfu (fun v => fX12_goesOver_b15 v.1 v.2.1 v.2.2 (j32 m) (j32 p) (j32 x)) (j32 nn, j32 0, ν) = some (j32 (nn + ctY V A m x 8), ν') ∧ RH (stY p V A m x B 8) ν' ∧ frO ν ν' := by
  have h37 := hI.notes
  have key : xok (xloop xfu (fun v => fX12_goesOver_b15 v.1 v.2.1 v.2.2 (j32 m) (j32 p) (j32 x)) (j32 nn, j32 0, ν)) (fun r => ∃ ν', r = (j32 (nn + ctY V A m x 8), ν') ∧ RH (stY p V A m x B 8) ν' ∧ frO ν ν') := by
    refine xok_for (fun k s => s.1 = j32 (nn + ctY V A m x k) ∧ s.2.1 = j32 k ∧ RH (stY p V A m x B k) s.2.2 ∧ frO ν s.2.2) 8 (by omega) ⟨by show j32 nn = j32 (nn + 0); rw [Int.add_zero], rfl, hA, frO.rf⟩ ?_ ?_
    · intro k s hk hs
      obtain ⟨s1, s2, σ⟩ := s
      obtain ⟨g1, g2, g3, g4⟩ := hs
      simp only at g1 g2 g3 g4
      subst g1; subst g2
      have ec : ctY V A m x (k + 1) = ctY V A m x k + ctP V A m x k := rfl
      have hm1 : ctY V A m x k ≤ ctY V A m x 8 := ctY_m hL.2.2 hIA (by omega)
      have hm2 : ctY V A m x (k + 1) ≤ ctY V A m x 8 := ctY_m hL.2.2 hIA (by omega)
      have hb := ctY_b hL.2.2 hIA (m := m) (x := x) k
      have ho := stY_ok hL.2.2 hIA hx hI (m := m) (x := x) k (p := p) (by omega)
      have hc : p = 0 ∨ stY p V A m x B k iM 37 + ctP V A m x k ≤ 60 := by
        by_cases q : p = 0
        · exact Or.inl q
        · have := ho.2.2
          rw [if_neg q] at this
          exact Or.inr (by omega)
      obtain ⟨ν', r1, r2, r3⟩ := gs15 (hL.keep g4.2 rfl) g3 hIA ho.2.1 ho.1 hp hm hxb hk hc (nn := nn + ctY V A m x k) (by omega)
      refine ⟨_, r1, ?_⟩
      exact ⟨by rw [ec]; show j32 _ = j32 _; congr 1; omega, rfl, r2, g4.tr r3⟩
    · intro s hs
      obtain ⟨s1, s2, σ⟩ := s
      obtain ⟨g1, g2, g3, g4⟩ := hs
      simp only at g1 g2 g3 g4
      subst g1; subst g2
      show xok (fX12_goesOver_b15 _ (j32 (8 : Nat)) σ _ _ _) _
      unfold fX12_goesOver_b15
      simp (disch := omega) only [Bool.false_eq_true, lits, jj, jc, jm, Int.cast_ofNat_Int, j_bi0, j_bi1, not_true, not_false_eq_true, if_true, if_false, xe, xok_some, Sum.elim_inl, Sum.elim_inr, Int.reduceEq, Int.reduceLT, Int.reduceLE, Int.reduceAdd, Int.reduceSub, Int.reduceMul, show ((8 : Nat) : Int) = 8 from rfl]
      exact ⟨σ, rfl, g3, g4⟩
  obtain ⟨r, r1, ν', rfl, r2, r3⟩ := key
  exact ⟨ν', r1, r2, r3⟩
theorem gs_ok {V : Int → (Nat → Int) → Int} {A : xAs} {ν : xm} {R : xr} (hL : Law V ν R) (hA : RH A ν) (hI : Inv A) {p : Int} (hp : p = 0 ∨ p = 1) {m : Int} (hm : 0 ≤ m ∧ m < A iM 1) (h : p = 0 ∨ A iM 37 + ctX V A m 8 ≤ 60) : ∃ ν', fX12_goesOver (j32 m) (j32 p) ν = some (j32 (ctX V A m 8), ν') ∧ RH (stX p V A m 8) ν' ∧ frO ν ν' := by
  have h37 := hI.notes
  have key : xok (xloop xfu (fun v => fX12_goesOver_b5 v.1 v.2.1 v.2.2 (j32 m) (j32 p)) (j32 0, j32 0, ν)) (fun r => ∃ ν', r = (j32 (ctX V A m 8), ν') ∧ RH (stX p V A m 8) ν' ∧ frO ν ν') := by
    refine xok_for (fun k s => s.1 = j32 (ctX V A m k) ∧ s.2.1 = j32 k ∧ RH (stX p V A m k) s.2.2 ∧ frO ν s.2.2) 8 (by omega) ⟨rfl, rfl, hA, frO.rf⟩ ?_ ?_
    · intro k s hk hs
      obtain ⟨s1, s2, σ⟩ := s
      obtain ⟨g1, g2, g3, g4⟩ := hs
      simp only at g1 g2 g3 g4
      subst g1; subst g2
      have ec : ctX V A m (k + 1) = ctX V A m k + ctY V A m k 8 := rfl
      have hm1 : ctX V A m k ≤ ctX V A m 8 := ctX_m hL.2.2 hI (by omega)
      have hm2 : ctX V A m (k + 1) ≤ ctX V A m 8 := ctX_m hL.2.2 hI (by omega)
      have hb := ctX_b hL.2.2 hI (m := m) k
      have ho := stX_ok hL.2.2 hI (m := m) k (p := p) (by omega)
      have hc : p = 0 ∨ stX p V A m k iM 37 + ctY V A m k 8 ≤ 60 := by
        by_cases q : p = 0
        · exact Or.inl q
        · have := ho.2.2
          rw [if_neg q] at this
          exact Or.inr (by omega)
      obtain ⟨ν', r1, r2, r3⟩ := gs15L (hL.keep g4.2 rfl) g3 hI ho.2.1 ho.1 hp hm (x := k) (by omega) hc (nn := ctX V A m k) (by omega)
      show xok (fX12_goesOver_b5 (j32 (ctX V A m k)) (j32 k) σ _ _) _
      unfold fX12_goesOver_b5
      simp only [lits] at r1 ⊢
      rw [if_neg (by rw [j_le (by omega) (by omega)]; omega), r1, xbd_e, xlt_e, j_add, xok_some]
      exact ⟨by rw [ec], rfl, r2, g4.tr r3⟩
    · intro s hs
      obtain ⟨s1, s2, σ⟩ := s
      obtain ⟨g1, g2, g3, g4⟩ := hs
      simp only at g1 g2 g3 g4
      subst g1; subst g2
      show xok (fX12_goesOver_b5 _ (j32 (8 : Nat)) σ _ _) _
      unfold fX12_goesOver_b5
      simp (disch := omega) only [Bool.false_eq_true, lits, jj, jc, jm, Int.cast_ofNat_Int, j_bi0, j_bi1, not_true, not_false_eq_true, if_true, if_false, xe, xok_some, Sum.elim_inl, Sum.elim_inr, Int.reduceEq, Int.reduceLT, Int.reduceLE, Int.reduceAdd, Int.reduceSub, Int.reduceMul, show ((8 : Nat) : Int) = 8 from rfl]
      exact ⟨σ, rfl, g3, g4⟩
  obtain ⟨r, r1, ν', rfl, r2, r3⟩ := key
  refine ⟨ν', ?_, r2, r3⟩
  unfold fX12_goesOver
  simp only [lits] at r1 ⊢
  rw [r1, xbd_e]
