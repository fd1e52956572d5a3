/-! settle: all pairs, the class -/
noncomputable def chE (A : xAs) (h m x v : Int) : Nat := Classical.epsilon (chN A h m x v)
def pW (V : Int → (Nat → Int) → Int) (A : xAs) (m x y : Int) : Nat → Int := chWho A (V 112 (fF A m x y)) m x (V 111 (fF A m x y))
def pC (V : Int → (Nat → Int) → Int) (A : xAs) (m x y : Int) : Nat → Int := chMin A (V 112 (fF A m x y)) m x (V 111 (fF A m x y))
noncomputable def pN (V : Int → (Nat → Int) → Int) (A : xAs) (m x y : Int) : Nat := chE A (V 112 (fF A m x y)) m x (V 111 (fF A m x y)) + 1
def pL (V : Int → (Nat → Int) → Int) (A : xAs) (m x y : Int) : Int := lapF V (fF A m x y) (A iM 0)
noncomputable def ctP (V : Int → (Nat → Int) → Int) (A : xAs) (m x y : Int) : Int := if isCase A m x y then ctk (pW V A m x y) (pC V A m x y) y (pN V A m x y) else 0
noncomputable def stP (p : Int) (V : Int → (Nat → Int) → Int) (A : xAs) (m x y : Int) (B : xAs) : xAs := if isCase A m x y then stk p (pW V A m x y) (pC V A m x y) y (pL V A m x y) B (pN V A m x y) else B
noncomputable def ctY (V : Int → (Nat → Int) → Int) (A : xAs) (m x : Int) : Nat → Int
  | 0 => 0
  | j + 1 => ctY V A m x j + ctP V A m x j
noncomputable def stY (p : Int) (V : Int → (Nat → Int) → Int) (A : xAs) (m x : Int) (B : xAs) : Nat → xAs
  | 0 => B
  | j + 1 => stP p V A m x j (stY p V A m x B j)
noncomputable def ctX (V : Int → (Nat → Int) → Int) (A : xAs) (m : Int) : Nat → Int
  | 0 => 0
  | i + 1 => ctX V A m i + ctY V A m i 8
noncomputable def stX (p : Int) (V : Int → (Nat → Int) → Int) (A : xAs) (m : Int) : Nat → xAs
  | 0 => A
  | i + 1 => stY p V A m i (stX p V A m i) 8
/-- what the law stays within -/
abbrev lawB (V : Int → (Nat → Int) → Int) : Prop := ∀ L b F, Lok L b → 0 ≤ V L F ∧ V L F ≤ b
theorem pOk {V : Int → (Nat → Int) → Int} {A : xAs} (hV : lawB V) (hI : Inv A) {m x y : Int} (c : isCase A m x y) : chN A (V 112 (fF A m x y)) m x (V 111 (fF A m x y)) (chE A (V 112 (fF A m x y)) m x (V 111 (fF A m x y))) ∧ wOk (pW V A m x y) (pC V A m x y) (pN V A m x y) ∧ pN V A m x y ≤ 24 ∧ (-1 ≤ pL V A m x y ∧ pL V A m x y ≤ 199) := by
  have h0 := hI.now
  have hv := hV 111 1440 (fF A m x y) (Or.inl ⟨rfl, rfl⟩)
  have hh := hV 112 100 (fF A m x y) (Or.inr (Or.inl ⟨rfl, rfl⟩))
  have hl := hV 108 100 (fF A m x y) (Or.inr (Or.inr ⟨rfl, rfl⟩))
  have he : chN A (V 112 (fF A m x y)) m x (V 111 (fF A m x y)) (chE A (V 112 (fF A m x y)) m x (V 111 (fF A m x y))) := Classical.epsilon_spec (chN_ex hI hh c.1 ⟨c.2.1.1, c.2.1.2.1⟩ hv)
  refine ⟨he, fun i hi => ?_, by have := he.1; unfold pN; omega, by unfold pL lapF; split <;> omega⟩
  have hs := he.2.2.2 i (by unfold pN at hi; omega)
  have hp := chP_b hh hs
  have h3 := hs.2.2
  exact ⟨hs.2.1, by unfold pC chMin; omega, by unfold pC chMin; omega⟩
theorem ctP_b {V : Int → (Nat → Int) → Int} {A : xAs} (hV : lawB V) (hI : Inv A) {m x y : Int} : 0 ≤ ctP V A m x y ∧ ctP V A m x y ≤ 24 := by
  unfold ctP
  by_cases c : isCase A m x y
  · have h1 := pOk hV hI c
    have h2 := ctk_b (w := pW V A m x y) (c := pC V A m x y) (y := y) (pN V A m x y)
    rw [if_pos c]; omega
  · rw [if_neg c]; omega
theorem ctY_b {V : Int → (Nat → Int) → Int} {A : xAs} (hV : lawB V) (hI : Inv A) {m x : Int} : ∀ j : Nat, 0 ≤ ctY V A m x j ∧ ctY V A m x j ≤ 24 * j
  | 0 => ⟨Int.le_refl _, Int.le_refl _⟩
  | j + 1 => by
    have h1 := ctY_b hV hI (m := m) (x := x) j
    have h2 := ctP_b hV hI (m := m) (x := x) (y := j)
    unfold ctY; omega
theorem ctY_m {V : Int → (Nat → Int) → Int} {A : xAs} (hV : lawB V) (hI : Inv A) {m x : Int} {k : Nat} : ∀ {j : Nat}, k ≤ j → ctY V A m x k ≤ ctY V A m x j
  | 0, h => by rw [show k = 0 by omega]; exact Int.le_refl _
  | j + 1, h => by
    by_cases e : k = j + 1
    · rw [e]; exact Int.le_refl _
    · have h1 := ctY_m hV hI (m := m) (x := x) (k := k) (j := j) (by omega)
      have h2 := ctP_b hV hI (m := m) (x := x) (y := j)
      have h3 : ctY V A m x (j + 1) = ctY V A m x j + ctP V A m x j := rfl
      omega
theorem ctX_b {V : Int → (Nat → Int) → Int} {A : xAs} (hV : lawB V) (hI : Inv A) {m : Int} : ∀ j : Nat, 0 ≤ ctX V A m j ∧ ctX V A m j ≤ 192 * j
  | 0 => ⟨Int.le_refl _, Int.le_refl _⟩
  | j + 1 => by
    have h1 := ctX_b hV hI (m := m) j
    have h2 := ctY_b hV hI (m := m) (x := j) 8
    unfold ctX; omega
theorem ctX_m {V : Int → (Nat → Int) → Int} {A : xAs} (hV : lawB V) (hI : Inv A) {m : Int} {k : Nat} : ∀ {j : Nat}, k ≤ j → ctX V A m k ≤ ctX V A m j
  | 0, h => by rw [show k = 0 by omega]; exact Int.le_refl _
  | j + 1, h => by
    by_cases e : k = j + 1
    · rw [e]; exact Int.le_refl _
    · have h1 := ctX_m hV hI (m := m) (k := k) (j := j) (by omega)
      have h2 := ctY_b hV hI (m := m) (x := j) 8
      have h3 : ctX V A m (j + 1) = ctX V A m j + ctY V A m j 8 := rfl
      omega
theorem stP_ok {p : Int} {V : Int → (Nat → Int) → Int} {A B : xAs} (hV : lawB V) (hIA : Inv A) (hx : nExt A B) (hI : Inv B) {m x y : Int} (h : p = 0 ∨ B iM 37 + ctP V A m x y ≤ 60) : nExt A (stP p V A m x y B) ∧ Inv (stP p V A m x y B) ∧ stP p V A m x y B iM 37 = B iM 37 + (if p = 0 then 0 else ctP V A m x y) := by
  unfold stP
  unfold ctP at h ⊢
  by_cases c : isCase A m x y
  · have h1 := pOk hV hIA c
    rw [if_pos c] at h ⊢
    rw [if_pos c]
    have h2 := stk_ok hI h1.2.1 ⟨c.2.2.1.1, c.2.2.1.2.1⟩ h1.2.2.2 (pN V A m x y) (by omega) h
    exact ⟨hx.tr h2.1, h2.2⟩
  · rw [if_neg c] at h ⊢
    rw [if_neg c]
    exact ⟨hx, hI, by split <;> omega⟩
theorem stY_ok {p : Int} {V : Int → (Nat → Int) → Int} {A B : xAs} (hV : lawB V) (hIA : Inv A) (hx : nExt A B) (hI : Inv B) {m x : Int} : ∀ j : Nat, (p = 0 ∨ B iM 37 + ctY V A m x j ≤ 60) → nExt A (stY p V A m x B j) ∧ Inv (stY p V A m x B j) ∧ stY p V A m x B j iM 37 = B iM 37 + (if p = 0 then 0 else ctY V A m x j)
  | 0, _ => ⟨hx, hI, by show B iM 37 = _ + (if _ then _ else 0); split <;> omega⟩
  | j + 1, h => by
    have hb := ctP_b hV hIA (m := m) (x := x) (y := j)
    have ec : ctY V A m x (j + 1) = ctY V A m x j + ctP V A m x j := rfl
    have e : stY p V A m x B (j + 1) = stP p V A m x j (stY p V A m x B j) := rfl
    have ih := stY_ok hV hIA hx hI (m := m) (x := x) j (p := p) (by omega)
    rw [e, ec]
    obtain ⟨i1, i2, i3⟩ := ih
    by_cases q : p = 0
    · have h2 := stP_ok hV hIA i1 i2 (m := m) (x := x) (y := j) (p := p) (Or.inl q)
      refine ⟨h2.1, h2.2.1, ?_⟩
      rw [h2.2.2, i3, if_pos q, if_pos q, if_pos q]; omega
    · rw [if_neg q] at i3 ⊢
      have h2 := stP_ok hV hIA i1 i2 (m := m) (x := x) (y := j) (p := p) (Or.inr (by omega))
      refine ⟨h2.1, h2.2.1, ?_⟩
      rw [h2.2.2, i3, if_neg q]; omega
theorem stX_ok {p : Int} {V : Int → (Nat → Int) → Int} {A : xAs} (hV : lawB V) (hI : Inv A) {m : Int} : ∀ j : Nat, (p = 0 ∨ A iM 37 + ctX V A m j ≤ 60) → nExt A (stX p V A m j) ∧ Inv (stX p V A m j) ∧ stX p V A m j iM 37 = A iM 37 + (if p = 0 then 0 else ctX V A m j)
  | 0, _ => ⟨nExt.rf, hI, by show A iM 37 = _ + (if _ then _ else 0); split <;> omega⟩
  | j + 1, h => by
    have hb := ctY_b hV hI (m := m) (x := j) 8
    have ec : ctX V A m (j + 1) = ctX V A m j + ctY V A m j 8 := rfl
    have e : stX p V A m (j + 1) = stY p V A m j (stX p V A m j) 8 := rfl
    have ih := stX_ok hV hI (m := m) j (p := p) (by omega)
    rw [e, ec]
    obtain ⟨i1, i2, i3⟩ := ih
    by_cases q : p = 0
    · have h2 := stY_ok hV hI i1 i2 (m := m) (x := j) 8 (p := p) (Or.inl q)
      refine ⟨h2.1, h2.2.1, ?_⟩
      rw [h2.2.2, i3, if_pos q, if_pos q, if_pos q]; omega
    · rw [if_neg q] at i3 ⊢
      have h2 := stY_ok hV hI i1 i2 (m := m) (x := j) 8 (p := p) (Or.inr (by omega))
      refine ⟨h2.1, h2.2.1, ?_⟩
      rw [h2.2.2, i3, if_neg q]; omega
theorem stP0 {V : Int → (Nat → Int) → Int} {A B : xAs} {m x y : Int} : stP 0 V A m x y B = B := by
  have key : ∀ (w c : Nat → Int) (l : Int) (k : Nat), stk 0 w c y l B k = B := by
    intro w c l k
    induction k with
    | zero => rfl
    | succ k ih => show (if _ then _ else _) = _; rw [if_pos (Or.inr rfl)]; exact ih
  unfold stP; split
  · exact key _ _ _ _
  · rfl
theorem stX0 {V : Int → (Nat → Int) → Int} {A : xAs} {m : Int} : ∀ k, stX 0 V A m k = A
  | 0 => rfl
  | k + 1 => by
    have key : ∀ (B : xAs) (x : Int) (k : Nat), stY 0 V A m x B k = B := by
      intro B x k
      induction k with
      | zero => rfl
      | succ k ih => show stP _ _ _ _ _ _ _ = _; rw [stP0, ih]
    show stY _ _ _ _ _ _ _ = _
    rw [key, stX0 k]
/-- one pair -/
theorem set62 {V : Int → (Nat → Int) → Int} {A B : xAs} {ν : xm} {R : xr} {n : Nat} (hL : Law V ν R) (hC : CH B ν R n) (hIA : Inv A) (hI : Inv B) (hx : nExt A B) {m x : Int} {j : Nat} (hm : 0 ≤ m ∧ m < A iM 1) (hxb : 0 ≤ x ∧ x < 8) (hj : j < 8) : xok (fX11_settle_b62 (j32 j) ν (j32 m) R (j32 (A iM 37)) (j32 x)) (fun r => ∃ ν', frS ν ν' ∧ ((r = .inl (j32 ((j : Int) + 1), ν') ∧ B iM 37 + ctP V A m x j ≤ 60 ∧ CH (stP 1 V A m x j B) ν' R n) ∨ (r = .inr (.inr (j32 (-2), ν')) ∧ 60 < B iM 37 + ctP V A m x j ∧ CH A ν' R n))) := by
  have hmt := hIA.mt
  have h37 := hI.notes
  have e1 := eX11_isCase hC hI (m := m) (x := x) (y := j) (by omega) (by omega) (by omega)
  rw [show (bi (isCase B m x j)) = bi (isCase A m x j) by unfold bi; simp only [isCase_same hx]] at e1
  by_cases c : isCase A m x j
  · have hp := pOk hL.2.2 hIA c
    have cB : isCase B m x j := by rw [isCase_same hx]; exact c
    have heB := chN_same hx hp.1
    have hfe : fF B m x j = fF A m x j := fF_same hx
    rw [← hfe] at heB
    obtain ⟨ρ, f1, f2, f3, f4, f5, f6⟩ := fc_ok hL hC hI cB heB
    have k1 := LK.cls f4
    have hw1 : ∀ i : Nat, i < pN V A m x j → gi ρ iC_meetings_payers i = pW V A m x j i ∧ gi ρ iC_meetings_paid i = pC V A m x j i := by
      intro i hi
      have := f6 i (by unfold pN at hi; rw [hfe]; exact hi)
      rw [hfe] at this
      unfold chWho chMin at this
      rw [chP_same hx, chS_same hx] at this
      exact this
    rw [hfe] at f3
    have h6 : gi ρ iC_meetings 6 = (pN V A m x j : Nat) := by rw [f5, hfe]; rfl
    obtain ⟨b, ν', g1, g2, g3⟩ := nc_ok (hL.keep k1 rfl) f2 hI f3 hp.2.2.1 h6 hw1 hp.2.1 (y := j) (by omega)
    rw [hx.e.2.2.2.2.2.2] at g3
    have fr : frS ν ν' := (frS.of f4).tr (frS.nt g2)
    have ec : ctP V A m x j = ctk (pW V A m x j) (pC V A m x j) j (pN V A m x j) := if_pos c
    rcases g3 with ⟨rfl, q1, q2⟩ | ⟨rfl, q1, k, q2, q3, q4⟩
    · refine ⟨_, ?_, ν', fr, Or.inl ⟨rfl, by rw [ec]; exact q1, by unfold stP; rw [if_pos c]; exact q2⟩⟩
      unfold fX11_settle_b62
      simp (disch := omega) only [Bool.false_eq_true, lits, jj, jc, jm, Int.cast_ofNat_Int, j_bi0, j_bi1, not_true, not_false_eq_true, if_true, if_false, xe, xok_some, Sum.elim_inl, Sum.elim_inr, Int.reduceEq, Int.reduceLT, Int.reduceLE, Int.reduceAdd, Int.reduceSub, Int.reduceMul, show ¬ (8 : Int) ≤ j by omega, e1, eq_true c, f1, g1]
    · have hs := stk_ok hI hp.2.1 ⟨c.2.2.1.1, c.2.2.1.2.1⟩ hp.2.2.2 k q2 (p := 1) (Or.inr q3)
      have hd := drop_ok hIA (hx.tr hs.1) q4
      refine ⟨_, ?_, _, fr.tr (fun o ho => gi_wr_f (by show o ≠ 28; omega)), Or.inr ⟨rfl, by rw [ec]; exact q1, hd.2⟩⟩
      unfold fX11_settle_b62
      simp (disch := omega) only [Bool.false_eq_true, lits, jj, jc, jm, Int.cast_ofNat_Int, j_bi0, j_bi1, not_true, not_false_eq_true, if_true, if_false, xe, xok_some, Sum.elim_inl, Sum.elim_inr, Int.reduceEq, Int.reduceLT, Int.reduceLE, Int.reduceAdd, Int.reduceSub, Int.reduceMul, show ¬ (8 : Int) ≤ j by omega, e1, eq_true c, f1, g1, hd.1]
  · refine ⟨_, ?_, ν, frS.rf, Or.inl ⟨rfl, by unfold ctP; rw [if_neg c]; omega, by unfold stP; rw [if_neg c]; exact hC⟩⟩
    unfold fX11_settle_b62
    simp (disch := omega) only [Bool.false_eq_true, lits, jj, jc, jm, Int.cast_ofNat_Int, j_bi0, j_bi1, not_true, not_false_eq_true, if_true, if_false, xe, xok_some, Sum.elim_inl, Sum.elim_inr, Int.reduceEq, Int.reduceLT, Int.reduceLE, Int.reduceAdd, Int.reduceSub, Int.reduceMul, show ¬ (8 : Int) ≤ j by omega, e1, eq_false c]
theorem set62L {V : Int → (Nat → Int) → Int} {A B : xAs} {ν : xm} {R : xr} {n : Nat} (hL : Law V ν R) (hC : CH B ν R n) (hIA : Inv A) (hI : Inv B) (hx : nExt A B) {m x : Int} (hm : 0 ≤ m ∧ m < A iM 1) (hxb : 0 ≤ x ∧ x < 8) : xok (xloop xfu (fun v => fX11_settle_b62 v.1 v.2 (j32 m) R (j32 (A iM 37)) (j32 x)) (j32 0, ν)) (fun r => ∃ ν', frS ν ν' ∧ ((r = .inl ν' ∧ B iM 37 + ctY V A m x 8 ≤ 60 ∧ CH (stY 1 V A m x B 8) ν' R n) ∨ (r = .inr (j32 (-2), ν') ∧ 60 < B iM 37 + ctY V A m x 8 ∧ CH A ν' R n))) := by
  have h37 := hI.notes
  refine xok_for (fun k s => s.1 = j32 k ∧ B iM 37 + ctY V A m x k ≤ 60 ∧ CH (stY 1 V A m x B k) s.2 R n ∧ frS ν s.2) 8 (by omega) ⟨rfl, by show B iM 37 + 0 ≤ 60; omega, hC, frS.rf⟩ ?_ ?_
  · intro k s hk hs
    obtain ⟨s1, ρ⟩ := s
    obtain ⟨g1, g2, g3, g4⟩ := hs
    simp only at g1 g2 g3 g4
    subst g1
    have ho := stY_ok hL.2.2 hIA hx hI (m := m) (x := x) k (p := 1) (Or.inr g2)
    rw [if_neg (by decide)] at ho
    obtain ⟨r, r1, ν', r2, r3⟩ := set62 (hL.keep g4.lk rfl) g3 hIA ho.2.1 ho.1 hm hxb hk
    refine ⟨r, r1, ?_⟩
    have ec : ctY V A m x (k + 1) = ctY V A m x k + ctP V A m x k := rfl
    rcases r3 with ⟨rfl, q1, q2⟩ | ⟨rfl, q1, q2⟩
    · exact ⟨rfl, by rw [ec]; omega, q2, g4.tr r2⟩
    · have hm2 := ctY_m hL.2.2 hIA (m := m) (x := x) (k := k + 1) (j := 8) (by omega)
      exact ⟨ν', g4.tr r2, Or.inr ⟨rfl, by omega, q2⟩⟩
  · intro s hs
    obtain ⟨s1, ρ⟩ := s
    obtain ⟨g1, g2, g3, g4⟩ := hs
    simp only at g1 g2 g3 g4
    subst g1
    show xok (fX11_settle_b62 (j32 (8 : Nat)) ρ _ _ _ _) _
    unfold fX11_settle_b62
    simp (disch := omega) only [Bool.false_eq_true, lits, jj, jc, jm, Int.cast_ofNat_Int, j_bi0, j_bi1, not_true, not_false_eq_true, if_true, if_false, xe, xok_some, Sum.elim_inl, Sum.elim_inr, Int.reduceEq, Int.reduceLT, Int.reduceLE, Int.reduceAdd, Int.reduceSub, Int.reduceMul, show ((8 : Nat) : Int) = 8 from rfl]
    exact ⟨ρ, g4, Or.inl ⟨rfl, g2, g3⟩⟩
theorem set52L {V : Int → (Nat → Int) → Int} {A : xAs} {ν : xm} {R : xr} {n : Nat} (hL : Law V ν R) (hC : CH A ν R n) (hI : Inv A) {m : Int} (hm : 0 ≤ m ∧ m < A iM 1) : xok (xloop xfu (fun v => fX11_settle_b52 v.1 v.2 (j32 m) R (j32 (A iM 37))) (j32 0, ν)) (fun r => ∃ ν', frS ν ν' ∧ ((r = .inl ν' ∧ A iM 37 + ctX V A m 8 ≤ 60 ∧ CH (stX 1 V A m 8) ν' R n) ∨ (r = .inr (j32 (-2), ν') ∧ 60 < A iM 37 + ctX V A m 8 ∧ CH A ν' R n))) := by
  have h37 := hI.notes
  refine xok_for (fun k s => s.1 = j32 k ∧ A iM 37 + ctX V A m k ≤ 60 ∧ CH (stX 1 V A m k) s.2 R n ∧ frS ν s.2) 8 (by omega) ⟨rfl, by show A iM 37 + 0 ≤ 60; omega, hC, frS.rf⟩ ?_ ?_
  · intro k s hk hs
    obtain ⟨s1, ρ⟩ := s
    obtain ⟨g1, g2, g3, g4⟩ := hs
    simp only at g1 g2 g3 g4
    subst g1
    have ho := stX_ok hL.2.2 hI (m := m) k (p := 1) (Or.inr g2)
    rw [if_neg (by decide)] at ho
    obtain ⟨r, r1, ν', r2, r3⟩ := set62L (hL.keep g4.lk rfl) g3 hI ho.2.1 ho.1 hm (x := k) (by omega)
    have ec : ctX V A m (k + 1) = ctX V A m k + ctY V A m k 8 := rfl
    have hm2 := ctX_m hL.2.2 hI (m := m) (k := k + 1) (j := 8) (by omega)
    show xok (fX11_settle_b52 (j32 k) ρ _ _ _) _
    unfold fX11_settle_b52
    simp only [lits] at r1 ⊢
    rw [if_neg (by rw [j_le (by omega) (by omega)]; omega), r1, xbd_e]
    rcases r3 with ⟨rfl, q1, q2⟩ | ⟨rfl, q1, q2⟩
    · rw [xsm_e0, xlt_e, j_add, xok_some]
      exact ⟨rfl, by rw [ec]; omega, q2, g4.tr r2⟩
    · rw [xsm_e1, xok_some]
      exact ⟨ν', g4.tr r2, Or.inr ⟨rfl, by omega, q2⟩⟩
  · intro s hs
    obtain ⟨s1, ρ⟩ := s
    obtain ⟨g1, g2, g3, g4⟩ := hs
    simp only at g1 g2 g3 g4
    subst g1
    show xok (fX11_settle_b52 (j32 (8 : Nat)) ρ _ _ _) _
    unfold fX11_settle_b52
    simp (disch := omega) only [Bool.false_eq_true, lits, jj, jc, jm, Int.cast_ofNat_Int, j_bi0, j_bi1, not_true, not_false_eq_true, if_true, if_false, xe, xok_some, Sum.elim_inl, Sum.elim_inr, Int.reduceEq, Int.reduceLT, Int.reduceLE, Int.reduceAdd, Int.reduceSub, Int.reduceMul, show ((8 : Nat) : Int) = 8 from rfl]
    exact ⟨ρ, g4, Or.inl ⟨rfl, g2, g3⟩⟩
