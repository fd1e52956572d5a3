/-! called: the class -/
theorem useOn_ok {ν : xm} {d : Nat} (hd : d ≤ 6) {r : Int} (hr : 0 ≤ r ∧ r ≤ 60) (hf : ∀ i : Nat, i < d + 1 → 0 ≤ gi ν iC_notes_free i ∧ gi ν iC_notes_free i ≤ 86400) : ∃ ν', fX4_useOn (j32 d) (j32 r) ν = some (j32 (mnF r (gi ν iC_notes_free) (d + 1)), ν') ∧ (∀ o, o ≠ iC_notes_free → gi ν' o = gi ν o) ∧ ∀ i : Nat, i < 7 → gi ν' iC_notes_free i = if i ≤ d then gi ν iC_notes_free i - mnF r (gi ν iC_notes_free) (d + 1) else gi ν iC_notes_free i := by
  have hmn := mnF_ok hr.1 (d + 1) (fun i hi => (hf i hi).1)
  have f1 : xloop xfu (fun v => fX4_useOn_b5 v.1 v.2 (j32 d) ν) (j32 r, j32 0) = some (j32 (mnF r (gi ν iC_notes_free) (d + 1))) := by
    refine xloop_for (fun i : Nat => (j32 (mnF r (gi ν iC_notes_free) i), j32 i)) (d + 1) (by omega) rfl ?_ ?_
    · intro i hi
      have hm := mnF_ok hr.1 i (fun j hj => (hf j (by omega)).1)
      have hfi := hf i hi
      show fX4_useOn_b5 (j32 (mnF r _ i)) (j32 i) (j32 d) ν = _
      rw [mnF_s]
      unfold fX4_useOn_b5
      simp (disch := omega) only [Bool.false_eq_true, lits, jj, jc, jm, Int.cast_ofNat_Int, j_bi0, j_bi1, not_true, not_false_eq_true, if_true, if_false, xe, xok_some, Sum.elim_inl, Sum.elim_inr, Int.reduceEq, Int.reduceLT, Int.reduceLE, Int.reduceAdd, Int.reduceSub, Int.reduceMul, show ¬ (d : Int) < i by omega, show ¬ 7 ≤ (i : Int) by omega, j_min]
      rfl
    · show fX4_useOn_b5 _ (j32 ((d + 1 : Nat) : Int)) (j32 d) ν = _
      unfold fX4_useOn_b5
      simp (disch := omega) only [Bool.false_eq_true, lits, jj, jc, jm, Int.cast_ofNat_Int, j_bi0, j_bi1, not_true, not_false_eq_true, if_true, if_false, xe, xok_some, Sum.elim_inl, Sum.elim_inr, Int.reduceEq, Int.reduceLT, Int.reduceLE, Int.reduceAdd, Int.reduceSub, Int.reduceMul, show (d : Int) < ((d + 1 : Nat) : Int) by omega]
  obtain ⟨w, hw⟩ : ∃ w, mnF r (gi ν iC_notes_free) (d + 1) = w := ⟨_, rfl⟩
  rw [hw] at hmn f1 ⊢
  have key : xok (xloop xfu (fun v => fX4_useOn_b42 v.1 v.2 (j32 d) (j32 w)) (j32 0, ν)) (fun ν' => (∀ o, o ≠ iC_notes_free → gi ν' o = gi ν o) ∧ ∀ i : Nat, i < 7 → gi ν' iC_notes_free i = if i < d + 1 then gi ν iC_notes_free i - w else gi ν iC_notes_free i) := by
    refine xok_for (fun k s => s.1 = j32 k ∧ (∀ o, o ≠ iC_notes_free → gi s.2 o = gi ν o) ∧ ∀ i : Nat, i < 7 → gi s.2 iC_notes_free i = if i < k then gi ν iC_notes_free i - w else gi ν iC_notes_free i) (d + 1) (by omega) ⟨rfl, fun _ _ => rfl, fun i hi => by rw [if_neg (by omega)]⟩ ?_ ?_
    · intro k s hk hs
      obtain ⟨s1, σ⟩ := s
      obtain ⟨g1, g2, g3⟩ := hs
      simp only at g1 g2 g3
      subst g1
      have h1 := g3 k (by omega)
      rw [if_neg (by omega)] at h1
      have hfk := hf k hk
      have hwk := hmn.2.1 k hk
      show xok (fX4_useOn_b42 (j32 k) σ (j32 d) (j32 w)) _
      unfold fX4_useOn_b42
      simp (disch := omega) only [Bool.false_eq_true, lits, jj, jc, jm, Int.cast_ofNat_Int, j_bi0, j_bi1, not_true, not_false_eq_true, if_true, if_false, xe, xok_some, Sum.elim_inl, Sum.elim_inr, Int.reduceEq, Int.reduceLT, Int.reduceLE, Int.reduceAdd, Int.reduceSub, Int.reduceMul, show ¬ (d : Int) < k by omega, show ¬ 7 ≤ (k : Int) by omega, h1]
      refine ⟨rfl, fun o ho => (gi_wr_f ho).trans (g2 o ho), fun i hi => ?_⟩
      rw [gi_wr_if (by omega) (by omega)]
      by_cases c : i = k
      · subst c; rw [if_pos rfl, if_pos (by omega)]
      · rw [if_neg (by omega), g3 i hi]
        by_cases c2 : i < k
        · rw [if_pos c2, if_pos (by omega)]
        · rw [if_neg c2, if_neg (by omega)]
    · intro s hs
      obtain ⟨s1, σ⟩ := s
      obtain ⟨g1, g2, g3⟩ := hs
      simp only at g1 g2 g3
      subst g1
      show xok (fX4_useOn_b42 (j32 ((d + 1 : Nat) : Int)) σ (j32 d) (j32 w)) _
      unfold fX4_useOn_b42
      simp (disch := omega) only [Bool.false_eq_true, lits, jj, jc, jm, Int.cast_ofNat_Int, j_bi0, j_bi1, not_true, not_false_eq_true, if_true, if_false, xe, xok_some, Sum.elim_inl, Sum.elim_inr, Int.reduceEq, Int.reduceLT, Int.reduceLE, Int.reduceAdd, Int.reduceSub, Int.reduceMul, show (d : Int) < ((d + 1 : Nat) : Int) by omega]
      exact ⟨g2, g3⟩
  obtain ⟨ν', r1, r2, r3⟩ := key
  refine ⟨ν', ?_, r2, fun i hi => ?_⟩
  · unfold fX4_useOn
    simp only [lits] at f1 r1 ⊢
    rw [f1, xbd_e, r1, xbd_e]
  · rw [r3 i hi]
    by_cases c : i ≤ d
    · rw [if_pos c, if_pos (by omega)]
    · rw [if_neg c, if_neg (by omega)]
/-- the hours gone through: all dearer ones, of worth w those ahead of h, and h on the days ahead of e -/
def kC (A : xAs) (y w h e d : Int) : Int := sumTo (fun h' => if w < wF A y h' ∨ (wF A y h' = w ∧ (h' < h ∨ (h' = h ∧ d < e))) then rmF A y d h' else 0) 24
theorem kC_step {A : xAs} {y w : Int} {h : Nat} (hh : h < 24) (hw : wF A y h = w) {e z : Int} : kC A y w h (e + 1) z = if z = e then kC A y w h e z + rmF A y z h else kC A y w h e z := by
  unfold kC
  by_cases c : z = e
  · rw [if_pos c, show sumTo (fun h' => if w < wF A y h' ∨ (wF A y h' = w ∧ (h' < h ∨ (h' = h ∧ z < e))) then rmF A y z h' else 0) 24 + rmF A y z h = sumTo (fun h' => if w < wF A y h' ∨ (wF A y h' = w ∧ (h' < h ∨ (h' = h ∧ z < e))) then rmF A y z h' else 0) 24 + (if h < 24 then rmF A y z h else 0) by rw [if_pos hh], ← sumTo_at]
    refine sumTo_c (fun z' a b => ?_)
    by_cases q : z' = h
    · subst q
      rw [if_pos (Or.inr ⟨hw, Or.inr ⟨rfl, by omega⟩⟩), if_pos rfl, if_neg (by omega)]; omega
    · rw [if_neg q]
      by_cases p : w < wF A y z' ∨ (wF A y z' = w ∧ z' < h)
      · rw [if_pos (by omega), if_pos (by omega)]
      · rw [if_neg (by omega), if_neg (by omega)]
  · rw [if_neg c]
    refine sumTo_c (fun z' a b => ?_)
    by_cases p : w < wF A y z' ∨ (wF A y z' = w ∧ (z' < h ∨ (z' = h ∧ z < e)))
    · rw [if_pos (by omega), if_pos p]
    · rw [if_neg (by omega), if_neg p]
theorem kC_next {A : xAs} {y w h e z : Int} (hz : 0 ≤ z ∧ z < e) : kC A y w h e z = kC A y w (h + 1) 0 z := by
  refine sumTo_c (fun z' a b => ?_)
  by_cases p : w < wF A y z' ∨ (wF A y z' = w ∧ (z' < h ∨ (z' = h ∧ z < e)))
  · rw [if_pos p, if_pos (by omega)]
  · rw [if_neg p, if_neg (by omega)]
theorem kC_skip {A : xAs} {y w h z : Int} (hw : wF A y h ≠ w) (hz : 0 ≤ z) : kC A y w h 0 z = kC A y w (h + 1) 0 z := by
  refine sumTo_c (fun z' a b => ?_)
  by_cases p : w < wF A y z' ∨ (wF A y z' = w ∧ (z' < h ∨ (z' = h ∧ z < 0)))
  · rw [if_pos p, if_pos (by omega)]
  · by_cases q : z' = h
    · subst q; rw [if_neg p, if_neg (by omega)]
    · rw [if_neg p, if_neg (by omega)]
theorem kC_24 {A : xAs} {y w z : Int} : kC A y w 24 0 z = cWt A y w z := by
  refine sumTo_c (fun z' a b => ?_)
  by_cases p : w ≤ wF A y z'
  · rw [if_pos (by omega), if_pos p]
  · rw [if_neg (by omega), if_neg p]
theorem kC_0 {A : xAs} {y w z : Int} (hz : 0 ≤ z) : kC A y w 0 0 z = cWt A y (w + 1) z := by
  refine sumTo_c (fun z' a b => ?_)
  by_cases p : w + 1 ≤ wF A y z'
  · rw [if_pos (by omega), if_pos p]
  · rw [if_neg (by omega), if_neg p]
abbrev frF (μ ν : xm) : Prop := ∀ o, o ≠ iC_notes_free → gi ν o = gi μ o
theorem frF.CH {A : xAs} {μ ν : xm} {R : xr} {n : Nat} (h : frF μ ν) (hC : CH A μ R n) : CH A ν R n :=
  hC.scr (fun o ho => h o (by rintro rfl; exact absurd ho (by decide))) (by rw [h _ (by decide)]) (by rw [h _ (by decide)])
/-- the hours gone through give so much -/
def SC (A : xAs) (y : Int) (m : Nat) (c : Int → Int) (B w g : Int) (ν : xm) : Prop := ∃ u, GI (FF A y) c u (gi ν iC_notes_free) m ∧ g = B + w * sumTo u m
theorem SC_b {A : xAs} (hI : Inv A) {y : Int} {m : Nat} {c : Int → Int} {B w g : Int} {ν : xm} (h : SC A y m c B w g ν) : ∀ i : Nat, i < m → 0 ≤ gi ν iC_notes_free i ∧ gi ν iC_notes_free i ≤ 86400 := by
  obtain ⟨u, h1, _⟩ := h
  intro i hi
  have a := h1.2.1 i hi
  have b := FF_b hI (y := y) (d := i)
  have key : ∀ k : Nat, k ≤ m → i ≤ k → sumTo u i ≤ sumTo u k := by
    intro k
    induction k with
    | zero => intro _ h; rw [show i = 0 by omega]; exact Int.le_refl _
    | succ k ih =>
      intro h1' h2
      by_cases e : i = k + 1
      · subst e; exact Int.le_refl _
      · have := ih (by omega) (by omega)
        have := (h1.1 k (by omega)).1
        rw [sumTo_s]; omega
  have := key m (Nat.le_refl _) (by omega)
  omega
/-- one day of one hour -/
theorem ci116 {A : xAs} (hI : Inv A) {y : Int} (hy : 0 ≤ y ∧ y < 8) {m d h : Nat} (hm : m ≤ 7) (hd : d < m) (hh : h < 24) {B w g : Int} (hwb : 0 ≤ w ∧ w ≤ 99) (hw : wF A y h = w) {ν : xm} (hs : SC A y m (kC A y w h d) B w g ν) : ∃ g' ν', fX4_callIn_b116 (l64 g) (j32 d) ν (j32 (m - 1)) (j32 w) (j32 (rmF A y 0 h)) = some (.inl (l64 g', j32 ((d : Int) + 1), ν')) ∧ SC A y m (kC A y w h ((d : Int) + 1)) B w g' ν' ∧ frF ν ν' := by
  have hb := SC_b hI hs
  obtain ⟨u, hu, hg⟩ := hs
  have hr := rmF_b hI (y := y) (d := d) (h := h) hy (by omega)
  have hr0 := rmF_b hI (y := y) (d := 0) (h := h) hy (by omega)
  obtain ⟨ν', e1, e2, e3⟩ := useOn_ok (ν := ν) (d := d) (by omega) hr (fun i hi => hb i (by omega))
  have hmn := mnF_ok hr.1 (d + 1) (fun i hi => (hb i (by omega)).1)
  obtain ⟨x, hx⟩ : ∃ x, mnF (rmF A y d h) (gi ν iC_notes_free) (d + 1) = x := ⟨_, rfl⟩
  rw [hx] at e1 e3 hmn
  obtain ⟨u', hu', hs'⟩ := GI_step hu hd hmn.1 (fun i hi => hmn.2.1 i (by omega)) (hmn.2.2.imp id (fun ⟨i, a, b⟩ => ⟨i, by omega, b⟩)) (c' := kC A y w h ((d : Int) + 1)) (f' := gi ν' iC_notes_free) (fun z hz => by
    rw [kC_step hh hw]
    by_cases c : z = d
    · subst c; rw [if_pos rfl, if_pos rfl]
    · rw [if_neg (by omega), if_neg c]) (fun i hi => e3 i (by omega))
  refine ⟨g + w * x, ν', ?_, ⟨u', hu', by rw [hs', Int.mul_add]; omega⟩, e2⟩
  have g153 : fX4_callIn_j153 (j32 (rmF A y d h)) (j32 w) (l64 g) (j32 d) ν = some (.inl (l64 (g + w * x), j32 ((d : Int) + 1), ν')) := by
    unfold fX4_callIn_j153
    simp (disch := omega) only [Bool.false_eq_true, lits, jj, jc, jm, Int.cast_ofNat_Int, j_bi0, j_bi1, not_true, not_false_eq_true, if_true, if_false, xe, xok_some, Sum.elim_inl, Sum.elim_inr, Int.reduceEq, Int.reduceLT, Int.reduceLE, Int.reduceAdd, Int.reduceSub, Int.reduceMul, e1, l_of, l_mul, l_add]
  unfold fX4_callIn_b116
  by_cases c : (d : Int) = 0
  · simp (disch := omega) only [Bool.false_eq_true, lits, jj, jc, jm, Int.cast_ofNat_Int, j_bi0, j_bi1, not_true, not_false_eq_true, if_true, if_false, xe, xok_some, Sum.elim_inl, Sum.elim_inr, Int.reduceEq, Int.reduceLT, Int.reduceLE, Int.reduceAdd, Int.reduceSub, Int.reduceMul, show ¬ (m : Int) - 1 < d by omega, show ¬ 7 ≤ (d : Int) by omega, c, show ¬ (m : Int) - 1 < 0 by omega]
    rw [c] at g153
    simp only [Int.zero_add] at g153 ⊢
    exact g153
  · rw [show rmF A y d h = 60 from if_neg c] at g153
    simp (disch := omega) only [Bool.false_eq_true, lits, jj, jc, jm, Int.cast_ofNat_Int, j_bi0, j_bi1, not_true, not_false_eq_true, if_true, if_false, xe, xok_some, Sum.elim_inl, Sum.elim_inr, Int.reduceEq, Int.reduceLT, Int.reduceLE, Int.reduceAdd, Int.reduceSub, Int.reduceMul, show ¬ (m : Int) - 1 < d by omega, show ¬ 7 ≤ (d : Int) by omega, c, g153]
/-- one hour -/
theorem ci77 {A : xAs} {μ ν : xm} {R : xr} {n : Nat} (hC : CH A μ R n) (hI : Inv A) {y : Int} (hy : 0 ≤ y ∧ y < 8) {m h : Nat} (hm : 1 ≤ m ∧ m ≤ 7) (hh : h < 24) {B w g : Int} (hwb : 0 ≤ w ∧ w ≤ 99) (hf : frF μ ν) (hs : SC A y m (kC A y w h 0) B w g ν) : ∃ g' ν', fX4_callIn_b77 (l64 g) (j32 h) ν (j32 y) (j32 (m - 1)) (j32 w) = some (.inl (l64 g', j32 ((h : Int) + 1), ν')) ∧ SC A y m (kC A y w ((h : Int) + 1) 0) B w g' ν' ∧ frF μ ν' := by
  have e1 := eX5_worthAt (hf.CH hC) hy (h := h) (by omega)
  have e2 := eX5_takenIn (hf.CH hC) hy (h := h) (by omega)
  have hwf := wF_b hI hy (h := h) (by omega)
  have ht := hI.tookIn (24 * y + h) (by omega) (by omega)
  rw [show A iM_worthOf (24 * y + h) = wF A y h from rfl] at e1
  by_cases c : wF A y h = w
  · have key : xok (xloop xfu (fun v => fX4_callIn_b116 v.1 v.2.1 v.2.2 (j32 (m - 1)) (j32 w) (j32 (rmF A y 0 h))) (l64 g, j32 0, ν)) (fun q => ∃ g', q.1 = l64 g' ∧ SC A y m (kC A y w h m) B w g' q.2 ∧ frF μ q.2) := by
      refine xok_for (fun d s => s.2.1 = j32 d ∧ ∃ g', s.1 = l64 g' ∧ SC A y m (kC A y w h d) B w g' s.2.2 ∧ frF μ s.2.2) m (by omega) ⟨rfl, g, rfl, hs, hf⟩ ?_ ?_
      · intro d s hd hs
        obtain ⟨s1, s2, σ⟩ := s
        obtain ⟨g1, g', g2, g3, g4⟩ := hs
        simp only at g1 g2 g3 g4
        subst g1; subst g2
        obtain ⟨g'', ν', r1, r2, r3⟩ := ci116 hI hy hm.2 hd hh hwb c g3
        exact ⟨_, r1, rfl, g'', rfl, r2, fun o ho => (r3 o ho).trans (g4 o ho)⟩
      · intro s hs
        obtain ⟨s1, s2, σ⟩ := s
        obtain ⟨g1, g', g2, g3, g4⟩ := hs
        simp only at g1 g2 g3 g4
        subst g1; subst g2
        show xok (fX4_callIn_b116 (l64 g') (j32 m) σ (j32 (m - 1)) (j32 w) _) _
        unfold fX4_callIn_b116
        simp (disch := omega) only [Bool.false_eq_true, lits, jj, jc, jm, Int.cast_ofNat_Int, j_bi0, j_bi1, not_true, not_false_eq_true, if_true, if_false, xe, xok_some, Sum.elim_inl, Sum.elim_inr, Int.reduceEq, Int.reduceLT, Int.reduceLE, Int.reduceAdd, Int.reduceSub, Int.reduceMul, show (m : Int) - 1 < m by omega]
        exact ⟨g', rfl, g3, g4⟩
    obtain ⟨q, q1, g', q2, ⟨u, q3, q4⟩, q5⟩ := key
    refine ⟨g', q.2, ?_, ⟨u, GI_c q3 (fun d hd => (kC_next (by omega)).symm), q4⟩, q5⟩
    unfold fX4_callIn_b77
    simp only [lits] at q1 ⊢
    have e60 : rmF A y 0 h = 60 - A iM_tookIn (24 * y + h) := if_pos rfl
    rw [if_neg (by rw [j_le (by omega) (by omega)]; omega), e1, xbd_e, if_pos (by rw [c]), e2, xbd_e, xlt_e, j_sub, ← e60, q1, xbd_e, xlt_e, j_add, q2]
  · obtain ⟨u, q3, q4⟩ := hs
    refine ⟨g, ν, ?_, ⟨u, GI_c q3 (fun d hd => (kC_skip c (by omega)).symm), q4⟩, hf⟩
    unfold fX4_callIn_b77
    simp (disch := omega) only [Bool.false_eq_true, lits, jj, jc, jm, Int.cast_ofNat_Int, j_bi0, j_bi1, not_true, not_false_eq_true, if_true, if_false, xe, xok_some, Sum.elim_inl, Sum.elim_inr, Int.reduceEq, Int.reduceLT, Int.reduceLE, Int.reduceAdd, Int.reduceSub, Int.reduceMul, show ¬ (24 : Int) ≤ h by omega, e1, c]
/-- one worth -/
theorem ciL {A : xAs} {μ ν : xm} {R : xr} {n : Nat} (hC : CH A μ R n) (hI : Inv A) {y : Int} (hy : 0 ≤ y ∧ y < 8) {m : Nat} (hm : 1 ≤ m ∧ m ≤ 7) {B w g : Int} (hwb : 0 ≤ w ∧ w ≤ 99) (hf : frF μ ν) (hs : SC A y m (cWt A y (w + 1)) B w g ν) : ∃ g' ν', xloop xfu (fun v => fX4_callIn_b77 v.1 v.2.1 v.2.2 (j32 y) (j32 (m - 1)) (j32 w)) (l64 g, j32 0, ν) = some (l64 g', ν') ∧ SC A y m (cWt A y w) B w g' ν' ∧ frF μ ν' := by
  have key : xok (xloop xfu (fun v => fX4_callIn_b77 v.1 v.2.1 v.2.2 (j32 y) (j32 (m - 1)) (j32 w)) (l64 g, j32 0, ν)) (fun q => ∃ g', q.1 = l64 g' ∧ SC A y m (kC A y w 24 0) B w g' q.2 ∧ frF μ q.2) := by
    refine xok_for (fun h s => s.2.1 = j32 h ∧ ∃ g', s.1 = l64 g' ∧ SC A y m (kC A y w h 0) B w g' s.2.2 ∧ frF μ s.2.2) 24 (by omega) ⟨rfl, g, rfl, ?_, hf⟩ ?_ ?_
    · obtain ⟨u, q3, q4⟩ := hs
      exact ⟨u, GI_c q3 (fun d hd => kC_0 (by omega)), q4⟩
    · intro h s hh hs
      obtain ⟨s1, s2, σ⟩ := s
      obtain ⟨g1, g', g2, g3, g4⟩ := hs
      simp only at g1 g2 g3 g4
      subst g1; subst g2
      obtain ⟨g'', ν', r1, r2, r3⟩ := ci77 hC hI hy hm hh hwb g4 g3
      exact ⟨_, r1, rfl, g'', rfl, r2, r3⟩
    · intro s hs
      obtain ⟨s1, s2, σ⟩ := s
      obtain ⟨g1, g', g2, g3, g4⟩ := hs
      simp only at g1 g2 g3 g4
      subst g1; subst g2
      show xok (fX4_callIn_b77 (l64 g') (j32 (24 : Nat)) σ _ _ _) _
      unfold fX4_callIn_b77
      simp (disch := omega) only [Bool.false_eq_true, lits, jj, jc, jm, Int.cast_ofNat_Int, j_bi0, j_bi1, not_true, not_false_eq_true, if_true, if_false, xe, xok_some, Sum.elim_inl, Sum.elim_inr, Int.reduceEq, Int.reduceLT, Int.reduceLE, Int.reduceAdd, Int.reduceSub, Int.reduceMul, show ((24 : Nat) : Int) = 24 from rfl]
      exact ⟨g', rfl, g3, g4⟩
  obtain ⟨q, q1, g', q2, ⟨u, q3, q4⟩, q5⟩ := key
  refine ⟨g', q.2, ?_, ⟨u, GI_c q3 (fun d hd => kC_24.symm), q4⟩, q5⟩
  rw [q1, ← q2]
theorem sumTo_k {f : Int → Int} {v : Int} : ∀ k : Nat, (∀ z : Int, 0 ≤ z → z < k → f z = v) → sumTo f k = k * v
  | 0, _ => by show (0 : Int) = 0 * v; omega
  | k + 1, h => by
    rw [sumTo_s, sumTo_k k (fun z a b => h z a (by omega)), h k (by omega) (by omega), show ((k + 1 : Nat) : Int) = (k : Int) + 1 from rfl, Int.add_mul]; omega
/-- all worths -/
theorem ciA {A : xAs} {μ ν : xm} {R : xr} {n : Nat} (hC : CH A μ R n) (hI : Inv A) {y : Int} (hy : 0 ≤ y ∧ y < 8) {m : Nat} (hm : 1 ≤ m ∧ m ≤ 7) (hf : frF μ ν) (h0 : ∀ i : Nat, i < m → gi ν iC_notes_free i = FF A y i) : xok (xloop xfu (fun v => fX4_callIn_b60 v.1 v.2.1 v.2.2 (j32 y) (j32 (m - 1))) (l64 0, j32 99, ν)) (fun q => q.1 = l64 (gainF A y m) ∧ frF μ q.2) := by
  refine xok_for (fun k s => s.2.1 = j32 (99 - k) ∧ frF μ s.2.2 ∧ ∃ g, s.1 = l64 g ∧ SC A y m (cWt A y (99 - (k : Int) + 1)) (gainF A y m - sumTo (fun z => rkW A y m (z + 1)) (99 - k)) (99 - (k : Int)) g s.2.2) 99 (by omega) ⟨rfl, hf, 0, rfl, ?_⟩ ?_ ?_
  · refine ⟨fun _ => 0, GI_0 (fun i hi => ⟨h0 i hi, (FF_b hI).1⟩) (fun d hd => ?_), ?_⟩
    · have hz : ∀ z : Int, 0 ≤ z → z < (24 : Nat) → (if 99 - ((0 : Nat) : Int) + 1 ≤ wF A y z then rmF A y d z else 0) = 0 := fun z a b => by
        have := wF_b hI hy (h := z) ⟨a, b⟩
        rw [if_neg (by omega)]
      exact (sumTo_c hz).trans (sumTo_zero _)
    · rw [sumTo_zero]
      show (0 : Int) = gainF A y m - gainF A y m + _ * 0
      omega
  · intro k s hk hs
    obtain ⟨s1, s2, σ⟩ := s
    obtain ⟨g1, g2, g, g3, g4⟩ := hs
    simp only at g1 g2 g3 g4
    subst g1; subst g3
    have hb : 0 ≤ gi σ iC_notes_free 0 ∧ gi σ iC_notes_free 0 ≤ 86400 := SC_b hI g4 0 (by omega)
    obtain ⟨w, hw⟩ : ∃ w, w = 99 - (k : Int) := ⟨_, rfl⟩
    rw [← hw] at g4 ⊢
    have ew : (99 - k : Nat) = (w - 1).toNat + 1 := by omega
    show xok (fX4_callIn_b60 (l64 g) (j32 w) σ _ _) _
    by_cases c : gi σ iC_notes_free 0 ≤ 0
    · have key : g = gainF A y m := by
        obtain ⟨u, u1, u2⟩ := g4
        have a := u1.2.1 0 (by omega)
        have e0 : sumTo u 0 = 0 := rfl
        have e1 : FF A y ((0 : Nat) : Int) = FF A y 0 := rfl
        have e2 : gi σ iC_notes_free ((0 : Nat) : Int) = gi σ iC_notes_free 0 := rfl
        rw [e0, e1, e2] at a
        have rk := GI_rank u1
        have hU : rkW A y m (w + 1) = FF A y 0 := by show rkf _ _ _ _ = _; omega
        have hs := sumTo_k (f := fun z => rkW A y m (z + 1)) (v := FF A y 0) (99 - k) (fun z a b => by
          have h1 := rkW_b hI (v := z + 1) hm.1 hy
          have h2 := rkW_m hI (m := m) (v := z + 1) (v' := w + 1) hy (by omega)
          show rkW A y m (z + 1) = _
          omega)
        rw [hs] at u2
        have h3 : sumTo u m = FF A y 0 := by omega
        rw [h3, show (((99 - k : Nat) : Int)) = w by omega] at u2
        omega
      unfold fX4_callIn_b60
      simp (disch := omega) only [Bool.false_eq_true, lits, jj, jc, jm, Int.cast_ofNat_Int, j_bi0, j_bi1, not_true, not_false_eq_true, if_true, if_false, xe, xok_some, Sum.elim_inl, Sum.elim_inr, Int.reduceEq, Int.reduceLT, Int.reduceLE, Int.reduceAdd, Int.reduceSub, Int.reduceMul, show ¬ w ≤ 0 by omega, c]
      exact ⟨by rw [key], g2⟩
    · obtain ⟨g', ν', r1, ⟨u, r2, r3⟩, r4⟩ := ciL hC hI hy hm (by omega) g2 g4
      have rk := GI_rank r2
      unfold fX4_callIn_b60
      simp only [lits] at r1 ⊢
      rw [if_neg (by rw [j_le (by omega) (by omega)]; omega), j_gI (by omega), xbd_e, if_neg (by rw [j_le (by omega) (by omega)]; exact c), r1, xbd_e, xlt_e, j_neg, j_add, xok_some]
      refine ⟨by show j32 _ = j32 _; congr 1; omega, r4, g', rfl, u, ?_, ?_⟩
      · rw [show 99 - ((k + 1 : Nat) : Int) + 1 = w by omega]; exact r2
      · rw [r3, ew, sumTo_s, show (99 - (k + 1) : Nat) = (w - 1).toNat by omega, show 99 - ((k + 1 : Nat) : Int) = w - 1 by omega, Int.sub_mul, show ((w - 1).toNat : Int) + 1 = w by omega]
        have e3 : rkW A y m w = sumTo u m := rk.symm
        omega
  · intro s hs
    obtain ⟨s1, s2, σ⟩ := s
    obtain ⟨g1, g2, g, g3, ⟨u, u1, u2⟩⟩ := hs
    simp only at g1 g2 g3 u1 u2
    subst g1; subst g3
    show xok (fX4_callIn_b60 (l64 g) (j32 (99 - ((99 : Nat) : Int))) σ _ _) _
    rw [show 99 - ((99 : Nat) : Int) = 0 from rfl] at u2 ⊢
    unfold fX4_callIn_b60
    simp (disch := omega) only [Bool.false_eq_true, lits, jj, jc, jm, Int.cast_ofNat_Int, j_bi0, j_bi1, not_true, not_false_eq_true, if_true, if_false, xe, xok_some, Sum.elim_inl, Sum.elim_inr, Int.reduceEq, Int.reduceLT, Int.reduceLE, Int.reduceAdd, Int.reduceSub, Int.reduceMul, Int.le_refl]
    refine ⟨?_, g2⟩
    have e0 : sumTo (fun z => rkW A y m (z + 1)) (99 - 99) = 0 := rfl
    rw [e0] at u2
    have e1 : g = gainF A y m := by omega
    rw [e1]
theorem callIn_ok {A : xAs} {μ : xm} {R : xr} {n : Nat} (hC : CH A μ R n) (hI : Inv A) {y days : Int} (hy : 0 ≤ y ∧ y < 8) (hd : 0 ≤ days ∧ days ≤ 6) {m : Nat} (hm : (m : Int) = min days (99 - A iM 0) + 1) : ∃ ν, fX4_callIn (j32 y) (j32 days) (j32 (A iM 0)) μ = some (l64 (gainF A y m), ν) ∧ frF μ ν := by
  have h0 := hI.now
  have key : xok (xloop xfu (fun v => fX4_callIn_b13 v.1 v.2 (j32 y) (j32 (A iM 0)) (j32 (m - 1))) (j32 0, μ)) (fun ν => frF μ ν ∧ ∀ i : Nat, i < m → gi ν iC_notes_free i = FF A y i) := by
    refine xok_for (fun k s => s.1 = j32 k ∧ frF μ s.2 ∧ ∀ i : Nat, i < k → gi s.2 iC_notes_free i = FF A y i) m (by omega) ⟨rfl, fun _ _ => rfl, fun i hi => by omega⟩ ?_ ?_
    · intro k s hk hs
      obtain ⟨s1, σ⟩ := s
      obtain ⟨g1, g2, g3⟩ := hs
      simp only at g1 g2 g3
      subst g1
      have e1 := eX4_sumOf (g2.CH hC) hI (x := -1) (y := y) (d := A iM 0 + k) (by omega) (by omega) (by omega)
      have hb := sOw_b hI (x := -1) (y := y) (d := A iM 0 + k)
      show xok (fX4_callIn_b13 (j32 k) σ _ _ _) _
      unfold fX4_callIn_b13
      simp (disch := omega) only [Bool.false_eq_true, lits, jj, jc, jm, Int.cast_ofNat_Int, j_bi0, j_bi1, not_true, not_false_eq_true, if_true, if_false, xe, xok_some, Sum.elim_inl, Sum.elim_inr, Int.reduceEq, Int.reduceLT, Int.reduceLE, Int.reduceAdd, Int.reduceSub, Int.reduceMul, show ¬ (m : Int) - 1 < k by omega, show ¬ 7 ≤ (k : Int) by omega, e1]
      refine ⟨rfl, fun o ho => (gi_wr_f ho).trans (g2 o ho), fun i hi => ?_⟩
      rw [gi_wr_if (by omega) (by omega)]
      by_cases c : i = k
      · subst c; rw [if_pos rfl]; rfl
      · rw [if_neg (by omega)]; exact g3 i (by omega)
    · intro s hs
      obtain ⟨s1, σ⟩ := s
      obtain ⟨g1, g2, g3⟩ := hs
      simp only at g1 g2 g3
      subst g1
      show xok (fX4_callIn_b13 (j32 m) σ _ _ _) _
      unfold fX4_callIn_b13
      simp (disch := omega) only [Bool.false_eq_true, lits, jj, jc, jm, Int.cast_ofNat_Int, j_bi0, j_bi1, not_true, not_false_eq_true, if_true, if_false, xe, xok_some, Sum.elim_inl, Sum.elim_inr, Int.reduceEq, Int.reduceLT, Int.reduceLE, Int.reduceAdd, Int.reduceSub, Int.reduceMul, show (m : Int) - 1 < m by omega]
      exact ⟨g2, g3⟩
  obtain ⟨ν1, r1, r2, r3⟩ := key
  obtain ⟨q, q1, q2, q3⟩ := ciA hC hI hy (m := m) (by omega) r2 r3
  refine ⟨q.2, ?_, q3⟩
  unfold fX4_callIn
  simp only [lits] at r1 ⊢
  rw [xlt_e, j_sub, j_min (by omega) (by omega), show min days (99 - A iM 0) = (m : Int) - 1 by omega, r1, xbd_e, show (0 : Int64) = l64 0 from rfl, q1, xbd_e, q2]
