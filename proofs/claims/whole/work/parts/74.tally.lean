/-! rest: the tallies -/
def TY (V : List Int) (Φ : (Int → Int) → Int) (o : Nat) (ν : xm) : Prop := ∃ (n : Nat) (wt : Int → Int), gi ν o 2 = n ∧ (∀ i : Nat, i < n → gi ν (o + 1) i ∈ V) ∧ (∀ i j : Nat, i < j → j < n → gi ν (o + 1) i ≠ gi ν (o + 1) j) ∧ (∀ i : Nat, i < n → gl ν (o + 2) i = l64 (wt i)) ∧ ∀ φ : Int → Int, sumTo (fun i => wt i * φ (gi ν (o + 1) i)) n = Φ φ
abbrev bVl (V : List Int) : Prop := V.length ≤ 21 ∧ ∀ x ∈ V, -10000 ≤ x ∧ x ≤ 10000
def fT (o : Nat) (ν ν' : xm) : Prop := (∀ a, a ≠ o → a ≠ o + 1 → gi ν' a = gi ν a) ∧ ∀ a, a ≠ o + 2 → gl ν' a = gl ν a
theorem fT.rf {o : Nat} {ν : xm} : fT o ν ν := ⟨fun _ _ _ => rfl, fun _ _ => rfl⟩
theorem fT.tr {o : Nat} {ν ν' ν'' : xm} (h1 : fT o ν ν') (h2 : fT o ν' ν'') : fT o ν ν'' := ⟨fun a p q => (h2.1 a p q).trans (h1.1 a p q), fun a p => (h2.2 a p).trans (h1.2 a p)⟩
theorem TY_fT {V : List Int} {Φ : (Int → Int) → Int} {o a : Nat} {ν ν' : xm} (h : TY V Φ a ν) (hf : fT o ν ν') (hd : a ≠ o ∧ a ≠ o + 1 ∧ a + 1 ≠ o ∧ a + 2 ≠ o + 2) : TY V Φ a ν' := by
  obtain ⟨n, wt, h1, h2, h3, h4, h5⟩ := h
  have e1 := hf.1 a hd.1 hd.2.1
  have e2 := hf.1 (a + 1) hd.2.2.1 (by omega)
  have e3 := hf.2 (a + 2) hd.2.2.2
  refine ⟨n, wt, by rw [e1]; exact h1, fun i hi => by rw [e2]; exact h2 i hi, fun i j p q => by rw [e2]; exact h3 i j p q, fun i hi => by rw [e3]; exact h4 i hi, fun φ => by rw [e2]; exact h5 φ⟩
theorem TY_mono {V V' : List Int} {Φ : (Int → Int) → Int} {o : Nat} {ν : xm} (h : TY V Φ o ν) (hv : ∀ x ∈ V, x ∈ V') : TY V' Φ o ν := by
  obtain ⟨n, wt, h1, h2, h3⟩ := h
  exact ⟨n, wt, h1, fun i hi => hv _ (h2 i hi), h3⟩
theorem TY_len {V : List Int} {Φ : (Int → Int) → Int} {o : Nat} {ν : xm} (h : TY V Φ o ν) (hv : V.length ≤ 21) : ∃ n : Nat, gi ν o 2 = n ∧ n ≤ 21 := by
  obtain ⟨n, wt, h1, h2, h3, _⟩ := h
  exact ⟨n, h1, Nat.le_trans (pig V n (fun i => gi ν (o + 1) i) h2 h3) hv⟩
theorem add_ok {V : List Int} {Φ : (Int → Int) → Int} {o : Nat} {ν : xm} (h : TY V Φ o ν) (hV : bVl V) {v x : Int} (hv : v ∈ V) : ∃ ν', fX8_add o (j32 v) (l64 x) ν = some ν' ∧ TY V (fun φ => Φ φ + x * φ v) o ν' ∧ fT o ν ν' := by
  obtain ⟨n, wt, h1, h2, h3, h4, h5⟩ := h
  have hn : n ≤ 21 := Nat.le_trans (pig V n (fun i => gi ν (o + 1) i) h2 h3) hV.1
  have hvb := hV.2 v hv
  have key : xok (xloop xfu (fun k => fX8_add_b3 k o (j32 v) (l64 x) ν) (j32 0)) (fun r => (r = .inl () ∧ ∀ i : Nat, i < n → gi ν (o + 1) i ≠ v) ∨ ∃ i : Nat, i < n ∧ gi ν (o + 1) i = v ∧ r = .inr (wl ν (o + 2) i (l64 (wt i) + l64 x))) := by
    refine xok_for (fun k s => s = j32 k ∧ ∀ i : Nat, i < k → gi ν (o + 1) i ≠ v) n (by omega) ⟨rfl, fun i hi => by omega⟩ ?_ ?_
    · intro k s hk hs
      obtain ⟨rfl, g⟩ := hs
      have b := hV.2 _ (h2 k hk)
      have e := h4 k hk
      by_cases c : gi ν (o + 1) k = v
      · unfold fX8_add_b3
        simp (disch := omega) only [Bool.false_eq_true, lits, jj, jc, jm, Int.cast_ofNat_Int, j_bi0, j_bi1, not_true, not_false_eq_true, if_true, if_false, xe, xok_some, Sum.elim_inl, Sum.elim_inr, Int.reduceEq, Int.reduceLT, Int.reduceLE, Int.reduceAdd, Int.reduceSub, Int.reduceMul, h1, show ¬ (n : Int) ≤ k by omega, show ¬ 21 ≤ (k : Int) by omega, c, e]
        exact Or.inr ⟨k, hk, c, rfl⟩
      · unfold fX8_add_b3
        simp (disch := omega) only [Bool.false_eq_true, lits, jj, jc, jm, Int.cast_ofNat_Int, j_bi0, j_bi1, not_true, not_false_eq_true, if_true, if_false, xe, xok_some, Sum.elim_inl, Sum.elim_inr, Int.reduceEq, Int.reduceLT, Int.reduceLE, Int.reduceAdd, Int.reduceSub, Int.reduceMul, h1, show ¬ (n : Int) ≤ k by omega, show ¬ 21 ≤ (k : Int) by omega, c]
        refine ⟨rfl, fun i hi => ?_⟩
        by_cases q : i = k
        · subst q; exact c
        · exact g i (by omega)
    · intro s hs
      obtain ⟨rfl, g⟩ := hs
      unfold fX8_add_b3
      simp (disch := omega) only [Bool.false_eq_true, lits, jj, jc, jm, Int.cast_ofNat_Int, j_bi0, j_bi1, not_true, not_false_eq_true, if_true, if_false, xe, xok_some, Sum.elim_inl, Sum.elim_inr, Int.reduceEq, Int.reduceLT, Int.reduceLE, Int.reduceAdd, Int.reduceSub, Int.reduceMul, h1, Int.le_refl]
      exact Or.inl ⟨trivial, g⟩
  obtain ⟨r, r1, ⟨rfl, r2⟩ | ⟨i, i1, i2, rfl⟩⟩ := key
  · -- a new one
    have hn2 : n + 1 ≤ 21 := Nat.le_trans (pig V (n + 1) (fun i => if i = n then v else gi ν (o + 1) i) (fun i hi => by
      show (if i = n then v else gi ν (o + 1) i) ∈ V
      by_cases c : i = n
      · rw [if_pos c]; exact hv
      · rw [if_neg c]; exact h2 i (by omega)) (fun i j hij hj => by
      show (if i = n then v else gi ν (o + 1) i) ≠ (if j = n then v else gi ν (o + 1) j)
      rw [if_neg (by omega)]
      by_cases c : j = n
      · rw [if_pos c]; exact r2 i (by omega)
      · rw [if_neg c]; exact h3 i j hij (by omega))) hV.1
    refine ⟨wr (wl (wr ν (o + 1) n v) (o + 2) n (l64 x)) o 2 ((n : Int) + 1), ?_, ⟨n + 1, up1 wt n x, gi_wr (by omega), fun i hi => ?_, fun i j hij hj => ?_, fun i hi => ?_, fun φ => ?_⟩, fun a p q => ?_, fun a p => ?_⟩
    · have w1 : gi (wr ν (o + 1) n v) o 2 = n := by rw [gi_wr_o (by omega)]; exact h1
      have w2 : gi (wl (wr ν (o + 1) n v) (o + 2) n (l64 x)) o 2 = n := by rw [gi_wl]; exact w1
      unfold fX8_add
      simp only [lits] at r1 ⊢
      rw [r1, xbd_e, xsm_e0]
      simp (disch := omega) only [Bool.false_eq_true, lits, jj, jc, jm, Int.cast_ofNat_Int, j_bi0, j_bi1, not_true, not_false_eq_true, if_true, if_false, xe, xok_some, Sum.elim_inl, Sum.elim_inr, Int.reduceEq, Int.reduceLT, Int.reduceLE, Int.reduceAdd, Int.reduceSub, Int.reduceMul, h1, show ¬ (n : Int) < 0 by omega, show (n : Int) < 21 by omega, w1, w2]
    · rw [gi_wr_o (by omega), gi_wl, gi_wr_if (by omega) (by omega)]
      by_cases c : i = n
      · rw [if_pos (by omega)]; exact hv
      · rw [if_neg (by omega)]; exact h2 i (by omega)
    · rw [gi_wr_o (by omega), gi_wl, gi_wr_if (by omega) (by omega), gi_wr_o (by omega), gi_wl, gi_wr_if (by omega) (by omega), if_neg (by omega)]
      by_cases c : j = n
      · rw [if_pos (by omega)]; exact r2 i (by omega)
      · rw [if_neg (by omega)]; exact h3 i j hij (by omega)
    · rw [gl_wr]
      by_cases c : i = n
      · subst c; rw [gl_wl, up1_s]
      · rw [gl_wl_z (by omega), gl_wr, up1_n (by omega)]; exact h4 i (by omega)
    · show _ = Φ φ + x * φ v
      rw [sumTo_s, ← h5]
      have g : ∀ z : Int, 0 ≤ z → gi (wr (wl (wr ν (o + 1) n v) (o + 2) n (l64 x)) o 2 ((n : Int) + 1)) (o + 1) z = if z = n then v else gi ν (o + 1) z := fun z hz => by
        rw [gi_wr_o (by omega), gi_wl, gi_wr_if (by omega) (by omega)]
      show sumTo (fun i => up1 wt n x i * φ (gi _ (o + 1) i)) n + up1 wt n x n * φ (gi _ (o + 1) n) = _
      rw [g n (by omega), if_pos rfl, up1_s]
      congr 1
      refine sumTo_c (fun z a b => ?_)
      rw [g z a, if_neg (by omega), up1_n (by omega)]
    · rw [gi_wr_f p]
      show gi (wr ν (o + 1) n v) a = _
      exact gi_wr_f q
    · funext y
      rw [gl_wr, gl_wl_o p, gl_wr]
  · refine ⟨wl ν (o + 2) i (l64 (wt i) + l64 x), ?_, ⟨n, up1 wt i (wt i + x), h1, h2, h3, fun j hj => ?_, fun φ => ?_⟩, fun a _ _ => rfl, fun a p => ?_⟩
    · unfold fX8_add
      simp only [lits] at r1 ⊢
      rw [r1, xbd_e, xsm_e1]
    · by_cases c : j = i
      · subst c; rw [gl_wl, up1_s, l_add]
      · rw [gl_wl_z (by omega), up1_n (by omega)]; exact h4 j hj
    · have hs := sumTo_at (u := fun z => wt z * φ (gi ν (o + 1) z)) (d := i) (w := x * φ v) n
      rw [if_pos i1, h5] at hs
      show _ = Φ φ + x * φ v
      rw [← hs]
      refine sumTo_c (fun z a b => ?_)
      show up1 wt i (wt i + x) z * φ (gi ν (o + 1) z) = _
      by_cases c : z = i
      · rw [if_pos c, c, up1_s, i2, Int.add_mul]
      · rw [if_neg c, up1_n c]
    · funext y
      rw [gl_wl_o p]
theorem above_ok {V : List Int} {Φ : (Int → Int) → Int} {o : Nat} {ν : xm} (h : TY V Φ o ν) (hV : bVl V) {c : Int} (hc : -10000 ≤ c ∧ c ≤ 10000) : fX8_above o (j32 c) ν = some (l64 (Φ (fun x => if c < x then x - c else 0))) := by
  obtain ⟨n, wt, h1, h2, h3, h4, h5⟩ := h
  have hn : n ≤ 21 := Nat.le_trans (pig V n (fun i => gi ν (o + 1) i) h2 h3) hV.1
  rw [← h5]
  have key : xloop xfu (fun s => fX8_above_b5 s.1 s.2 o (j32 c) ν) (l64 0, j32 0) = some (l64 (sumTo (fun i => wt i * (fun x => if c < x then x - c else 0) (gi ν (o + 1) i)) n)) := by
    refine xloop_for (fun k : Nat => (l64 (sumTo (fun i => wt i * (fun x => if c < x then x - c else 0) (gi ν (o + 1) i)) k), j32 k)) n (by omega) rfl ?_ ?_
    · intro k hk
      have b := hV.2 _ (h2 k hk)
      have e := h4 k hk
      rw [sumTo_s]
      show fX8_above_b5 (l64 _) (j32 k) o (j32 c) ν = some (.inl (l64 (_ + wt k * (if c < gi ν (o + 1) k then gi ν (o + 1) k - c else 0)), j32 ((k + 1 : Nat) : Int)))
      unfold fX8_above_b5
      by_cases q : c < gi ν (o + 1) k
      · simp (disch := omega) only [Bool.false_eq_true, lits, jj, jc, jm, Int.cast_ofNat_Int, j_bi0, j_bi1, not_true, not_false_eq_true, if_true, if_false, xe, xok_some, Sum.elim_inl, Sum.elim_inr, Int.reduceEq, Int.reduceLT, Int.reduceLE, Int.reduceAdd, Int.reduceSub, Int.reduceMul, h1, show ¬ (n : Int) ≤ k by omega, show ¬ 21 ≤ (k : Int) by omega, show ¬ gi ν (o + 1) k ≤ c by omega, e, q, l_of, l_mul, l_add]
        rfl
      · simp (disch := omega) only [Bool.false_eq_true, lits, jj, jc, jm, Int.cast_ofNat_Int, j_bi0, j_bi1, not_true, not_false_eq_true, if_true, if_false, xe, xok_some, Sum.elim_inl, Sum.elim_inr, Int.reduceEq, Int.reduceLT, Int.reduceLE, Int.reduceAdd, Int.reduceSub, Int.reduceMul, h1, show ¬ (n : Int) ≤ k by omega, show ¬ 21 ≤ (k : Int) by omega, show gi ν (o + 1) k ≤ c by omega, q, Int.mul_zero, Int.add_zero]
        rfl
    · show fX8_above_b5 _ (j32 n) o (j32 c) ν = _
      unfold fX8_above_b5
      simp (disch := omega) only [Bool.false_eq_true, lits, jj, jc, jm, Int.cast_ofNat_Int, j_bi0, j_bi1, not_true, not_false_eq_true, if_true, if_false, xe, xok_some, Sum.elim_inl, Sum.elim_inr, Int.reduceEq, Int.reduceLT, Int.reduceLE, Int.reduceAdd, Int.reduceSub, Int.reduceMul, h1, Int.le_refl]
  unfold fX8_above
  simp only [lits]
  rw [show (0 : Int64) = l64 0 from rfl, key, xbd_e]
theorem below_ok {V : List Int} {Φ : (Int → Int) → Int} {o : Nat} {ν : xm} (h : TY V Φ o ν) (hV : bVl V) {c : Int} (hc : -10000 ≤ c ∧ c ≤ 10000) : fX8_below o (j32 c) ν = some (l64 (Φ (fun x => if x < c then c - x else 0))) := by
  obtain ⟨n, wt, h1, h2, h3, h4, h5⟩ := h
  have hn : n ≤ 21 := Nat.le_trans (pig V n (fun i => gi ν (o + 1) i) h2 h3) hV.1
  rw [← h5]
  have key : xloop xfu (fun s => fX8_below_b5 s.1 s.2 o (j32 c) ν) (l64 0, j32 0) = some (l64 (sumTo (fun i => wt i * (fun x => if x < c then c - x else 0) (gi ν (o + 1) i)) n)) := by
    refine xloop_for (fun k : Nat => (l64 (sumTo (fun i => wt i * (fun x => if x < c then c - x else 0) (gi ν (o + 1) i)) k), j32 k)) n (by omega) rfl ?_ ?_
    · intro k hk
      have b := hV.2 _ (h2 k hk)
      have e := h4 k hk
      rw [sumTo_s]
      show fX8_below_b5 (l64 _) (j32 k) o (j32 c) ν = some (.inl (l64 (_ + wt k * (if gi ν (o + 1) k < c then c - gi ν (o + 1) k else 0)), j32 ((k + 1 : Nat) : Int)))
      unfold fX8_below_b5
      by_cases q : gi ν (o + 1) k < c
      · simp (disch := omega) only [Bool.false_eq_true, lits, jj, jc, jm, Int.cast_ofNat_Int, j_bi0, j_bi1, not_true, not_false_eq_true, if_true, if_false, xe, xok_some, Sum.elim_inl, Sum.elim_inr, Int.reduceEq, Int.reduceLT, Int.reduceLE, Int.reduceAdd, Int.reduceSub, Int.reduceMul, h1, show ¬ (n : Int) ≤ k by omega, show ¬ 21 ≤ (k : Int) by omega, show ¬ c ≤ gi ν (o + 1) k by omega, e, q, l_of, l_mul, l_add]
        rfl
      · simp (disch := omega) only [Bool.false_eq_true, lits, jj, jc, jm, Int.cast_ofNat_Int, j_bi0, j_bi1, not_true, not_false_eq_true, if_true, if_false, xe, xok_some, Sum.elim_inl, Sum.elim_inr, Int.reduceEq, Int.reduceLT, Int.reduceLE, Int.reduceAdd, Int.reduceSub, Int.reduceMul, h1, show ¬ (n : Int) ≤ k by omega, show ¬ 21 ≤ (k : Int) by omega, show c ≤ gi ν (o + 1) k by omega, q, Int.mul_zero, Int.add_zero]
        rfl
    · show fX8_below_b5 _ (j32 n) o (j32 c) ν = _
      unfold fX8_below_b5
      simp (disch := omega) only [Bool.false_eq_true, lits, jj, jc, jm, Int.cast_ofNat_Int, j_bi0, j_bi1, not_true, not_false_eq_true, if_true, if_false, xe, xok_some, Sum.elim_inl, Sum.elim_inr, Int.reduceEq, Int.reduceLT, Int.reduceLE, Int.reduceAdd, Int.reduceSub, Int.reduceMul, h1, Int.le_refl]
  unfold fX8_below
  simp only [lits]
  rw [show (0 : Int64) = l64 0 from rfl, key, xbd_e]
theorem empty_ok {o : Nat} {ν : xm} : fX8_empty o ν = some (wr ν o 2 0) ∧ TY [] (fun _ => 0) o (wr ν o 2 0) ∧ fT o ν (wr ν o 2 0) := by
  refine ⟨?_, ⟨0, fun _ => 0, gi_wr (by omega), fun i hi => by omega, fun i j _ hj => by omega, fun i hi => by omega, fun φ => rfl⟩, fun a p _ => gi_wr_f p, fun a _ => rfl⟩
  unfold fX8_empty
  simp (disch := omega) only [Bool.false_eq_true, lits, jj, jc, jm, Int.cast_ofNat_Int, j_bi0, j_bi1, not_true, not_false_eq_true, if_true, if_false, xe, xok_some, Sum.elim_inl, Sum.elim_inr, Int.reduceEq, Int.reduceLT, Int.reduceLE, Int.reduceAdd, Int.reduceSub, Int.reduceMul]
/-- the tallies' places -/
abbrev pl2 (a b : Nat) : Prop := (a = 52 ∧ b = 55) ∨ (a = 55 ∧ b = 52)
theorem spread_ok {V V' : List Int} {Φ Ψ : (Int → Int) → Int} {a b : Nat} (hab : pl2 a b) {ν : xm} {R : xr} (hR : R iC_rest 4 = some a ∧ R iC_rest 5 = some b) (h : TY V Φ a ν) (h' : TY V' Ψ b ν) (hV : bVl V) (hV' : bVl V') {t w : Int} (ht : -10000 ≤ t ∧ t ≤ 10000) (hw : 0 ≤ w ∧ w ≤ 20) (hm : ∀ x ∈ V, max t x ∈ V') : ∃ ν', fX6_spreadLasts (j32 t) (j32 w) ν R = some ν' ∧ TY V' (fun φ => Ψ φ + w * Φ (fun x => φ (max t x))) b ν' ∧ fT b ν ν' := by
  obtain ⟨n, wt, h1, h2, h3, h4, h5⟩ := h
  have hn : n ≤ 21 := Nat.le_trans (pig V n (fun i => gi ν (a + 1) i) h2 h3) hV.1
  have key : xok (xloop xfu (fun s => fX6_spreadLasts_b2 s.1 s.2 (j32 t) (j32 w) R) (j32 0, ν)) (fun ν' => TY V' (fun φ => Ψ φ + sumTo (fun i => (w * wt i) * φ (max t (gi ν (a + 1) i))) n) b ν' ∧ fT b ν ν') := by
    refine xok_for (fun k s => s.1 = j32 k ∧ TY V' (fun φ => Ψ φ + sumTo (fun i => (w * wt i) * φ (max t (gi ν (a + 1) i))) k) b s.2 ∧ fT b ν s.2) n (by omega) ⟨rfl, ?_, fT.rf⟩ ?_ ?_
    · show TY V' (fun φ => Ψ φ + 0) b ν
      simp only [Int.add_zero]
      exact h'
    · intro k s hk hs
      obtain ⟨s1, σ⟩ := s
      obtain ⟨g1, g2, g3⟩ := hs
      simp only at g1 g2 g3
      subst g1
      have q1 := g3.1 a (by omega) (by omega)
      have q2 := g3.1 (a + 1) (by omega) (by omega)
      have q3 := g3.2 (a + 2) (by omega)
      have bk := hV.2 _ (h2 k hk)
      obtain ⟨ν', r1, r2, r3⟩ := add_ok g2 hV' (v := max t (gi ν (a + 1) k)) (x := w * wt k) (hm _ (h2 k hk))
      have m1 : fX8_minuteAt a (j32 k) σ = some (j32 (gi ν (a + 1) k)) := by
        unfold fX8_minuteAt
        simp (disch := omega) only [Bool.false_eq_true, lits, jj, jc, jm, Int.cast_ofNat_Int, j_bi0, j_bi1, not_true, not_false_eq_true, if_true, if_false, xe, xok_some, Sum.elim_inl, Sum.elim_inr, Int.reduceEq, Int.reduceLT, Int.reduceLE, Int.reduceAdd, Int.reduceSub, Int.reduceMul, q1, h1, show ¬ (k : Int) < 0 by omega, show ¬ (n : Int) ≤ k by omega, show ¬ 21 ≤ (k : Int) by omega, q2]
      have m2 : fX8_weightAt a (j32 k) σ = some (l64 (wt k)) := by
        unfold fX8_weightAt
        simp (disch := omega) only [Bool.false_eq_true, lits, jj, jc, jm, Int.cast_ofNat_Int, j_bi0, j_bi1, not_true, not_false_eq_true, if_true, if_false, xe, xok_some, Sum.elim_inl, Sum.elim_inr, Int.reduceEq, Int.reduceLT, Int.reduceLE, Int.reduceAdd, Int.reduceSub, Int.reduceMul, q1, h1, show ¬ (k : Int) < 0 by omega, show ¬ (n : Int) ≤ k by omega, show ¬ 21 ≤ (k : Int) by omega, q3, h4 k hk]
      have m3 : fX8_length a σ = some (j32 n) := by
        unfold fX8_length
        simp (disch := omega) only [Bool.false_eq_true, lits, jj, jc, jm, Int.cast_ofNat_Int, j_bi0, j_bi1, not_true, not_false_eq_true, if_true, if_false, xe, xok_some, Sum.elim_inl, Sum.elim_inr, Int.reduceEq, Int.reduceLT, Int.reduceLE, Int.reduceAdd, Int.reduceSub, Int.reduceMul, q1, h1]
      show xok (fX6_spreadLasts_b2 (j32 k) σ (j32 t) (j32 w) R) _
      unfold fX6_spreadLasts_b2
      simp only [lits, hR.1, hR.2, xbd_e, m3, m1, m2]
      rw [if_neg (by rw [j_le (by omega) (by omega)]; omega), j_max (by omega) (by omega), l_of (by omega), l_mul, r1, xbd_e, xlt_e, j_add, xok_some]
      refine ⟨rfl, ?_, g3.tr r3⟩
      have e : (fun φ : Int → Int => Ψ φ + sumTo (fun i => (w * wt i) * φ (max t (gi ν (a + 1) i))) (k + 1)) = (fun φ : Int → Int => (Ψ φ + sumTo (fun i => (w * wt i) * φ (max t (gi ν (a + 1) i))) k) + (w * wt k) * φ (max t (gi ν (a + 1) k))) := by
        funext φ
        rw [sumTo_s]; omega
      rw [e]; exact r2
    · intro s hs
      obtain ⟨s1, σ⟩ := s
      obtain ⟨g1, g2, g3⟩ := hs
      simp only at g1 g2 g3
      subst g1
      have q1 := g3.1 a (by omega) (by omega)
      have m3 : fX8_length a σ = some (j32 n) := by
        unfold fX8_length
        simp (disch := omega) only [Bool.false_eq_true, lits, jj, jc, jm, Int.cast_ofNat_Int, j_bi0, j_bi1, not_true, not_false_eq_true, if_true, if_false, xe, xok_some, Sum.elim_inl, Sum.elim_inr, Int.reduceEq, Int.reduceLT, Int.reduceLE, Int.reduceAdd, Int.reduceSub, Int.reduceMul, q1, h1]
      show xok (fX6_spreadLasts_b2 (j32 n) σ (j32 t) (j32 w) R) _
      unfold fX6_spreadLasts_b2
      simp only [lits, hR.1, xbd_e, m3]
      rw [if_pos (by rw [j_le (by omega) (by omega)]; omega), xok_some]
      exact ⟨g2, g3⟩
  obtain ⟨ν', r1, r2, r3⟩ := key
  refine ⟨ν', ?_, ?_, r3⟩
  · unfold fX6_spreadLasts
    simp only [lits] at r1 ⊢
    rw [r1, xbd_e]
  · have e : (fun φ : Int → Int => Ψ φ + w * Φ (fun x => φ (max t x))) = (fun φ : Int → Int => Ψ φ + sumTo (fun i => (w * wt i) * φ (max t (gi ν (a + 1) i))) n) := by
      funext φ
      rw [← h5 (fun x => φ (max t x)), ← sumTo_mul]
      congr 1
      exact sumTo_c (fun z _ _ => (Int.mul_assoc _ _ _).symm)
    rw [e]; exact r2
