/-! how the program reckons a law's code -/
theorem lg_z {x y : Int64} : lg_cmp x y = j32 0 ↔ x = y := by
  unfold lg_cmp
  by_cases h : x = y
  · subst h
    rw [if_neg (Int64.lt_irrefl), if_pos rfl]
    exact ⟨fun _ => rfl, fun _ => rfl⟩
  · by_cases g : x > y
    · rw [if_pos g]; exact ⟨fun c => absurd c (by decide), fun c => absurd c h⟩
    · rw [if_neg g, if_neg h]; exact ⟨fun c => absurd c (by decide), fun c => absurd c h⟩
theorem lif0 {α : Type} {x y : Int64} {a b : α} (h : x ≠ y) : (if lg_cmp x y = 0 then a else b) = b := if_neg fun c => h (lg_z.mp c)
theorem lif1 {α : Type} {x y : Int64} {a b : α} (h : x = y) : (if lg_cmp x y = 0 then a else b) = a := if_pos (lg_z.mpr h)
def enc : Option Int32 → Int64
  | none => 1099511627776
  | some x => x.toInt64
theorem enc_ne (x : Int32) : x.toInt64 ≠ 1099511627776 := by
  intro h
  have h1 := congrArg Int64.toInt h
  rw [Int32.toInt_toInt64, show (1099511627776 : Int64).toInt = 1099511627776 from by decide] at h1
  have := Int32.toInt_lt x
  omega
theorem enc_back (x : Int32) : x.toInt64.toInt32 = x := by simp
theorem join_ar {op : Int} (h : isOp op) (a b : Option Int32) : fX0_join (j32 op) (enc a) (enc b) = some (enc (a.bind fun x => b.bind fun y => ar op x y)) := by
  have h38 : ¬ j32 op = 38 := by rcases h with rfl | rfl | rfl | rfl | rfl <;> decide
  have h124 : ¬ j32 op = 124 := by rcases h with rfl | rfl | rfl | rfl | rfl <;> decide
  unfold fX0_join
  rw [if_neg h38, if_neg h124]
  cases a with
  | none => rw [if_pos (show lg_cmp (enc none) 1099511627776 = 0 from lg_z.mpr rfl)]; rfl
  | some x =>
    rw [if_neg (show ¬ lg_cmp (enc (some x)) 1099511627776 = 0 from fun c => enc_ne x (lg_z.mp c))]
    cases b with
    | none => rw [if_pos (show lg_cmp (enc none) 1099511627776 = 0 from lg_z.mpr rfl)]; rfl
    | some y =>
      rw [if_neg (show ¬ lg_cmp (enc (some y)) 1099511627776 = 0 from fun c => enc_ne y (lg_z.mp c))]
      show xlt x.toInt64.toInt32 _ = some (enc (ar op x y))
      rw [enc_back, xlt_e]
      show xlt y.toInt64.toInt32 _ = _
      rw [enc_back, xlt_e]
      rcases h with rfl | rfl | rfl | rfl | rfl
      · rw [if_neg (by decide), if_neg (by decide), if_pos (by decide)]; rfl
      · rw [if_neg (by decide), if_neg (by decide), if_neg (by decide), if_pos (by decide)]; rfl
      · rw [if_neg (by decide), if_pos (by decide)]; rfl
      · rw [if_neg (by decide), if_neg (by decide), if_neg (by decide), if_neg (by decide), if_pos (by decide)]
        show _ = some (enc (xdiv x y))
        unfold xdiv
        by_cases c : y = 0
        · rw [if_pos c, if_pos c]; rfl
        · rw [if_neg c, if_neg c]; rfl
      · rw [if_pos (by decide)]
        show _ = some (enc (xrem x y))
        unfold xrem
        by_cases c : y = 0
        · rw [if_pos c, if_pos c]; rfl
        · rw [if_neg c, if_neg c]; rfl
theorem join_cm {op : Int} (h : isCm op) (a b : Option Int32) : fX0_join (j32 op) (enc a) (enc b) = some (enc ((a.bind fun x => b.map fun y => cmpv op x y).map fun x => if x = true then 1 else 0)) := by
  have h38 : ¬ j32 op = 38 := by rcases h with rfl | rfl | rfl <;> decide
  have h124 : ¬ j32 op = 124 := by rcases h with rfl | rfl | rfl <;> decide
  unfold fX0_join
  rw [if_neg h38, if_neg h124]
  cases a with
  | none => rw [if_pos (show lg_cmp (enc none) 1099511627776 = 0 from lg_z.mpr rfl)]; rfl
  | some x =>
    rw [if_neg (show ¬ lg_cmp (enc (some x)) 1099511627776 = 0 from fun c => enc_ne x (lg_z.mp c))]
    cases b with
    | none => rw [if_pos (show lg_cmp (enc none) 1099511627776 = 0 from lg_z.mpr rfl)]; rfl
    | some y =>
      rw [if_neg (show ¬ lg_cmp (enc (some y)) 1099511627776 = 0 from fun c => enc_ne y (lg_z.mp c))]
      show xlt x.toInt64.toInt32 _ = some (enc (some (if cmpv op x y = true then 1 else 0)))
      rw [enc_back, xlt_e]
      show xlt y.toInt64.toInt32 _ = _
      rw [enc_back, xlt_e]
      rcases h with rfl | rfl | rfl
      · rw [if_neg (by decide), if_neg (by decide), if_neg (by decide), if_neg (by decide), if_neg (by decide), if_pos (by decide)]
        show _ = some (enc (some (if decide (x < y) = true then 1 else 0)))
        by_cases c : x < y
        · rw [if_neg (Int32.not_le.mpr c), if_pos (decide_eq_true c)]; rfl
        · rw [if_pos (Int32.not_lt.mp c), if_neg (by simpa using c)]; rfl
      · rw [if_neg (by decide), if_neg (by decide), if_neg (by decide), if_neg (by decide), if_neg (by decide), if_neg (by decide), if_neg (by decide), if_pos (by decide)]
        show _ = some (enc (some (if decide (y < x) = true then 1 else 0)))
        by_cases c : y < x
        · rw [if_neg (Int32.not_le.mpr c), if_pos (decide_eq_true c)]; rfl
        · rw [if_pos (Int32.not_lt.mp c), if_neg (by simpa using c)]; rfl
      · rw [if_neg (by decide), if_neg (by decide), if_neg (by decide), if_neg (by decide), if_neg (by decide), if_neg (by decide), if_pos (by decide)]
        show _ = some (enc (some (if decide (x = y) = true then 1 else 0)))
        by_cases c : x = y
        · rw [if_pos c, if_pos (decide_eq_true c)]; rfl
        · rw [if_neg c, if_neg (by simpa using c)]; rfl
def b01 (a : Option Bool) : Option Int32 := a.map fun x => if x = true then 1 else 0
theorem join_and (a b : Option Bool) : fX0_join (j32 38) (enc (b01 a)) (enc (b01 b)) = some (enc (b01 (a.bind fun x => if x = true then b else some false))) := by
  unfold fX0_join
  rw [if_pos (by decide)]
  cases a with
  | none => rw [lif0 (by decide)]; rfl
  | some x =>
    cases x with
    | false => rw [lif0 (by decide)]; rfl
    | true => rw [lif1 (by decide)]; rfl
theorem join_or (a b : Option Bool) : fX0_join (j32 124) (enc (b01 a)) (enc (b01 b)) = some (enc (b01 (a.bind fun x => if x = true then some true else b))) := by
  unfold fX0_join
  rw [if_neg (by decide), if_pos (by decide)]
  cases a with
  | none => rw [lif0 (by decide)]; rfl
  | some x =>
    cases x with
    | true => rw [lif0 (by decide)]; rfl
    | false => rw [lif1 (by decide)]; rfl
theorem not_b (a : Option Bool) : fX0_not (enc (b01 a)) = some (enc (b01 (a.map fun x => !x))) := by
  unfold fX0_not
  cases a with
  | none => rw [lif1 (by decide)]; rfl
  | some x =>
    cases x with
    | true => rw [lif0 (by decide)]; rfl
    | false => rw [lif0 (by decide)]; rfl
/-- so many steps of a loop lead from a to a' -/
def St {α β : Type} (b : α → Option (α ⊕ β)) (m : Nat) (a a' : α) : Prop := ∀ n, xloop (n + m) b a = xloop n b a'
theorem St.refl {α β : Type} {b : α → Option (α ⊕ β)} {a : α} : St b 0 a a := fun _ => rfl
theorem St.one {α β : Type} {b : α → Option (α ⊕ β)} {a a' : α} (h : b a = some (.inl a')) : St b 1 a a' := fun n => by
  show xloop (n + 1) b a = _
  conv => lhs; unfold xloop
  rw [h]
theorem St.trans {α β : Type} {b : α → Option (α ⊕ β)} {m k : Nat} {a a' a'' : α} (h1 : St b m a a') (h2 : St b k a' a'') : St b (m + k) a a'' := fun n => by
  rw [show n + (m + k) = (n + k) + m by omega, h1, h2]
theorem St.cast {α β : Type} {b : α → Option (α ⊕ β)} {m k : Nat} {a a' : α} (h1 : St b m a a') (e : m = k) : St b k a a' := e ▸ h1
abbrev bdC (o : Nat) (e : Int) (v : Int32 × Int32 × xm) : Option ((Int32 × Int32 × xm) ⊕ (Int32 × xm)) := fX0_reckon_b10 v.1 v.2.1 v.2.2 o (j32 e) iC_meetings_facts
theorem fact_ok {w : Int} {i : Nat} (h : fcI w = some i) {μ : xm} {F : Nat → Int} (hF : HFc μ F) : 97 ≤ w ∧ w ≤ 121 ∧ fX0_isFact (j32 w) = some (j32 1) ∧ fX0_valueOf (j32 w) iC_meetings_facts μ = some (j32 (F i)) := by
  unfold fcI at h
  have key : ∀ (w : Int) (i : Nat), i < 12 → fl12 i = w - 97 → 97 ≤ w ∧ w ≤ 121 → fX0_valueOf (j32 w) iC_meetings_facts μ = some (j32 (F i)) := by
    intro w i hi e hw
    unfold fX0_valueOf
    have hk : Int32.ofNat (xkd iC_meetings_facts).2 = j32 26 := by rw [show xkd iC_meetings_facts = (1, 26) from by decide +kernel]; rfl
    have hk2 : (xkd iC_meetings_facts).2 = 26 := by rw [show xkd iC_meetings_facts = (1, 26) from by decide +kernel]
    rw [hk, hk2]
    simp (disch := omega) only [Bool.false_eq_true, lits, jj, jc, jm, Int.cast_ofNat_Int, j_bi0, j_bi1, not_true, not_false_eq_true, if_true, if_false, xe, xok_some, Sum.elim_inl, Sum.elim_inr, Int.reduceEq, Int.reduceLT, Int.reduceLE, Int.reduceAdd, Int.reduceSub, Int.reduceMul]
    rw [if_neg (by omega), if_neg (by omega), ← hF i hi, e]
  repeat' split at h
  all_goals first | (cases h; subst_vars; exact ⟨by decide, by decide, by decide, key _ _ (by decide) (by decide) (by decide)⟩) | cases h
theorem bdC_val {o : Nat} {e k d v : Int} {μ : xm} (hd : 0 ≤ d ∧ d < e ∧ e ≤ 200) (hk : 0 ≤ k ∧ k < 32) (hv : 0 ≤ v ∧ v ≤ 99999) (hc : gi μ (o + 5) d = -1 - v) : bdC o e (j32 k, j32 d, μ) = some (.inl (j32 (k + 1), j32 (d + 1), wl μ (o + 6) k (enc (some (j32 v))))) := by
  show fX0_reckon_b10 (j32 k) (j32 d) μ o (j32 e) iC_meetings_facts = _
  unfold fX0_reckon_b10 fX0_reckon_j48 fX0_reckon_j53
  simp (disch := omega) only [Bool.false_eq_true, lits, jj, jc, jm, Int.cast_ofNat_Int, j_bi0, j_bi1, not_true, not_false_eq_true, if_true, if_false, xe, xok_some, Sum.elim_inl, Sum.elim_inr, Int.reduceEq, Int.reduceLT, Int.reduceLE, Int.reduceAdd, Int.reduceSub, Int.reduceMul, hc]
  rw [show -1 - (-1 - v) = v by omega]
  have h1 : ¬ e ≤ d := by omega
  have h2 : ¬ 200 ≤ d := by omega
  have h3 : -1 - v < 0 := by omega
  have h4 : ¬ 32 ≤ k := by omega
  have h5 : ¬ 0 ≤ -1 - v := by omega
  first | (simp only [h1, h2, h3, h4, h5, if_false, if_true]; rfl) | rfl
theorem bdC_fact {o : Nat} {e k d w : Int} {i : Nat} {μ : xm} {F : Nat → Int} (hd : 0 ≤ d ∧ d < e ∧ e ≤ 200) (hk : 0 ≤ k ∧ k < 32) (hw : fcI w = some i) (hF : HFc μ F) (hc : gi μ (o + 5) d = w) : bdC o e (j32 k, j32 d, μ) = some (.inl (j32 (k + 1), j32 (d + 1), wl μ (o + 6) k (enc (some (j32 (F i)))))) := by
  obtain ⟨h97, h121, h1, h2⟩ := fact_ok hw hF
  show fX0_reckon_b10 (j32 k) (j32 d) μ o (j32 e) iC_meetings_facts = _
  unfold fX0_reckon_b10 fX0_reckon_j48 fX0_reckon_j53
  simp (disch := omega) only [Bool.false_eq_true, lits, jj, jc, jm, Int.cast_ofNat_Int, j_bi0, j_bi1, not_true, not_false_eq_true, if_true, if_false, xe, xok_some, Sum.elim_inl, Sum.elim_inr, Int.reduceEq, Int.reduceLT, Int.reduceLE, Int.reduceAdd, Int.reduceSub, Int.reduceMul, hc, h1, h2]
  have a1 : ¬ e ≤ d := by omega
  have a2 : ¬ 200 ≤ d := by omega
  have a3 : ¬ w < 0 := by omega
  have a4 : ¬ 32 ≤ k := by omega
  have a5 : 0 ≤ w := by omega
  first | (simp only [a1, a2, a3, a4, a5, if_false, if_true]; rfl) | rfl
theorem notfact {w : Int} (h : isOp w ∨ isCm w ∨ w = 38 ∨ w = 124 ∨ w = 33) : fX0_isFact (j32 w) = some (j32 0) ∧ 0 ≤ w ∧ w < 200 := by
  rcases h with (rfl | rfl | rfl | rfl | rfl) | (rfl | rfl | rfl) | rfl | rfl | rfl <;> exact ⟨by decide, by decide, by decide⟩
theorem bdC_bin {o : Nat} {e k d w : Int} {r : Int64} {μ : xm} (hd : 0 ≤ d ∧ d < e ∧ e ≤ 200) (hk : 0 ≤ k ∧ k + 2 ≤ 32) (hw : isOp w ∨ isCm w ∨ w = 38 ∨ w = 124) (hc : gi μ (o + 5) d = w) (hj : fX0_join (j32 w) (gl μ (o + 6) k) (gl μ (o + 6) (k + 1)) = some r) : bdC o e (j32 (k + 1 + 1), j32 d, μ) = some (.inl (j32 (k + 1), j32 (d + 1), wl μ (o + 6) k r)) := by
  obtain ⟨h1, h2, h3⟩ := notfact (w := w) (by rcases hw with h | h | h | h <;> simp [h])
  have h33 : ¬ w = 33 := by rcases hw with (rfl | rfl | rfl | rfl | rfl) | (rfl | rfl | rfl) | rfl | rfl <;> decide
  show fX0_reckon_b10 (j32 (k + 1 + 1)) (j32 d) μ o (j32 e) iC_meetings_facts = _
  unfold fX0_reckon_b10 fX0_reckon_j53 fX0_reckon_j103 fX0_reckon_j140
  have a1 : ¬ e ≤ d := by omega
  have a2 : ¬ 200 ≤ d := by omega
  have a3 : ¬ w < 0 := by omega
  have a4 : ¬ k + 1 + 1 < 2 := by omega
  have e1 : j32 (k + 1 + 1) + -1 = j32 (k + 1) := by rw [show (-1 : Int32) = j32 (-1) from rfl, j_add]; congr 1; omega
  have e2 : j32 (k + 1) - 1 = j32 k := by rw [show (1 : Int32) = j32 1 from rfl, j_sub]; congr 1; omega
  rw [e1]
  simp (disch := omega) only [Bool.false_eq_true, lits, jj, jc, jm, Int.cast_ofNat_Int, j_bi0, j_bi1, not_true, not_false_eq_true, if_true, if_false, xe, xok_some, Sum.elim_inl, Sum.elim_inr, Int.reduceEq, Int.reduceLT, Int.reduceLE, Int.reduceAdd, Int.reduceSub, Int.reduceMul, hc, h1, h33, hj, a1, a2, a3, a4, show k + 1 - 1 = k by omega]
theorem bdC_not {o : Nat} {e k d : Int} {r : Int64} {μ : xm} (hd : 0 ≤ d ∧ d < e ∧ e ≤ 200) (hk : 0 ≤ k ∧ k + 1 ≤ 32) (hc : gi μ (o + 5) d = 33) (hj : fX0_not (gl μ (o + 6) k) = some r) : bdC o e (j32 (k + 1), j32 d, μ) = some (.inl (j32 (k + 1), j32 (d + 1), wl μ (o + 6) k r)) := by
  have h1 : fX0_isFact (j32 33) = some (j32 0) := by decide
  show fX0_reckon_b10 (j32 (k + 1)) (j32 d) μ o (j32 e) iC_meetings_facts = _
  unfold fX0_reckon_b10 fX0_reckon_j53 fX0_reckon_j103
  have a1 : ¬ e ≤ d := by omega
  have a2 : ¬ 200 ≤ d := by omega
  have a4 : ¬ k + 1 < 1 := by omega
  simp (disch := omega) only [Bool.false_eq_true, lits, jj, jc, jm, Int.cast_ofNat_Int, j_bi0, j_bi1, not_true, not_false_eq_true, if_true, if_false, xe, xok_some, Sum.elim_inl, Sum.elim_inr, Int.reduceEq, Int.reduceLT, Int.reduceLE, Int.reduceAdd, Int.reduceSub, Int.reduceMul, hc, h1, hj, a1, a2, a4, show k + 1 - 1 = k by omega]
