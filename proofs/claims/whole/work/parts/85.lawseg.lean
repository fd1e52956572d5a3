/-! a piece of the program's code reckons a value -/
theorem gi_of1 {μ ν : xm} (h : ν.1 = μ.1) : gi ν = gi μ := by unfold gi; rw [h]
def SegC (c : Int → Int) (a b s : Int) (φ : Ph) : Prop := 0 ≤ a ∧ a < b ∧ 1 ≤ s ∧ ∀ (o : Nat) (e : Int) (F : Nat → Int) (μ : xm) (k : Int), (∀ z, a ≤ z → z < b → gi μ (o + 5) z = c z) → HFc μ F → 0 ≤ k → k + s ≤ 32 → b ≤ e → e ≤ 200 → ∃ ν, St (bdC o e) (b - a).toNat (j32 k, j32 a, μ) (j32 (k + 1), j32 b, ν) ∧ ν.1 = μ.1 ∧ (∀ z, 0 ≤ z → z < k → gl ν (o + 6) z = gl μ (o + 6) z) ∧ gl ν (o + 6) k = enc (φ F)
theorem SegC.mono {c : Int → Int} {a b s t : Int} {φ : Ph} (h : SegC c a b s φ) (hs : s ≤ t) : SegC c a b t φ :=
  ⟨h.1, h.2.1, Int.le_trans h.2.2.1 hs, fun o e F μ k h1 h2 h3 h4 h5 h6 => h.2.2.2 o e F μ k h1 h2 h3 (by omega) h5 h6⟩
theorem SegC.congr {c c' : Int → Int} {a b s : Int} {φ : Ph} (h : SegC c a b s φ) (hc : ∀ z, a ≤ z → z < b → c' z = c z) : SegC c' a b s φ :=
  ⟨h.1, h.2.1, h.2.2.1, fun o e F μ k h1 h2 h3 h4 h5 h6 => h.2.2.2 o e F μ k (fun z a b => (h1 z a b).trans (hc z a b)) h2 h3 h4 h5 h6⟩
theorem SegC.num {c : Int → Int} {a v : Int} (ha : 0 ≤ a) (hv : 0 ≤ v ∧ v ≤ 99999) (hc : c a = -1 - v) : SegC c a (a + 1) 1 (fun _ => some (j32 v)) := by
  refine ⟨ha, by omega, by omega, fun o e F μ k h1 h2 h3 h4 h5 h6 => ⟨_, St.cast (St.one (bdC_val ⟨ha, by omega, h6⟩ ⟨h3, by omega⟩ hv ((h1 a (by omega) (by omega)).trans hc))) (by omega), rfl, fun z a b => gl_wl_z ⟨h3, a, by omega⟩, gl_wl⟩⟩
theorem SegC.fact {c : Int → Int} {a w : Int} {i : Nat} (ha : 0 ≤ a) (hw : fcI w = some i) (hc : c a = w) : SegC c a (a + 1) 1 (fun F => some (j32 (F i))) := by
  refine ⟨ha, by omega, by omega, fun o e F μ k h1 h2 h3 h4 h5 h6 => ⟨_, St.cast (St.one (bdC_fact ⟨ha, by omega, h6⟩ ⟨h3, by omega⟩ hw h2 ((h1 a (by omega) (by omega)).trans hc))) (by omega), rfl, fun z a b => gl_wl_z ⟨h3, a, by omega⟩, gl_wl⟩⟩
theorem HFc.of1 {μ ν : xm} {F : Nat → Int} (h : HFc μ F) (e : ν.1 = μ.1) : HFc ν F := fun i hi => by rw [gi_of1 e]; exact h i hi
theorem SegC.bin {c : Int → Int} {a b d s t w : Int} {φ ψ χ : Ph} (h1 : SegC c a b s φ) (h2 : SegC c b d t ψ) (hw : isOp w ∨ isCm w ∨ w = 38 ∨ w = 124) (hc : c d = w) (hj : ∀ F, fX0_join (j32 w) (enc (φ F)) (enc (ψ F)) = some (enc (χ F))) {u : Int} (hs : s ≤ u) (ht : t + 1 ≤ u) : SegC c a (d + 1) u χ := by
  obtain ⟨p1, p2, p3, p4⟩ := h1
  obtain ⟨q1, q2, q3, q4⟩ := h2
  refine ⟨p1, by omega, by omega, fun o e F μ k g1 g2 g3 g4 g5 g6 => ?_⟩
  obtain ⟨ν1, r1, r2, r3, r4⟩ := p4 o e F μ k (fun z a b => g1 z a (by omega)) g2 g3 (by omega) (by omega) g6
  obtain ⟨ν2, u1, u2, u3, u4⟩ := q4 o e F ν1 (k + 1) (fun z a b => by rw [gi_of1 r2]; exact g1 z (by omega) (by omega)) (g2.of1 r2) (by omega) (by omega) (by omega) g6
  have hg : gi ν2 = gi μ := (gi_of1 u2).trans (gi_of1 r2)
  refine ⟨_, St.cast ((r1.trans u1).trans (St.one (bdC_bin (w := w) (r := enc (χ F)) ⟨by omega, by omega, g6⟩ ⟨g3, by omega⟩ hw ?_ ?_))) (by omega), u2.trans r2, fun z a b => ?_, gl_wl⟩
  · rw [hg, g1 d (by omega) (by omega)]; exact hc
  · rw [u3 k g3 (by omega), r4, u4]; exact hj F
  · rw [gl_wl_z ⟨g3, a, by omega⟩, u3 z a (by omega), r3 z a b]
theorem SegC.op {c : Int → Int} {a b d s t w : Int} {φ ψ : Ph} (h1 : SegC c a b s φ) (h2 : SegC c b d t ψ) (hw : isOp w) (hc : c d = w) {u : Int} (hs : s ≤ u) (ht : t + 1 ≤ u) : SegC c a (d + 1) u (ph2 w φ ψ) :=
  SegC.bin h1 h2 (Or.inl hw) hc (fun F => join_ar hw (φ F) (ψ F)) hs ht
theorem SegC.cm {c : Int → Int} {a b d s t w : Int} {φ ψ : Ph} (h1 : SegC c a b s φ) (h2 : SegC c b d t ψ) (hw : isCm w) (hc : c d = w) {u : Int} (hs : s ≤ u) (ht : t + 1 ≤ u) : SegC c a (d + 1) u (bo (phc w φ ψ)) :=
  SegC.bin h1 h2 (Or.inr (Or.inl hw)) hc (fun F => join_cm hw (φ F) (ψ F)) hs ht
theorem SegC.and {c : Int → Int} {a b d s t : Int} {φ ψ : Pc} (h1 : SegC c a b s (bo φ)) (h2 : SegC c b d t (bo ψ)) (hc : c d = 38) {u : Int} (hs : s ≤ u) (ht : t + 1 ≤ u) : SegC c a (d + 1) u (bo (phAnd φ ψ)) :=
  SegC.bin h1 h2 (Or.inr (Or.inr (Or.inl rfl))) hc (fun F => join_and (φ F) (ψ F)) hs ht
theorem SegC.or {c : Int → Int} {a b d s t : Int} {φ ψ : Pc} (h1 : SegC c a b s (bo φ)) (h2 : SegC c b d t (bo ψ)) (hc : c d = 124) {u : Int} (hs : s ≤ u) (ht : t + 1 ≤ u) : SegC c a (d + 1) u (bo (phOr φ ψ)) :=
  SegC.bin h1 h2 (Or.inr (Or.inr (Or.inr rfl))) hc (fun F => join_or (φ F) (ψ F)) hs ht
theorem SegC.not {c : Int → Int} {a b s : Int} {φ : Pc} (h1 : SegC c a b s (bo φ)) (hc : c b = 33) : SegC c a (b + 1) s (bo (phNot φ)) := by
  obtain ⟨p1, p2, p3, p4⟩ := h1
  refine ⟨p1, by omega, by omega, fun o e F μ k g1 g2 g3 g4 g5 g6 => ?_⟩
  obtain ⟨ν1, r1, r2, r3, r4⟩ := p4 o e F μ k (fun z a b => g1 z a (by omega)) g2 g3 (by omega) (by omega) g6
  refine ⟨_, St.cast (r1.trans (St.one (bdC_not (r := enc (bo (phNot φ) F)) ⟨by omega, by omega, g6⟩ ⟨g3, by omega⟩ ?_ ?_))) (by omega), r2, fun z a b => ?_, gl_wl⟩
  · rw [gi_of1 r2, g1 b (by omega) (by omega)]; exact hc
  · rw [r4]; exact not_b (φ F)
  · rw [gl_wl_z ⟨g3, a, by omega⟩, r3 z a b]
/-- all of a piece -/
theorem reckon_ok {a b s : Int} {φ : Ph} {o : Nat} {μ : xm} {F : Nat → Int} (h : SegC (gi μ (o + 5)) a b s φ) (hs : s ≤ 32) (hb : b ≤ 200) (hF : HFc μ F) : ∃ ν, fX0_reckon o (j32 a) (j32 b) iC_meetings_facts μ = some (enc (φ F), ν) ∧ ν.1 = μ.1 := by
  obtain ⟨p1, p2, p3, p4⟩ := h
  obtain ⟨ν, r1, r2, r3, r4⟩ := p4 o b F μ 0 (fun _ _ _ => rfl) hF (by omega) (by omega) (by omega) hb
  refine ⟨ν, ?_, r2⟩
  have hl : xloop xfu (bdC o b) (j32 0, j32 a, μ) = some (j32 1, ν) := by
    have e := r1 (xfu - (b - a).toNat)
    rw [show xfu - (b - a).toNat + (b - a).toNat = xfu by unfold xfu; omega] at e
    rw [e]
    obtain ⟨m, hm⟩ : ∃ m, xfu - (b - a).toNat = m + 1 := ⟨xfu - (b - a).toNat - 1, by unfold xfu; omega⟩
    rw [hm]
    unfold xloop
    rw [show bdC o b (j32 (0 + 1), j32 b, ν) = some (.inr (j32 1, ν)) from ?_]
    show fX0_reckon_b10 (j32 (0 + 1)) (j32 b) ν o (j32 b) iC_meetings_facts = _
    unfold fX0_reckon_b10
    rw [if_pos (Int32.le_refl _)]
    rfl
  unfold fX0_reckon
  have hm : xmax (j32 a) 0 = j32 a := by
    rw [show (0 : Int32) = j32 0 from rfl, j_max (by omega) (by omega)]
    congr 1; omega
  rw [hm, xlt_e]
  rw [show xloop xfu (fun v => fX0_reckon_b10 v.1 v.2.1 v.2.2 o (j32 b) iC_meetings_facts) (0, j32 a, μ) = some (j32 1, ν) from hl, xbd_e]
  rw [if_pos (show (j32 1, ν).1 = 1 from rfl)]
  rw [show (0 : Int32) = j32 0 from rfl, j_gJ (by omega), xbd_e, r4]
/-- the clauses as they lie -/
def LayC (μ : xm) (o : Nat) (ls : List Cl) : Prop := gi μ o 6 = ls.length ∧ ls.length ≤ 14 ∧ ∀ (i : Nat) (h : i < ls.length), gi μ (o + 1) i = ls[i].1 ∧ SegC (gi μ (o + 5)) (gi μ (o + 2) i) (gi μ (o + 3) i) 32 ls[i].2.1 ∧ SegC (gi μ (o + 5)) (gi μ (o + 3) i) (gi μ (o + 4) i) 32 (bo ls[i].2.2) ∧ gi μ (o + 4) i ≤ 200
theorem LayC.gi {μ ν : xm} {o : Nat} {ls : List Cl} (h : LayC μ o ls) (e : ∀ j, o ≤ j → j ≤ o + 5 → gi ν j = gi μ j) : LayC ν o ls := by
  unfold LayC
  rw [e o (by omega) (by omega), e (o + 1) (by omega) (by omega), e (o + 2) (by omega) (by omega), e (o + 3) (by omega) (by omega), e (o + 4) (by omega) (by omega), e (o + 5) (by omega) (by omega)]
  exact h
theorem enc_true {x : Option Bool} : enc (x.map fun x => if x = true then 1 else 0) = 1 ↔ x = some true := by
  rcases x with _ | _ | _ <;> decide
theorem enc_none {x : Option Int32} : enc x = 1099511627776 ↔ x = none := by
  cases x with
  | none => exact ⟨fun _ => rfl, fun _ => rfl⟩
  | some v => exact ⟨fun h => absurd h (enc_ne v), fun h => by cases h⟩
theorem valL_at {L b : Int} {F : Nat → Int} {ls : List Cl} {k : Nat} (h : k < ls.length) : valL L b F (ls.drop k) = if ls[k].1 = L ∧ ls[k].2.2 F = some true then (match ls[k].2.1 F with | none => 0 | some v => max 0 (min b v.toInt)) else valL L b F (ls.drop (k + 1)) := by
  rw [List.drop_eq_getElem_cons h]
  rfl
theorem lij0 {α : Type} {x y : Int64} {a b : α} (h : x ≠ y) : (if lg_cmp x y = j32 0 then a else b) = b := if_neg fun c => h (lg_z.mp c)
theorem lij1 {α : Type} {x y : Int64} {a b : α} (h : x = y) : (if lg_cmp x y = j32 0 then a else b) = a := if_pos (lg_z.mpr h)
theorem amount_ok {μ : xm} {o : Nat} {ls : List Cl} (hl : LayC μ o ls) {F : Nat → Int} (hF : HFc μ F) {L b : Int} (hb : Lok L b) : ∃ ν, fX0_amount o (j32 L) (j32 b) iC_meetings_facts μ = some (j32 (valL L b F ls), ν) ∧ gi ν = gi μ := by
  obtain ⟨l1, l2, l3⟩ := hl
  have hL : 0 ≤ L ∧ L ≤ 200 ∧ 0 ≤ b ∧ b ≤ 1440 := by rcases hb with h | h | h <;> omega
  have hx : xok (fX0_amount o (j32 L) (j32 b) iC_meetings_facts μ) (fun q => q.1 = j32 (valL L b F ls) ∧ gi q.2 = gi μ) := by
    unfold fX0_amount
    rw [xok_bd]
    refine xok_for (fun k a => a.1 = j32 k ∧ a.2.1 = μ.1 ∧ valL L b F ls = valL L b F (ls.drop k)) ls.length (by omega) ⟨rfl, rfl, by simp⟩ ?_ ?_
    · rintro k ⟨x, μ2⟩ hk ⟨h1, h2, h3⟩
      simp only at h1 h2 h3
      subst h1
      have hg := gi_of1 h2
      obtain ⟨c1, c2, c3, c4⟩ := l3 k hk
      rw [valL_at hk] at h3
      show xok (fX0_amount_b3 (j32 k) μ2 o (j32 L) (j32 b) iC_meetings_facts) _
      unfold fX0_amount_b3
      have lo := gi_lo μ (o + 1) k
      have hi := gi_hi μ (o + 1) k
      simp (disch := omega) only [Bool.false_eq_true, lits, jj, jc, jm, Int.cast_ofNat_Int, j_bi0, j_bi1, not_true, not_false_eq_true, if_true, if_false, xe, xok_some, Sum.elim_inl, Sum.elim_inr, Int.reduceEq, Int.reduceLT, Int.reduceLE, Int.reduceAdd, Int.reduceSub, Int.reduceMul, hg, l1]
      rw [if_neg (by omega), if_neg (by omega), c1]
      rw [c1] at lo hi
      by_cases d : ls[k].1 = L
      · rw [if_pos d]
        obtain ⟨ν1, e1, f1⟩ := reckon_ok (μ := μ2) (o := o) (by rw [hg]; exact c3) (by omega) c4 (hF.of1 h2)
        have hg1 := (gi_of1 f1).trans hg
        rw [e1, xbd_e]
        show xok (if lg_cmp (enc ((ls[k].2.2 F).map fun x => if x = true then 1 else 0)) 1 = j32 0 then _ else _) _
        by_cases t : ls[k].2.2 F = some true
        · rw [lij1 (enc_true.mpr t)]
          rw [if_pos ⟨d, t⟩] at h3
          obtain ⟨ν2, e2, f2⟩ := reckon_ok (μ := ν1) (o := o) (by rw [hg1]; exact c2) (by omega) (by have := c3.2.1; omega) (hF.of1 (f1.trans h2))
          have hg2 := (gi_of1 f2).trans hg1
          simp only [hg1]
          rw [e2, xbd_e]
          simp only []
          cases v : ls[k].2.1 F with
          | none =>
            rw [v] at h3
            rw [lij1 (show enc none = 1099511627776 from rfl)]
            rw [xok_some]
            exact xok_some.mpr ⟨by rw [h3], hg2⟩
          | some y =>
            rw [v] at h3
            rw [lij0 (show enc (some y) ≠ 1099511627776 from enc_ne y)]
            rw [show (enc (some y)).toInt32 = y from enc_back y, ← j32_toInt y]
            unfold fX11_held
            rw [xbd_e, j_min (by omega) ⟨Int32.le_toInt y, Int32.toInt_lt y⟩, j_max (by omega) (by have := Int32.le_toInt y; have := Int32.toInt_lt y; omega)]
            rw [xok_some]
            exact xok_some.mpr ⟨by rw [h3], hg2⟩
        · rw [lij0 (fun c => t (enc_true.mp c))]
          rw [if_neg (fun c => t c.2)] at h3
          rw [xok_some]
          exact ⟨rfl, f1.trans h2, h3⟩
      · rw [if_neg d]
        rw [if_neg (fun c => d c.1)] at h3
        rw [xok_some]
        exact ⟨rfl, h2, h3⟩
    · rintro ⟨x, μ2⟩ ⟨h1, h2, h3⟩
      simp only at h1 h2 h3
      subst h1
      have hg := gi_of1 h2
      show xok (fX0_amount_b3 (j32 ls.length) μ2 o (j32 L) (j32 b) iC_meetings_facts) _
      unfold fX0_amount_b3
      simp (disch := omega) only [Bool.false_eq_true, lits, jj, jc, jm, Int.cast_ofNat_Int, j_bi0, j_bi1, not_true, not_false_eq_true, if_true, if_false, xe, xok_some, Sum.elim_inl, Sum.elim_inr, Int.reduceEq, Int.reduceLT, Int.reduceLE, Int.reduceAdd, Int.reduceSub, Int.reduceMul, hg, l1]
      rw [if_pos (by omega)]
      rw [List.drop_eq_nil_of_le (by omega)] at h3
      rw [xok_some]
      exact xok_some.mpr ⟨by rw [h3]; rfl, hg⟩
  obtain ⟨⟨v, ν⟩, e, h1, h2⟩ := hx
  simp only at h1 h2
  exact ⟨ν, by rw [e, h1], h2⟩
