/-! what each two owe: the class's rows -/
def fL (μ ν : xm) : Prop := ∀ o, (o < 36 ∨ 38 < o) → gi ν o = gi μ o
theorem fL.CH {A : xAs} {μ ν : xm} {R : xr} {n : Nat} (h : fL μ ν) (hC : CH A μ R n) : CH A ν R n := by
  refine hC.scr (fun o ho => h o ?_) ?_ ?_
  · rcases Nat.lt_or_ge o 36 with c | c
    · exact Or.inl c
    · rcases Nat.lt_or_ge 38 o with d | d
      · exact Or.inr d
      · exfalso
        have : o = 36 ∨ o = 37 ∨ o = 38 := by omega
        rcases this with rfl | rfl | rfl <;> exact absurd ho (by decide)
  · rw [h _ (Or.inl (by decide))]
  · rw [h _ (Or.inr (by decide))]
def dLI (A : xAs) (d : Int) (k : Nat) (ν : xm) : Prop := (∀ x y, 0 ≤ x → x < 8 → 0 ≤ y → y < 8 → gi ν iC_striking_due (8 * x + y) = sumTo (owT A x y d) k) ∧ (∀ x, 0 ≤ x → x < 8 → gi ν iC_striking_balance x = sumTo (owT A x (-1) d) k - sumTo (owT A (-1) x d) k) ∧ ∀ z, 0 ≤ z → z < 64 → gi ν iC_striking_left z = 0
theorem owT_no {A : xAs} {x y d i : Int} (h : ¬ aLive A i d) : owT A x y d i = 0 := if_neg (fun c => h c.1)
theorem ld_step {A : xAs} {ν : xm} {R : xr} {n : Nat} (hC : CH A ν R n) (hI : Inv A) {d : Int} (hd : 0 ≤ d ∧ d ≤ 1000) {k : Nat} (hk : (k : Int) < A iM 37) (hl : dLI A d k ν) : ∃ ν', fX7_load_b26 (j32 k) ν (j32 d) = some (.inl (j32 ((k : Int) + 1), ν')) ∧ dLI A d (k + 1) ν' ∧ fL ν ν' := by
  have h37 := hI.notes
  have hN : isN A k := ⟨by omega, hk⟩
  have b1 := hI.hasIt k hN.1 hN.2
  have b2 := hI.owesIt k hN.1 hN.2
  have b3 := hI.leftOf k hN.1 hN.2
  have b4 := hI.own k hN.1 hN.2
  have e1 := eX4_owerOf hC hI hN
  have e2 := eX4_holderOf hC hI hN
  have e3 := eX4_isLive hC hI (i := k) (d := d) (by omega) (by omega)
  have en : fX4_length ν = some (j32 (A iM 37)) := by
    unfold fX4_length
    simp (disch := omega) only [Bool.false_eq_true, lits, jj, jc, jm, Int.cast_ofNat_Int, j_bi0, j_bi1, not_true, not_false_eq_true, if_true, if_false, xe, xok_some, Sum.elim_inl, Sum.elim_inr, Int.reduceEq, Int.reduceLT, Int.reduceLE, Int.reduceAdd, Int.reduceSub, Int.reduceMul, hC.notes]
  have p1 := eX11_isPerson (p := A iM_owesIt k) (by omega)
  have p2 := eX11_isPerson (p := A iM_hasIt k) (by omega)
  by_cases c : aLive A k d
  · obtain ⟨ow, how⟩ : ∃ z, A iM_owesIt k = z := ⟨_, rfl⟩
    obtain ⟨ha, hha⟩ : ∃ z, A iM_hasIt k = z := ⟨_, rfl⟩
    obtain ⟨l, hle⟩ : ∃ z, A iM_leftOf k = z := ⟨_, rfl⟩
    rw [how] at e1 p1 b2 b4
    rw [hha] at e2 p2 b1 b4
    rw [hle] at b3 b4
    have hl0 : 0 < l := by rw [← hle]; exact c.1
    have hne : ow ≠ ha := fun e => by have := b4 e; omega
    have hs : ∀ x y : Int, 0 ≤ x → 0 ≤ y → sumTo (owT A x y d) k ≤ 86400 ∧ 0 ≤ sumTo (owT A x y d) k := fun x y _ _ => by
      have := owS_b hI (x := x) (y := y) (d := d) (k := k) (by omega); omega
    have hs1 : ∀ x y : Int, sumTo (owT A x y d) k ≤ 86400 ∧ 0 ≤ sumTo (owT A x y d) k := fun x y => by
      have := owS_b hI (x := x) (y := y) (d := d) (k := k) (by omega); omega
    have g1 := hl.1 ow ha b2.1 b2.2 b1.1 b1.2
    have g2 := hl.2.1 ow b2.1 b2.2
    have g3 := hl.2.1 ha b1.1 b1.2
    have q1 := hs1 ow ha
    have q2 := hs1 ow (-1)
    have q3 := hs1 (-1) ow
    have q4 := hs1 ha (-1)
    have q5 := hs1 (-1) ha
    obtain ⟨ν1, hν1⟩ : ∃ ν1, ν1 = wr ν iC_striking_due (8 * ow + ha) (sumTo (owT A ow ha d) k + l) := ⟨_, rfl⟩
    obtain ⟨ν2, hν2⟩ : ∃ ν2, ν2 = wr ν1 iC_striking_balance ow (sumTo (owT A ow (-1) d) k - sumTo (owT A (-1) ow d) k + l) := ⟨_, rfl⟩
    obtain ⟨ν3, hν3⟩ : ∃ ν3, ν3 = wr ν2 iC_striking_balance ha (sumTo (owT A ha (-1) d) k - sumTo (owT A (-1) ha d) k - l) := ⟨_, rfl⟩
    have f1 : fL ν ν1 := fun o ho => by rw [hν1]; exact gi_wr_f (by show o ≠ 36; omega)
    have f2 : fL ν ν2 := fun o ho => by rw [hν2, gi_wr_f (by show o ≠ 38; omega)]; exact f1 o ho
    have f3 : fL ν ν3 := fun o ho => by rw [hν3, gi_wr_f (by show o ≠ 38; omega)]; exact f2 o ho
    have m0 := eX4_minutesOf hC hI hN
    have m1 := eX4_minutesOf (f1.CH hC) hI hN
    have m2 := eX4_minutesOf (f2.CH hC) hI hN
    rw [hle] at m0 m1 m2
    have g2' : gi ν1 iC_striking_balance ow = sumTo (owT A ow (-1) d) k - sumTo (owT A (-1) ow d) k := by rw [hν1, gi_wr_o (by decide)]; exact g2
    have g3' : gi ν2 iC_striking_balance ha = sumTo (owT A ha (-1) d) k - sumTo (owT A (-1) ha d) k := by rw [hν2, gi_wr_z (by omega), hν1, gi_wr_o (by decide)]; exact g3
    have key : fX7_load_b26 (j32 k) ν (j32 d) = some (.inl (j32 ((k : Int) + 1), ν3)) := by
      unfold fX7_load_b26
      simp (disch := omega) only [Bool.false_eq_true, lits, jj, jc, jm, Int.cast_ofNat_Int, j_bi0, j_bi1, not_true, not_false_eq_true, if_true, if_false, xe, xok_some, Sum.elim_inl, Sum.elim_inr, Int.reduceEq, Int.reduceLT, Int.reduceLE, Int.reduceAdd, Int.reduceSub, Int.reduceMul, en, show ¬ A iM 37 ≤ (k : Int) by omega, show ¬ 60 ≤ (k : Int) by omega, e1, e2, e3, eq_true hN, eq_true c, and_self, p1, p2, eq_true b2, eq_true b1, show ow * 8 + ha = 8 * ow + ha by omega, g1, m0]
      rw [← hν1]
      simp (disch := omega) only [Bool.false_eq_true, lits, jj, jc, jm, Int.cast_ofNat_Int, j_bi0, j_bi1, not_true, not_false_eq_true, if_true, if_false, xe, xok_some, Sum.elim_inl, Sum.elim_inr, Int.reduceEq, Int.reduceLT, Int.reduceLE, Int.reduceAdd, Int.reduceSub, Int.reduceMul, g2', m1]
      rw [← hν2]
      simp (disch := omega) only [Bool.false_eq_true, lits, jj, jc, jm, Int.cast_ofNat_Int, j_bi0, j_bi1, not_true, not_false_eq_true, if_true, if_false, xe, xok_some, Sum.elim_inl, Sum.elim_inr, Int.reduceEq, Int.reduceLT, Int.reduceLE, Int.reduceAdd, Int.reduceSub, Int.reduceMul, g3', m2]
      rw [← hν3]
    have tt : ∀ x y : Int, owT A x y d k = if (x = -1 ∨ ow = x) ∧ (y = -1 ∨ ha = y) then l else 0 := by
      intro x y
      unfold owT owC
      rw [how, hha]
      by_cases c2 : (x = -1 ∨ ow = x) ∧ (y = -1 ∨ ha = y)
      · rw [if_pos ⟨c, c2⟩, if_pos c2, hle]
      · rw [if_neg (fun h => c2 h.2), if_neg c2]
    refine ⟨ν3, key, ⟨fun x y h1 h2 h3 h4 => ?_, fun x h1 h2 => ?_, fun z h1 h2 => ?_⟩, f3⟩
    · rw [hν3, gi_wr_o (by decide), hν2, gi_wr_o (by decide), hν1, gi_wr_if (by omega) (by omega), hl.1 x y h1 h2 h3 h4, sumTo_s]
      rw [tt]
      by_cases d1 : ow = x ∧ ha = y
      · obtain ⟨rfl, rfl⟩ := d1
        rw [if_pos rfl, if_pos ⟨Or.inr rfl, Or.inr rfl⟩]
      · rw [if_neg (by omega), if_neg (by omega)]; omega
    · rw [hν3, gi_wr_if (by omega) (by omega), hν2, gi_wr_if (by omega) (by omega), hν1, gi_wr_o (by decide), hl.2.1 x h1 h2, sumTo_s, sumTo_s]
      have t1 : owT A x (-1) d k = if ow = x then l else 0 := by
        rw [tt]
        by_cases d1 : ow = x
        · rw [if_pos d1, if_pos ⟨Or.inr d1, Or.inl rfl⟩]
        · rw [if_neg d1, if_neg (by omega)]
      have t2 : owT A (-1) x d k = if ha = x then l else 0 := by
        rw [tt]
        by_cases d1 : ha = x
        · rw [if_pos d1, if_pos ⟨Or.inl rfl, Or.inr d1⟩]
        · rw [if_neg d1, if_neg (by omega)]
      rw [t1, t2]
      by_cases d1 : x = ha
      · subst d1
        rw [if_pos rfl, if_neg hne, if_pos rfl]; omega
      · by_cases d2 : x = ow
        · subst d2
          rw [if_neg d1, if_pos rfl, if_pos rfl, if_neg (Ne.symm hne)]; omega
        · rw [if_neg d1, if_neg d2, if_neg (Ne.symm d2), if_neg (Ne.symm d1)]; omega
    · rw [hν3, gi_wr_o (by decide), hν2, gi_wr_o (by decide), hν1, gi_wr_o (by decide)]; exact hl.2.2 z h1 h2
  · refine ⟨ν, ?_, ⟨fun x y h1 h2 h3 h4 => ?_, fun x h1 h2 => ?_, hl.2.2⟩, fun _ _ => rfl⟩
    · unfold fX7_load_b26
      simp (disch := omega) only [Bool.false_eq_true, lits, jj, jc, jm, Int.cast_ofNat_Int, j_bi0, j_bi1, not_true, not_false_eq_true, if_true, if_false, xe, xok_some, Sum.elim_inl, Sum.elim_inr, Int.reduceEq, Int.reduceLT, Int.reduceLE, Int.reduceAdd, Int.reduceSub, Int.reduceMul, en, show ¬ A iM 37 ≤ (k : Int) by omega, show ¬ 60 ≤ (k : Int) by omega, e1, e2, e3, eq_false c, and_false]
    · rw [hl.1 x y h1 h2 h3 h4, sumTo_s, owT_no c, Int.add_zero]
    · rw [hl.2.1 x h1 h2, sumTo_s, sumTo_s, owT_no c, owT_no c, Int.add_zero, Int.add_zero]
/-- what x owes y; what x owes more than he has -/
def dD (A : xAs) (x y : Int) : Int := sOw A x y (A iM 0)
def dB (A : xAs) (x : Int) : Int := sOw A x (-1) (A iM 0) - sOw A (-1) x (A iM 0)
theorem dB_b {A : xAs} (hI : Inv A) {x : Int} : -86400 ≤ dB A x ∧ dB A x ≤ 86400 := by
  have h1 := sOw_b hI (x := x) (y := -1) (d := A iM 0)
  have h2 := sOw_b hI (x := -1) (y := x) (d := A iM 0)
  unfold dB; omega
theorem ld_ok {A : xAs} {μ : xm} {R : xr} {n : Nat} (hC : CH A μ R n) (hI : Inv A) : ∃ ν, fX7_load (j32 (A iM 0)) μ = some ν ∧ fL μ ν ∧ (∀ x y, 0 ≤ x → x < 8 → 0 ≤ y → y < 8 → gi ν iC_striking_due (8 * x + y) = dD A x y) ∧ (∀ x, 0 ≤ x → x < 8 → gi ν iC_striking_balance x = dB A x) ∧ ∀ z, 0 ≤ z → z < 64 → gi ν iC_striking_left z = 0 := by
  have h37 := hI.notes
  have h0 := hI.now
  obtain ⟨μ3, hμ3⟩ : ∃ ν, ν = fw (fw (fw μ iC_striking_due 0 64) iC_striking_left 0 64) iC_striking_balance 0 8 := ⟨_, rfl⟩
  have f0 : fL μ μ3 := fun o ho => by
    rw [hμ3, fw_o (by show o ≠ 38; omega), fw_o (by show o ≠ 37; omega), fw_o (by show o ≠ 36; omega)]
  have l0 : dLI A (A iM 0) 0 μ3 := by
    refine ⟨fun x y h1 h2 h3 h4 => ?_, fun x h1 h2 => ?_, fun z h1 h2 => ?_⟩
    · rw [hμ3, fw_o (by decide), fw_o (by decide), fw_in (by omega) _ _ (by omega) (by omega)]; rfl
    · rw [hμ3, fw_in (by omega) _ _ (by omega) (by omega)]; rfl
    · rw [hμ3, fw_o (by decide), fw_in (by omega) _ _ (by omega) (by omega)]
  have key : xok (xloop xfu (fun v => fX7_load_b26 v.1 v.2 (j32 (A iM 0))) (j32 0, μ3)) (fun ν => fL μ ν ∧ dLI A (A iM 0) (A iM 37).toNat ν) := by
    refine xok_for (fun k s => s.1 = j32 k ∧ fL μ s.2 ∧ dLI A (A iM 0) k s.2) (A iM 37).toNat (by omega) ⟨rfl, f0, l0⟩ ?_ ?_
    · intro k s hk hs
      obtain ⟨s1, ν⟩ := s
      obtain ⟨g1, g2, g3⟩ := hs
      simp only at g1 g2 g3
      subst g1
      obtain ⟨ν', r1, r2, r3⟩ := ld_step (g2.CH hC) hI (d := A iM 0) (by omega) (k := k) (by omega) g3
      exact ⟨_, r1, rfl, fun o ho => (r3 o ho).trans (g2 o ho), r2⟩
    · intro s hs
      obtain ⟨s1, ν⟩ := s
      obtain ⟨g1, g2, g3⟩ := hs
      simp only at g1 g2 g3
      subst g1
      have en : fX4_length ν = some (j32 (A iM 37)) := by
        unfold fX4_length
        simp (disch := omega) only [Bool.false_eq_true, lits, jj, jc, jm, Int.cast_ofNat_Int, j_bi0, j_bi1, not_true, not_false_eq_true, if_true, if_false, xe, xok_some, Sum.elim_inl, Sum.elim_inr, Int.reduceEq, Int.reduceLT, Int.reduceLE, Int.reduceAdd, Int.reduceSub, Int.reduceMul, (g2.CH hC).notes]
      show xok (fX7_load_b26 _ ν _) _
      unfold fX7_load_b26
      simp (disch := omega) only [Bool.false_eq_true, lits, jj, jc, jm, Int.cast_ofNat_Int, j_bi0, j_bi1, not_true, not_false_eq_true, if_true, if_false, xe, xok_some, Sum.elim_inl, Sum.elim_inr, Int.reduceEq, Int.reduceLT, Int.reduceLE, Int.reduceAdd, Int.reduceSub, Int.reduceMul, en, show A iM 37 ≤ (((A iM 37).toNat : Nat) : Int) by omega]
      exact ⟨g2, g3⟩
  obtain ⟨ν, r1, r2, r3⟩ := key
  refine ⟨ν, ?_, r2, r3.1, r3.2.1, r3.2.2⟩
  unfold fX7_load
  simp only [lits] at r1 ⊢
  rw [eJ7_fill (len := 64) (by decide +kernel) (by omega), xbd_e, eJ7_fill (len := 64) (by decide +kernel) (by omega), xbd_e, eJ7_fill (len := 8) (by decide +kernel) (by omega), xbd_e, ← hμ3, r1, xbd_e]
