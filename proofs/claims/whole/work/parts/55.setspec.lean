/-! settle: the notes that are made -/
def frS (μ ν : xm) : Prop := ∀ o, (o < 23 ∨ 33 < o) → gi ν o = gi μ o
theorem frS.rf {μ : xm} : frS μ μ := fun _ _ => rfl
theorem frS.tr {μ ν ρ : xm} (h1 : frS μ ν) (h2 : frS ν ρ) : frS μ ρ := fun o h => (h2 o h).trans (h1 o h)
theorem frS.lk {μ ν : xm} (h : frS μ ν) : LK μ ν := LK.of (fun o ho => h o (by omega))
theorem frS.rh {A : xAs} {μ ν : xm} (h : frS μ ν) (hA : RH A μ) : RH A ν := RH.keep hA (fun o h1 h2 => h o (by omega))
theorem frS.of {μ ν : xm} (h : ∀ o, o ≠ iC_meetings_payers → o ≠ iC_meetings_paid → o ≠ iC_meetings → o ≠ iC_meetings_facts → gi ν o = gi μ o) : frS μ ν := fun o ho => h o (by show o ≠ 26; omega) (by show o ≠ 27; omega) (by show o ≠ 23; omega) (by show o ≠ 25; omega)
theorem frS.nt {μ ν : xm} (h : ∀ o, (o < 28 ∨ 33 < o) → gi ν o = gi μ o) : frS μ ν := fun o ho => h o (by omega)
/-- the same town, but for more notes -/
def nExt (A A' : xAs) : Prop := (∀ o, o ≠ iM_owesIt → o ≠ iM_hasIt → o ≠ iM_leftOf → o ≠ iM_madeOn → o ≠ iM_lapseOf → o ≠ iM → A' o = A o) ∧ (∀ k, 0 ≤ k → k ≠ 37 → A' iM k = A iM k) ∧ A iM 37 ≤ A' iM 37 ∧ ∀ i, 0 ≤ i → i < A iM 37 → A' iM_owesIt i = A iM_owesIt i ∧ A' iM_hasIt i = A iM_hasIt i ∧ A' iM_leftOf i = A iM_leftOf i ∧ A' iM_madeOn i = A iM_madeOn i ∧ A' iM_lapseOf i = A iM_lapseOf i
theorem nExt.rf {A : xAs} : nExt A A := ⟨fun _ _ _ _ _ _ _ => rfl, fun _ _ _ => rfl, Int.le_refl _, fun _ _ _ => ⟨rfl, rfl, rfl, rfl, rfl⟩⟩
theorem nExt.tr {A B C : xAs} (h1 : nExt A B) (h2 : nExt B C) : nExt A C := by
  obtain ⟨a1, a2, a3, a4⟩ := h1
  obtain ⟨b1, b2, b3, b4⟩ := h2
  refine ⟨fun o q1 q2 q3 q4 q5 q6 => (b1 o q1 q2 q3 q4 q5 q6).trans (a1 o q1 q2 q3 q4 q5 q6), fun k q1 q2 => (b2 k q1 q2).trans (a2 k q1 q2), by omega, fun i q1 q2 => ?_⟩
  have c1 := a4 i q1 q2
  have c2 := b4 i q1 (by omega)
  exact ⟨c2.1.trans c1.1, c2.2.1.trans c1.2.1, c2.2.2.1.trans c1.2.2.1, c2.2.2.2.1.trans c1.2.2.2.1, c2.2.2.2.2.trans c1.2.2.2.2⟩
theorem nExt.add {A : xAs} (h : 0 ≤ A iM 37 ∧ A iM 37 < 60) {a b c d e : Int} : nExt A (addA A (A iM 37) a b c d e) := by
  have g := fun z hz => addA_g (A := A) (a := a) (b := b) (c := c) (d := d) (e := e) h (z := z) hz
  have g37 := (g 0 (by omega)).2.2.2.2.2
  refine ⟨fun o h1 h2 h3 h4 h5 h6 => addA_o h1 h2 h3 h4 h5 h6, fun k hk e => addA_s ⟨hk, e⟩, by rw [g37]; omega, fun i h1 h2 => ?_⟩
  have gi := g i h1
  refine ⟨?_, ?_, ?_, ?_, ?_⟩
  · rw [gi.1, if_neg (by omega)]
  · rw [gi.2.1, if_neg (by omega)]
  · rw [gi.2.2.1, if_neg (by omega)]
  · rw [gi.2.2.2.1, if_neg (by omega)]
  · rw [gi.2.2.2.2.1, if_neg (by omega)]
theorem nExt.e {A A' : xAs} (h : nExt A A') : A' iM_minuteOf = A iM_minuteOf ∧ A' iM_dayOf = A iM_dayOf ∧ A' iM_peopleOf = A iM_peopleOf ∧ A' iM_cameAt = A iM_cameAt ∧ A' iM_worthOf = A iM_worthOf ∧ A' iM 1 = A iM 1 ∧ A' iM 0 = A iM 0 :=
  ⟨h.1 _ (by decide) (by decide) (by decide) (by decide) (by decide) (by decide), h.1 _ (by decide) (by decide) (by decide) (by decide) (by decide) (by decide), h.1 _ (by decide) (by decide) (by decide) (by decide) (by decide) (by decide), h.1 _ (by decide) (by decide) (by decide) (by decide) (by decide) (by decide), h.1 _ (by decide) (by decide) (by decide) (by decide) (by decide) (by decide), h.2.1 1 (by decide) (by decide), h.2.1 0 (by decide) (by decide)⟩
theorem cA_same {A A' : xAs} (h : nExt A A') (m : Int) : cA A' m = cA A m := by
  funext p
  show A' iM_cameAt _ = A iM_cameAt _
  rw [h.e.2.2.2.1]
theorem sIs_same {A A' : xAs} (h : nExt A A') {q m x : Int} : sIs A' q m x = sIs A q m x := by
  obtain ⟨h1, h2, h3, h4, h5, h6, h7⟩ := h.e
  simp only [sIs, cA_same h, h1, h2, h3, h4]
theorem sBy0_same {A A' : xAs} (h : nExt A A') {m x : Int} : ∀ k, sBy0 A' m x k = sBy0 A m x k
  | 0 => rfl
  | k + 1 => by rw [sBy0_s, sBy0_s, sBy0_same h k]; simp only [sIs_same h, h.e.1]
theorem sBy_same {A A' : xAs} (h : nExt A A') {m x : Int} : sBy A' m x = sBy A m x := by
  obtain ⟨h1, h2, h3, h4, h5, h6, h7⟩ := h.e
  unfold sBy
  simp only [sBy0_same h, cA_same h, h1, h6]
theorem sLater_same {A A' : xAs} (h : nExt A A') {m x : Int} : sLater A' m x = sLater A m x := by
  obtain ⟨h1, h2, h3, h4, h5, h6, h7⟩ := h.e
  unfold sLater
  simp only [h3, h4]
theorem fF_same {A A' : xAs} (h : nExt A A') {m x y : Int} : fF A' m x y = fF A m x y := by
  obtain ⟨h1, h2, h3, h4, h5, h6, h7⟩ := h.e
  funext i
  unfold fF
  simp only [cA_same h, sBy_same h, sLater_same h, h1, h2, h3, h5]
theorem chQ_same {A A' : xAs} (h : nExt A A') {s : Int × Int × Int} : chQ A' s = chQ A s := sBy_same h
theorem chP_same {A A' : xAs} (h : nExt A A') {p : Int} {s : Int × Int × Int} : chP A' p s = chP A p s := by unfold chP; rw [chQ_same h]
theorem chS_same {A A' : xAs} (h : nExt A A') {p m x v : Int} : ∀ k, chS A' p m x v k = chS A p m x v k
  | 0 => rfl
  | k + 1 => by
    obtain ⟨h1, h2, h3, h4, h5, h6, h7⟩ := h.e
    unfold chS
    rw [chS_same h k]
    simp only [chQ_same h, chP_same h, cA_same h, h3]
theorem chN_same {A A' : xAs} (h : nExt A A') {p m x v : Int} {e : Nat} (he : chN A p m x v e) : chN A' p m x v e := by
  obtain ⟨h1, h2, h3, h4⟩ := he
  have h6 := h.e.2.2.2.2.2.1
  refine ⟨h1, ?_, fun i hi => ?_, fun i hi => ?_⟩
  · rw [chP_same h, chS_same h]; exact h2
  · rw [chP_same h, chS_same h]; exact h3 i hi
  · rw [chS_same h]; show _ ∧ _ ∧ _; rw [h6]; exact h4 i hi
theorem isCase_same {A A' : xAs} (h : nExt A A') {m x y : Int} : isCase A' m x y = isCase A m x y := by
  obtain ⟨h1, h2, h3, h4, h5, h6, h7⟩ := h.e
  simp only [isCase, cA_same h, h3, h6]
/-- how many notes k payers make; the town behind them (p 0: none is made) -/
def ctk (w c : Nat → Int) (y : Int) : Nat → Int
  | 0 => 0
  | k + 1 => if c k = 0 ∨ w k = y then ctk w c y k else ctk w c y k + 1
def stk (p : Int) (w c : Nat → Int) (y l : Int) (B : xAs) : Nat → xAs
  | 0 => B
  | k + 1 => if (c k = 0 ∨ w k = y) ∨ p = 0 then stk p w c y l B k else addA (stk p w c y l B k) (stk p w c y l B k iM 37) (w k) y (c k) (stk p w c y l B k iM 0) l
theorem ctk_b {w c : Nat → Int} {y : Int} : ∀ k, 0 ≤ ctk w c y k ∧ ctk w c y k ≤ k
  | 0 => ⟨Int.le_refl _, Int.le_refl _⟩
  | k + 1 => by have := ctk_b (w := w) (c := c) (y := y) k; unfold ctk; split <;> omega
theorem ctk_m {w c : Nat → Int} {y : Int} {k : Nat} : ∀ {j : Nat}, k ≤ j → ctk w c y k ≤ ctk w c y j
  | 0, h => by rw [show k = 0 by omega]; exact Int.le_refl _
  | j + 1, h => by
    by_cases e : k = j + 1
    · rw [e]; exact Int.le_refl _
    · have h1 := ctk_m (w := w) (c := c) (y := y) (k := k) (j := j) (by omega)
      have ec : ctk w c y (j + 1) = if c j = 0 ∨ w j = y then ctk w c y j else ctk w c y j + 1 := rfl
      have h2 : ctk w c y j ≤ ctk w c y (j + 1) := by rw [ec]; split <;> omega
      omega
abbrev wOk (w c : Nat → Int) (N : Nat) : Prop := ∀ i, i < N → (0 ≤ w i ∧ w i < 8) ∧ 0 ≤ c i ∧ c i ≤ 1440
theorem stk_ok {p : Int} {w c : Nat → Int} {y l : Int} {B : xAs} {N : Nat} (hI : Inv B) (hw : wOk w c N) (hy : 0 ≤ y ∧ y < 8) (hl : -1 ≤ l ∧ l ≤ 199) : ∀ k, k ≤ N → (p = 0 ∨ B iM 37 + ctk w c y k ≤ 60) → nExt B (stk p w c y l B k) ∧ Inv (stk p w c y l B k) ∧ stk p w c y l B k iM 37 = B iM 37 + (if p = 0 then 0 else ctk w c y k)
  | 0, _, _ => ⟨nExt.rf, hI, by show B iM 37 = _ + (if _ then _ else 0); split <;> omega⟩
  | k + 1, hk, h => by
    have hb := ctk_b (w := w) (c := c) (y := y) k
    have hm : ctk w c y k ≤ ctk w c y (k + 1) := ctk_m (by omega)
    have ih := stk_ok hI hw hy hl k (by omega) (p := p) (by omega)
    have e : stk p w c y l B (k + 1) = if (c k = 0 ∨ w k = y) ∨ p = 0 then stk p w c y l B k else addA (stk p w c y l B k) (stk p w c y l B k iM 37) (w k) y (c k) (stk p w c y l B k iM 0) l := rfl
    have ec : ctk w c y (k + 1) = if c k = 0 ∨ w k = y then ctk w c y k else ctk w c y k + 1 := rfl
    obtain ⟨i1, i2, i3⟩ := ih
    by_cases q : p = 0
    · rw [e, if_pos (Or.inr q)]
      rw [if_pos q] at i3 ⊢
      exact ⟨i1, i2, i3⟩
    · rw [if_neg q] at i3 ⊢
      by_cases d : c k = 0 ∨ w k = y
      · rw [e, if_pos (Or.inl d), ec, if_pos d]
        exact ⟨i1, i2, i3⟩
      · rw [ec, if_neg d] at h ⊢
        rw [e, if_neg (by omega)]
        have h37 := i2.notes
        have hn := hI.now
        have hlt : stk p w c y l B k iM 37 < 60 := by omega
        have hwk := hw k (by omega)
        have e0 := i1.e.2.2.2.2.2.2
        have g := addA_g (A := stk p w c y l B k) (a := w k) (b := y) (c := c k) (d := stk p w c y l B k iM 0) (e := l) ⟨h37.1, hlt⟩ (z := 0) (by omega)
        refine ⟨i1.tr (nExt.add ⟨h37.1, hlt⟩), addA_Inv i2 hlt ⟨hwk.1, hy, hwk.2, by omega, hl, fun e => absurd (Or.inr e) d⟩, ?_⟩
        rw [g.2.2.2.2.2, i3]; omega
