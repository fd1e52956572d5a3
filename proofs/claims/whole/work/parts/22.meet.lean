theorem bit_tab : ∀ c, c < 256 → ∀ k, k < 8 → (Int32.ofNat c >>> (Int32.ofNat k &&& 31)) &&& 1 = Int32.ofNat (c / 2 ^ k % 2) := by decide +kernel
theorem j_bit {c k : Int} (h : 0 ≤ c ∧ c < 256 ∧ 0 ≤ k ∧ k < 8) : (j32 c >>> (j32 k &&& j32 31)) &&& j32 1 = j32 (bitI c k) := by
  obtain ⟨c, rfl⟩ := Int.eq_ofNat_of_zero_le h.1
  obtain ⟨k, rfl⟩ := Int.eq_ofNat_of_zero_le h.2.2.1
  have h1 := bit_tab c (by omega) k (by omega)
  unfold bitI j32
  rw [Int32.ofInt_eq_ofNat, Int32.ofInt_eq_ofNat, show (Int32.ofInt 31) = 31 from rfl, show (Int32.ofInt 1) = 1 from rfl, h1]
  rw [← Int32.ofInt_eq_ofNat]
  simp
theorem bitI_01 (c k : Int) : bitI c k = 0 ∨ bitI c k = 1 := by unfold bitI; omega
theorem eX12_isPerson {p : Int} (hp : -2147483648 ≤ p ∧ p < 2147483648) : fX12_isPerson (j32 p) = some (j32 (bi (0 ≤ p ∧ p < 8))) := by
  unfold fX12_isPerson
  simp (disch := omega) only [lits, jj, jc]
  unfold bi
  repeat' split
  all_goals (first | rfl | omega)
theorem eX11_isPerson {p : Int} (hp : -2147483648 ≤ p ∧ p < 2147483648) : fX11_isPerson (j32 p) = some (j32 (bi (0 ≤ p ∧ p < 8))) := eX12_isPerson hp
theorem eX12_in {v a b : Int} (hv : -2147483648 ≤ v ∧ v < 2147483648) (ha : -2147483648 ≤ a ∧ a < 2147483648) (hb : -2147483648 ≤ b ∧ b < 2147483648) : fX12_in (j32 v) (j32 a) (j32 b) = some (j32 (bi (a ≤ v ∧ v ≤ b))) := by
  unfold fX12_in
  simp (disch := omega) only [lits, jj, jc]
  unfold bi
  repeat' split
  all_goals (first | rfl | omega)
theorem eX11_within {v a b : Int} (hv : -2147483648 ≤ v ∧ v < 2147483648) (ha : -2147483648 ≤ a ∧ a < 2147483648) (hb : -2147483648 ≤ b ∧ b < 2147483648) : fX11_within (j32 v) (j32 a) (j32 b) = some (j32 (bi (a ≤ v ∧ v ≤ b))) := eX12_in hv ha hb
theorem eX12_isMeeting {A : xAs} {μ : xm} (hA : RH A μ) (hI : Inv A) {m : Int} (hm : -2147483648 ≤ m ∧ m < 2147483648) : fX12_isMeeting (j32 m) μ = some (j32 (bi (0 ≤ m ∧ m < A iM 1))) := by
  have h1 := hI.mt
  unfold fX12_isMeeting
  simp (disch := omega) only [lits, jj, jc, hA, Int.cast_ofNat_Int]
  unfold bi
  repeat' split
  all_goals (first | rfl | omega)
/-- x is of meeting m -/
abbrev isOf (A : xAs) (m p : Int) : Prop := (0 ≤ m ∧ m < A iM 1) ∧ inc (A iM_peopleOf m) p
theorem eX12_isOf {A : xAs} {μ : xm} (hA : RH A μ) (hI : Inv A) {m p : Int} (hm : -2147483648 ≤ m ∧ m < 2147483648) (hp : -2147483648 ≤ p ∧ p < 2147483648) : fX12_isOf (j32 m) (j32 p) μ = some (j32 (bi (isOf A m p))) := by
  have h1 := hI.mt
  unfold fX12_isOf
  rw [eX12_isMeeting hA hI hm, xbd_e]
  simp only [lits, j_bi0]
  by_cases c1 : 0 ≤ m ∧ m < A iM 1
  · have h2 := hI.peopleOf m c1.1 c1.2
    rw [if_neg (by simp [c1]), eX12_isPerson hp, xbd_e]
    simp only [j_bi0]
    by_cases c2 : 0 ≤ p ∧ p < 8
    · rw [if_neg (by simp [c2])]
      have h3 := bitI_01 (A iM_peopleOf m) p
      simp (disch := omega) only [jm, jc, hA, xe, j_bit]
      unfold bi
      by_cases c3 : bitI (A iM_peopleOf m) p = 1
      · rw [if_pos c3, if_pos ⟨c1, c2.1, c2.2, c3⟩]
      · rw [if_neg c3, if_neg (fun h => c3 h.2.2.2)]
    · rw [if_pos c2]
      unfold bi
      rw [if_neg (fun h => c2 ⟨h.2.1, h.2.2.1⟩)]
  · rw [if_pos c1]
    unfold bi
    rw [if_neg (fun h => c1 h.1)]
/-- the class's meeting at cell o -/
theorem eX2_includes {μ : xm} {o : Nat} (hP : 0 ≤ gi μ o 2 ∧ gi μ o 2 < 256) {p : Int} (hp : -2147483648 ≤ p ∧ p < 2147483648) : fX2_includes o (j32 p) μ = some (j32 (bi (inc (gi μ o 2) p))) := by
  unfold fX2_includes
  have h3 := bitI_01 (gi μ o 2) p
  by_cases c1 : p < 0
  · simp (disch := omega) only [lits, jj, jc, Int.cast_ofNat_Int, c1, if_true]
    rw [bi, if_neg (by intro h; omega)]
  by_cases c2 : 8 ≤ p
  · simp (disch := omega) only [lits, jj, jc, Int.cast_ofNat_Int, c1, c2, if_true, if_false]
    rw [bi, if_neg (by intro h; omega)]
  simp (disch := omega) only [lits, jj, jc, Int.cast_ofNat_Int, c1, c2, if_false, j_bit]
  rw [bi]
  by_cases c3 : bitI (gi μ o 2) p = 1
  · rw [if_pos c3, if_pos ⟨by omega, by omega, c3⟩]
  · rw [if_neg c3, if_neg (fun h => c3 h.2.2)]
theorem eX2_comingOf {μ : xm} {o : Nat} (hP : 0 ≤ gi μ o 2 ∧ gi μ o 2 < 256) {p : Int} (hp : -2147483648 ≤ p ∧ p < 2147483648) : fX2_comingOf o (j32 p) μ = some (j32 (if inc (gi μ o 2) p then gi μ (o + 1) p else -1)) := by
  unfold fX2_comingOf
  rw [eX2_includes hP hp, xbd_e]
  by_cases c : inc (gi μ o 2) p
  · simp (disch := omega) only [lits, jj, jc, jm, Int.cast_ofNat_Int, j_bi0, eq_true c, not_true, if_true, if_false, xe, show ¬ (8 ≤ p) by omega]
  · simp (disch := omega) only [lits, jj, jc, jm, Int.cast_ofNat_Int, j_bi0, c, not_false_eq_true, if_true, if_false, xe]
/-- all came, to k -/
def sAll (P : Int) (c : Int → Int) : Nat → Bool
  | 0 => true
  | k + 1 => sAll P c k && (!decide (inc P k) || decide (c k ≠ -1))
theorem sAll_s {P : Int} {c : Int → Int} {k : Nat} : sAll P c (k + 1) = true ↔ sAll P c k = true ∧ (inc P k → c k ≠ -1) := by
  rw [show sAll P c (k + 1) = (sAll P c k && (!decide (inc P k) || decide (c k ≠ -1))) from rfl, Bool.and_eq_true, Bool.or_eq_true, Bool.not_eq_true', decide_eq_false_iff_not, decide_eq_true_iff]
  constructor
  · rintro ⟨h1, h2⟩
    exact ⟨h1, fun h => by rcases h2 with h2 | h2; exact absurd h h2; exact h2⟩
  · rintro ⟨h1, h2⟩
    by_cases h : inc P k
    · exact ⟨h1, Or.inr (h2 h)⟩
    · exact ⟨h1, Or.inl h⟩
theorem sAll_iff {P : Int} {c : Int → Int} : ∀ {k : Nat}, sAll P c k = true ↔ ∀ p : Int, 0 ≤ p → p < k → inc P p → c p ≠ -1
  | 0 => ⟨fun _ p h1 h2 => by omega, fun _ => rfl⟩
  | k + 1 => by
    rw [sAll_s, sAll_iff (k := k)]
    constructor
    · rintro ⟨h1, h2⟩ p h3 h4 h5
      by_cases e : p = k
      · subst e; exact h2 h5
      · exact h1 p h3 (by omega) h5
    · intro h
      exact ⟨fun p h1 h2 h3 => h p h1 (by omega) h3, fun h3 => h k (by omega) (by omega) h3⟩
/-- when it begins, were all told -/
def sBeg (P : Int) (c : Int → Int) (M : Int) : Nat → Int
  | 0 => M
  | k + 1 => if inc P k ∧ c k > sBeg P c M k then c k else sBeg P c M k
/-- who came last, of like ones the lowest -/
def sKeep (P : Int) (c : Int → Int) : Nat → Int
  | 0 => -1
  | k + 1 => if inc P k ∧ (sKeep P c k = -1 ∨ c k > c (sKeep P c k)) then k else sKeep P c k
theorem sBeg_s {P M : Int} {c : Int → Int} {k : Nat} : sBeg P c M (k + 1) = if inc P k ∧ c k > sBeg P c M k then c k else sBeg P c M k := rfl
theorem sKeep_s {P : Int} {c : Int → Int} {k : Nat} : sKeep P c (k + 1) = if inc P k ∧ (sKeep P c k = -1 ∨ c k > c (sKeep P c k)) then (k : Int) else sKeep P c k := rfl
theorem sBeg_b {P M : Int} {c : Int → Int} (hM : 0 ≤ M ∧ M ≤ 1439) (hc : ∀ p, 0 ≤ p → p < 8 → -1 ≤ c p ∧ c p ≤ 1439) : ∀ k : Nat, k ≤ 8 → M ≤ sBeg P c M k ∧ sBeg P c M k ≤ 1439 := by
  intro k
  induction k with
  | zero => intro _; exact ⟨Int.le_refl _, hM.2⟩
  | succ k ih =>
    intro hk
    have h1 := ih (by omega)
    have h2 := hc k (by omega) (by omega)
    rw [sBeg_s]
    split <;> omega
theorem sKeep_b {P : Int} {c : Int → Int} : ∀ k : Nat, k ≤ 8 → -1 ≤ sKeep P c k ∧ sKeep P c k < k := by
  intro k
  induction k with
  | zero => intro _; unfold sKeep; omega
  | succ k ih =>
    intro hk
    have h1 := ih (by omega)
    rw [sKeep_s]
    split <;> omega
theorem sKeep_inc {P : Int} {c : Int → Int} : ∀ k : Nat, k ≤ 8 → sKeep P c k = -1 ∨ inc P (sKeep P c k) := by
  intro k
  induction k with
  | zero => intro _; exact Or.inl rfl
  | succ k ih =>
    intro hk
    have h1 := ih (by omega)
    rw [sKeep_s]
    split
    · rename_i h; exact Or.inr h.1
    · exact h1
theorem eX2_start {μ : xm} {o : Nat} (hP : 0 ≤ gi μ o 2 ∧ gi μ o 2 < 256) (hM : 0 ≤ gi μ o 1 ∧ gi μ o 1 ≤ 1439) (hc : ∀ p, 0 ≤ p → p < 8 → -1 ≤ gi μ (o + 1) p ∧ gi μ (o + 1) p ≤ 1439) : fX2_start o μ = some (j32 (if sAll (gi μ o 2) (gi μ (o + 1)) 8 then sBeg (gi μ o 2) (gi μ (o + 1)) (gi μ o 1) 8 else -1)) := by
  unfold fX2_start
  simp only [lits, jj, Int.cast_ofNat_Int, xlt_e]
  have key : xok (xloop xfu (fun v => fX2_start_b7 v.1 v.2 o μ) (j32 (gi μ o 1), j32 0)) (fun r => (sAll (gi μ o 2) (gi μ (o + 1)) 8 = true ∧ r = .inl (j32 (sBeg (gi μ o 2) (gi μ (o + 1)) (gi μ o 1) 8))) ∨ (¬ sAll (gi μ o 2) (gi μ (o + 1)) 8 = true ∧ r = .inr (j32 (-1)))) := by
    refine xok_for (fun k a => sAll (gi μ o 2) (gi μ (o + 1)) k = true ∧ a = (j32 (sBeg (gi μ o 2) (gi μ (o + 1)) (gi μ o 1) k), j32 k)) 8 (by decide) ⟨rfl, rfl⟩ ?_ ?_
    · rintro k a hk ⟨h1, rfl⟩
      have hb := sBeg_b (P := gi μ o 2) hM hc k (by omega)
      have hk2 := hc k (by omega) (by omega)
      unfold fX2_start_b7
      rw [eX2_includes hP (by omega)]
      by_cases c1 : inc (gi μ o 2) k
      · by_cases c2 : gi μ (o + 1) k = -1
        · simp (disch := omega) only [lits, jj, jc, jm, Int.cast_ofNat_Int, j_bi0, j_bi1, not_true, not_false_eq_true, if_true, if_false, xe, xok_some, Sum.elim_inl, Sum.elim_inr, eq_true c1, show ¬ (8 ≤ (k : Int)) by omega, c2]
          exact Or.inr ⟨fun h => (sAll_iff.mp h k (by omega) (by omega) c1) c2, trivial⟩
        · simp (disch := omega) only [lits, jj, jc, jm, Int.cast_ofNat_Int, j_bi0, j_bi1, not_true, not_false_eq_true, if_true, if_false, xe, xok_some, Sum.elim_inl, Sum.elim_inr, eq_true c1, show ¬ (8 ≤ (k : Int)) by omega, c2, j_max]
          refine ⟨sAll_s.mpr ⟨h1, fun _ => c2⟩, ?_⟩
          rw [sBeg_s]
          by_cases c3 : gi μ (o + 1) k > sBeg (gi μ o 2) (gi μ (o + 1)) (gi μ o 1) k
          · rw [if_pos ⟨c1, c3⟩, show max (sBeg (gi μ o 2) (gi μ (o + 1)) (gi μ o 1) k) (gi μ (o + 1) k) = gi μ (o + 1) k by omega]; rfl
          · rw [if_neg (fun h => c3 h.2), show max (sBeg (gi μ o 2) (gi μ (o + 1)) (gi μ o 1) k) (gi μ (o + 1) k) = sBeg (gi μ o 2) (gi μ (o + 1)) (gi μ o 1) k by omega]; rfl
      · simp (disch := omega) only [lits, jj, jc, jm, Int.cast_ofNat_Int, j_bi0, j_bi1, not_true, not_false_eq_true, if_true, if_false, xe, xok_some, Sum.elim_inl, Sum.elim_inr, eq_false c1, show ¬ (8 ≤ (k : Int)) by omega]
        refine ⟨sAll_s.mpr ⟨h1, fun h => absurd h c1⟩, ?_⟩
        rw [sBeg_s]
        rw [if_neg (fun h => c1 h.1)]; rfl
    · rintro a ⟨h1, rfl⟩
      have hb := sBeg_b (P := gi μ o 2) hM hc 8 (by omega)
      unfold fX2_start_b7
      simp (disch := omega) only [lits, jj, jc, jm, Int.cast_ofNat_Int, j_bi0, j_bi1, not_true, not_false_eq_true, if_true, if_false, xe, xok_some, Sum.elim_inl, Sum.elim_inr, Int.le_refl]
      exact Or.inl ⟨h1, trivial⟩
  obtain ⟨r, e, h⟩ := key
  rw [e, xbd_e]
  rcases h with ⟨h1, rfl⟩ | ⟨h1, rfl⟩
  · rw [if_pos h1]; rfl
  · rw [if_neg h1]; rfl

theorem eX2_keeper {μ : xm} {o : Nat} (hP : 0 ≤ gi μ o 2 ∧ gi μ o 2 < 256) (hc : ∀ p, 0 ≤ p → p < 8 → inc (gi μ o 2) p → 0 ≤ gi μ (o + 1) p ∧ gi μ (o + 1) p ≤ 1439) : fX2_keeper o μ = some (j32 (sKeep (gi μ o 2) (gi μ (o + 1)) 8)) := by
  unfold fX2_keeper
  simp only [lits, jj]
  have key := xloop_for (b := fun v => fX2_keeper_b6 v.1 v.2.1 v.2.2 o μ) (fun k => (j32 (sKeep (gi μ o 2) (gi μ (o + 1)) k), j32 (if sKeep (gi μ o 2) (gi μ (o + 1)) k = -1 then -1 else gi μ (o + 1) (sKeep (gi μ o 2) (gi μ (o + 1)) k)), j32 k)) 8 (r := j32 (sKeep (gi μ o 2) (gi μ (o + 1)) 8)) (a := (j32 (-1), j32 (-1), j32 0)) (by decide) rfl ?_ ?_
  · rw [key]; rfl
  · intro k hk
    have hb := sKeep_b (P := gi μ o 2) (c := gi μ (o + 1)) k (by omega)
    have hi := sKeep_inc (P := gi μ o 2) (c := gi μ (o + 1)) k (by omega)
    show fX2_keeper_b6 _ _ _ o μ = _
    unfold fX2_keeper_b6
    rw [eX2_includes hP (by omega)]
    rw [sKeep_s]
    generalize sKeep (gi μ o 2) (gi μ (o + 1)) k = w at hb hi ⊢
    by_cases c1 : inc (gi μ o 2) k
    · have hk2 := hc k (by omega) (by omega) c1
      by_cases c2 : w = -1
      · simp (disch := omega) only [lits, jj, jc, jm, Int.cast_ofNat_Int, j_bi0, j_bi1, not_true, not_false_eq_true, if_true, if_false, xe, xok_some, Sum.elim_inl, Sum.elim_inr, eq_true c1, show ¬ (8 ≤ (k : Int)) by omega, c2, show ¬ gi μ (o + 1) k ≤ -1 by omega, true_or, and_self, show ¬ ((k : Int) = -1) by omega]
        rfl
      · have hw := hc w (by omega) (by omega) (by rcases hi with h | h; exact absurd h c2; exact h)
        by_cases c3 : gi μ (o + 1) k > gi μ (o + 1) w
        · simp (disch := omega) only [lits, jj, jc, jm, Int.cast_ofNat_Int, j_bi0, j_bi1, not_true, not_false_eq_true, if_true, if_false, xe, xok_some, Sum.elim_inl, Sum.elim_inr, eq_true c1, show ¬ (8 ≤ (k : Int)) by omega, c2, show ¬ gi μ (o + 1) k ≤ gi μ (o + 1) w by omega, c3, or_true, and_self, show ¬ ((k : Int) = -1) by omega]
          rfl
        · simp (disch := omega) only [lits, jj, jc, jm, Int.cast_ofNat_Int, j_bi0, j_bi1, not_true, not_false_eq_true, if_true, if_false, xe, xok_some, Sum.elim_inl, Sum.elim_inr, eq_true c1, show ¬ (8 ≤ (k : Int)) by omega, c2, show gi μ (o + 1) k ≤ gi μ (o + 1) w by omega, c3, or_false, and_false]
          rfl
    · simp (disch := omega) only [lits, jj, jc, jm, Int.cast_ofNat_Int, j_bi0, j_bi1, not_true, not_false_eq_true, if_true, if_false, xe, xok_some, Sum.elim_inl, Sum.elim_inr, eq_false c1, show ¬ (8 ≤ (k : Int)) by omega, false_and]
      rfl
  · show fX2_keeper_b6 _ _ _ o μ = _
    unfold fX2_keeper_b6
    simp (disch := omega) only [lits, jj, jc, jm, Int.cast_ofNat_Int, j_bi0, j_bi1, not_true, not_false_eq_true, if_true, if_false, xe, xok_some, Sum.elim_inl, Sum.elim_inr, Int.le_refl]

theorem sAll_c {P : Int} {c c' : Int → Int} : ∀ {k : Nat}, (∀ p : Int, 0 ≤ p → p < k → c p = c' p) → sAll P c k = sAll P c' k
  | 0, _ => rfl
  | k + 1, h => by
    show (sAll P c k && _) = (sAll P c' k && _)
    rw [sAll_c (k := k) (fun p h1 h2 => h p h1 (by omega)), h k (by omega) (by omega)]
theorem sBeg_c {P M : Int} {c c' : Int → Int} : ∀ {k : Nat}, (∀ p : Int, 0 ≤ p → p < k → c p = c' p) → sBeg P c M k = sBeg P c' M k
  | 0, _ => rfl
  | k + 1, h => by
    rw [sBeg_s, sBeg_s, sBeg_c (k := k) (fun p h1 h2 => h p h1 (by omega)), h k (by omega) (by omega)]
theorem sKeep_c {P : Int} {c c' : Int → Int} : ∀ {k : Nat}, k ≤ 8 → (∀ p : Int, 0 ≤ p → p < k → c p = c' p) → sKeep P c k = sKeep P c' k
  | 0, _, _ => rfl
  | k + 1, hk, h => by
    have e := sKeep_c (P := P) (k := k) (by omega) (fun p h1 h2 => h p h1 (by omega))
    have hb := sKeep_b (P := P) (c := c') k (by omega)
    rw [sKeep_s, sKeep_s, e, h k (by omega) (by omega)]
    by_cases hz : sKeep P c' k = -1
    · simp only [hz, true_or]
    · rw [h (sKeep P c' k) (by omega) (by omega)]
