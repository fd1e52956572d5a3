/-! chain: who pays, as A has it -/
/-- how many meetings are before m in the day's minutes -/
def rkF (A : xAs) (m : Int) : Int → Int := fun j => if A iM_minuteOf j < A iM_minuteOf m then 1 else 0
def rk (A : xAs) (m : Int) : Int := sumTo (rkF A m) (A iM 1).toNat
theorem sum_le {f g : Int → Int} : ∀ {k : Nat}, (∀ z : Int, 0 ≤ z → z < k → f z ≤ g z) → sumTo f k ≤ sumTo g k
  | 0, _ => Int.le_refl _
  | k + 1, h => by
    have h1 := sum_le (k := k) (fun z h1 h2 => h z h1 (by omega))
    have h2 := h k (by omega) (by omega)
    rw [sumTo_s, sumTo_s]; omega
theorem sum_lt {f g : Int → Int} {w : Int} (hw : 0 ≤ w) (h0 : f w < g w) : ∀ {k : Nat}, w < k → (∀ z : Int, 0 ≤ z → z < k → f z ≤ g z) → sumTo f k < sumTo g k
  | 0, h, _ => by omega
  | k + 1, hk, h => by
    rw [sumTo_s, sumTo_s]
    by_cases c : w = k
    · have h1 := sum_le (k := k) (fun z h1 h2 => h z h1 (by omega))
      rw [← c]; omega
    · have h1 := sum_lt hw h0 (k := k) (by omega) (fun z h1 h2 => h z h1 (by omega))
      have h2 := h k (by omega) (by omega)
      omega
theorem rk_lt {A : xAs} {q m : Int} (hq : 0 ≤ q ∧ q < A iM 1) (h : A iM_minuteOf q < A iM_minuteOf m) : rk A q < rk A m := by
  unfold rk
  refine sum_lt (w := q) hq.1 ?_ (by omega) (fun z h1 h2 => ?_)
  · unfold rkF; rw [if_neg (by omega), if_pos h]; omega
  · unfold rkF
    by_cases c : A iM_minuteOf z < A iM_minuteOf q
    · rw [if_pos c, if_pos (by omega)]; omega
    · rw [if_neg c]; split <;> omega
theorem rk_b {A : xAs} (hI : Inv A) {m : Int} (hm : 0 ≤ m ∧ m < A iM 1) : 0 ≤ rk A m ∧ rk A m ≤ 23 := by
  have h1 := hI.mt
  have h0 := sumTo_b (f := rkF A m) (B := 1) (k := (A iM 1).toNat) (fun z _ _ => by unfold rkF; split <;> omega)
  have h2 : rk A m < sumTo (fun _ => 1) (A iM 1).toNat := by
    unfold rk
    refine sum_lt (w := m) hm.1 ?_ (by omega) (fun z _ _ => ?_)
    · unfold rkF; rw [if_neg (by omega)]; omega
    · unfold rkF; split <;> omega
  have h3 := sumTo_b (f := fun _ => (1 : Int)) (B := 1) (k := (A iM 1).toNat) (fun z _ _ => by omega)
  unfold rk at *
  omega
/-- the chain: meeting, payer, minutes -/
def chQ (A : xAs) (s : Int × Int × Int) : Int := sBy A s.1 s.2.1
def chP (A : xAs) (h : Int) (s : Int × Int × Int) : Int := if chQ A s = -1 then 0 else s.2.2 * h / 100
def chS (A : xAs) (h m x v : Int) : Nat → Int × Int × Int
  | 0 => (m, x, v)
  | k + 1 => (chQ A (chS A h m x v k), sKeep (A iM_peopleOf (chQ A (chS A h m x v k))) (cA A (chQ A (chS A h m x v k))) 8, chP A h (chS A h m x v k))
abbrev chOk (A : xAs) (s : Int × Int × Int) : Prop := (0 ≤ s.1 ∧ s.1 < A iM 1) ∧ (0 ≤ s.2.1 ∧ s.2.1 < 8) ∧ 0 ≤ s.2.2 ∧ s.2.2 ≤ 1440
theorem mul_ed {v h : Int} (hv : 0 ≤ v ∧ v ≤ 1440) (hh : 0 ≤ h ∧ h ≤ 100) : 0 ≤ v * h ∧ v * h ≤ 144000 ∧ 0 ≤ v * h / 100 ∧ v * h / 100 ≤ v := by
  have h1 := Int.mul_nonneg hv.1 hh.1
  have h2 : v * h ≤ v * 100 := Int.mul_le_mul_of_nonneg_left hh.2 hv.1
  omega
theorem chP_b {A : xAs} {h : Int} (hh : 0 ≤ h ∧ h ≤ 100) {s : Int × Int × Int} (hs : chOk A s) : 0 ≤ chP A h s ∧ chP A h s ≤ s.2.2 := by
  have := mul_ed hs.2.2 hh
  unfold chP; split <;> omega
theorem sKeep_not {P : Int} {c : Int → Int} : ∀ {k : Nat} {p : Int}, 0 ≤ p → p < k → inc P p → sKeep P c k ≠ -1
  | 0, p, h1, h2, _ => by omega
  | k + 1, p, h1, h2, h3 => by
    rw [sKeep_s]
    by_cases c1 : inc P k ∧ (sKeep P c k = -1 ∨ c k > c (sKeep P c k))
    · rw [if_pos c1]; omega
    · rw [if_neg c1]
      by_cases e : p = k
      · intro h4; exact c1 ⟨e ▸ h3, Or.inl h4⟩
      · exact sKeep_not h1 (by omega) h3
theorem chQ_ok {A : xAs} (hI : Inv A) {s : Int × Int × Int} (hq : chQ A s ≠ -1) : (0 ≤ chQ A s ∧ chQ A s < A iM 1) ∧ A iM_minuteOf (chQ A s) < A iM_minuteOf s.1 ∧ sAll (A iM_peopleOf (chQ A s)) (cA A (chQ A s)) 8 = true ∧ (0 ≤ sKeep (A iM_peopleOf (chQ A s)) (cA A (chQ A s)) 8 ∧ sKeep (A iM_peopleOf (chQ A s)) (cA A (chQ A s)) 8 < 8) := by
  have h1 := sBy_b hI (m := s.1) (x := s.2.1)
  have h2 := sBy_all hI hq
  have h3 : sIs A (chQ A s) s.1 s.2.1 := h1.2.resolve_left hq
  have h4 := sKeep_b (P := A iM_peopleOf (chQ A s)) (c := cA A (chQ A s)) 8 (by omega)
  have h5 := sKeep_not (P := A iM_peopleOf (chQ A s)) (c := cA A (chQ A s)) (k := 8) h3.2.2.1.1 (by have := h3.2.2.1.2.1; omega) h3.2.2.1
  exact ⟨h2.1, h3.2.1, h2.2, by omega, by omega⟩
theorem chS_next {A : xAs} (hI : Inv A) {h : Int} (hh : 0 ≤ h ∧ h ≤ 100) {m x v : Int} {k : Nat} (hs : chOk A (chS A h m x v k)) (hp : chP A h (chS A h m x v k) ≠ 0) : chOk A (chS A h m x v (k + 1)) ∧ rk A (chS A h m x v (k + 1)).1 < rk A (chS A h m x v k).1 := by
  have hq : chQ A (chS A h m x v k) ≠ -1 := fun e => hp (by unfold chP; rw [if_pos e])
  have h1 := chQ_ok hI hq
  have h2 := chP_b hh hs
  have h3 := hs.2.2
  exact ⟨⟨h1.1, h1.2.2.2, by show 0 ≤ chP A h (chS A h m x v k); omega, by show chP A h (chS A h m x v k) ≤ 1440; omega⟩, rk_lt h1.1 h1.2.1⟩
/-- it ends -/
theorem chEnd {A : xAs} (hI : Inv A) {h : Int} (hh : 0 ≤ h ∧ h ≤ 100) {m x v : Int} : ∀ (j k : Nat), rk A (chS A h m x v k).1 ≤ j → chOk A (chS A h m x v k) → ∃ e, k ≤ e ∧ e ≤ k + j ∧ chP A h (chS A h m x v e) = 0 ∧ (∀ i, k ≤ i → i < e → chP A h (chS A h m x v i) ≠ 0) ∧ ∀ i, k ≤ i → i ≤ e → chOk A (chS A h m x v i) := by
  intro j
  induction j with
  | zero =>
    intro k h1 h2
    refine ⟨k, by omega, by omega, ?_, fun i h3 h4 => by omega, fun i h3 h4 => by rw [show i = k by omega]; exact h2⟩
    by_cases c : chP A h (chS A h m x v k) = 0
    · exact c
    · have h3 := chS_next hI hh h2 c
      have h4 := rk_b hI h3.1.1
      omega
  | succ j ih =>
    intro k h1 h2
    by_cases c : chP A h (chS A h m x v k) = 0
    · exact ⟨k, by omega, by omega, c, fun i h3 h4 => by omega, fun i h3 h4 => by rw [show i = k by omega]; exact h2⟩
    · have h3 := chS_next hI hh h2 c
      obtain ⟨e, e1, e2, e3, e4, e5⟩ := ih (k + 1) (by omega) h3.1
      refine ⟨e, by omega, by omega, e3, fun i h5 h6 => ?_, fun i h5 h6 => ?_⟩
      · by_cases d : i = k
        · rw [d]; exact c
        · exact e4 i (by omega) h6
      · by_cases d : i = k
        · rw [d]; exact h2
        · exact e5 i (by omega) h6
/-- the chain's length less one -/
abbrev chN (A : xAs) (h m x v : Int) (e : Nat) : Prop := e ≤ 23 ∧ chP A h (chS A h m x v e) = 0 ∧ (∀ i, i < e → chP A h (chS A h m x v i) ≠ 0) ∧ ∀ i, i ≤ e → chOk A (chS A h m x v i)
theorem chN_ex {A : xAs} (hI : Inv A) {h m x v : Int} (hh : 0 ≤ h ∧ h ≤ 100) (hm : 0 ≤ m ∧ m < A iM 1) (hx : 0 ≤ x ∧ x < 8) (hv : 0 ≤ v ∧ v ≤ 1440) : ∃ e, chN A h m x v e := by
  have h1 := rk_b hI hm
  obtain ⟨e, e1, e2, e3, e4, e5⟩ := chEnd hI hh (m := m) (x := x) (v := v) 23 0 (by show rk A m ≤ _; omega) ⟨hm, hx, hv⟩
  exact ⟨e, by omega, e3, fun i hi => e4 i (by omega) hi, fun i hi => e5 i (by omega) hi⟩
theorem chN_uniq {A : xAs} {h m x v : Int} {e e' : Nat} (h1 : chN A h m x v e) (h2 : chN A h m x v e') : e = e' := by
  rcases Nat.lt_trichotomy e e' with c | c | c
  · exact absurd h1.2.1 (h2.2.2.1 e c)
  · exact c
  · exact absurd h2.2.1 (h1.2.2.1 e' c)
/-- what k payers have written -/
abbrev chWho (A : xAs) (h m x v : Int) (i : Nat) : Int := (chS A h m x v i).2.1
abbrev chMin (A : xAs) (h m x v : Int) (i : Nat) : Int := (chS A h m x v i).2.2 - chP A h (chS A h m x v i)
