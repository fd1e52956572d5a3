/-! takings: groups that are clear -/
def bN (S k : Nat) : Nat := S / 2 ^ k % 2
def bst (T : Nat → Int) (S : Nat) : Nat → Int
  | 0 => 0
  | k + 1 => if bN S k = 1 then max (bst T S k) (T (S - 2 ^ k)) else bst T S k
def gsum (b : Nat → Int) (S : Nat) : Nat → Int
  | 0 => 0
  | k + 1 => if bN S k = 1 then gsum b S k + b k else gsum b S k
def isT (b : Nat → Int) (T : Nat → Int) (k : Nat) : Prop := T 0 = 0 ∧ ∀ S, 1 ≤ S → S < k → T S = bst T S 8 + (if gsum b S 8 = 0 then 1 else 0)
theorem bt1_t : ((List.range 256).all fun S => (List.range 8).all fun p => S / 2 ^ p % 2 != 0 || (decide (S + 2 ^ p < 256) && (S + 2 ^ p) / 2 ^ p % 2 == 1 && (List.range 8).all fun q => q == p || (S + 2 ^ p) / 2 ^ q % 2 == S / 2 ^ q % 2)) = true := by decide +kernel
theorem bt2_t : ((List.range 256).all fun S => (List.range 8).all fun k => S / 2 ^ k % 2 != 1 || (decide (2 ^ k ≤ S) && (List.range 8).all fun q => q == k || (S - 2 ^ k) / 2 ^ q % 2 == S / 2 ^ q % 2)) = true := by decide +kernel
theorem bt1 (S : Nat) (hS : S < 256) (p : Nat) (hp : p < 8) (h0 : S / 2 ^ p % 2 = 0) : S + 2 ^ p < 256 ∧ (S + 2 ^ p) / 2 ^ p % 2 = 1 ∧ ∀ q, q < 8 → q ≠ p → (S + 2 ^ p) / 2 ^ q % 2 = S / 2 ^ q % 2 := by
  have t := bt1_t
  simp only [List.all_eq_true, List.mem_range, Bool.or_eq_true, Bool.and_eq_true, bne_iff_ne, beq_iff_eq, decide_eq_true_eq] at t
  rcases t S hS p hp with h | ⟨⟨h1, h2⟩, h3⟩
  · exact absurd h0 h
  · exact ⟨h1, h2, fun q hq hne => (h3 q hq).resolve_left hne⟩
theorem bt2 (S : Nat) (hS : S < 256) (k : Nat) (hk : k < 8) (h0 : S / 2 ^ k % 2 = 1) : 2 ^ k ≤ S ∧ ∀ q, q < 8 → q ≠ k → (S - 2 ^ k) / 2 ^ q % 2 = S / 2 ^ q % 2 := by
  have t := bt2_t
  simp only [List.all_eq_true, List.mem_range, Bool.or_eq_true, Bool.and_eq_true, bne_iff_ne, beq_iff_eq, decide_eq_true_eq] at t
  rcases t S hS k hk with h | ⟨h1, h3⟩
  · exact absurd h0 h
  · exact ⟨h1, fun q hq hne => (h3 q hq).resolve_left hne⟩
theorem bN_01 (S k : Nat) : bN S k = 0 ∨ bN S k = 1 := by unfold bN; omega
theorem two_pos (k : Nat) : 1 ≤ 2 ^ k := Nat.one_le_two_pow
theorem bst_c {T T' : Nat → Int} {S : Nat} (hS : S < 256) (h : ∀ Z, Z < S → T Z = T' Z) : ∀ k, k ≤ 8 → bst T S k = bst T' S k
  | 0, _ => rfl
  | k + 1, hk => by
    have ih := bst_c hS h k (by omega)
    show (if _ then _ else _) = (if _ then _ else _)
    by_cases c : bN S k = 1
    · have h1 := (bt2 S hS k (by omega) c).1
      have h2 := two_pos k
      rw [if_pos c, if_pos c, ih, h _ (by omega)]
    · rw [if_neg c, if_neg c, ih]
theorem bst_b {T : Nat → Int} {S : Nat} {B : Int} (hB : 0 ≤ B) (hS : S < 256) (h : ∀ Z, Z < S → 0 ≤ T Z ∧ T Z ≤ B) : ∀ k, k ≤ 8 → 0 ≤ bst T S k ∧ bst T S k ≤ B
  | 0, _ => ⟨Int.le_refl _, hB⟩
  | k + 1, hk => by
    have ih := bst_b hB hS h k (by omega)
    have e : bst T S (k + 1) = if bN S k = 1 then max (bst T S k) (T (S - 2 ^ k)) else bst T S k := rfl
    rw [e]
    by_cases c : bN S k = 1
    · have h1 := (bt2 S hS k (by omega) c).1
      have h2 := two_pos k
      have h3 := h (S - 2 ^ k) (by omega)
      rw [if_pos c]; omega
    · rw [if_neg c]; exact ih
theorem isT_b {b T : Nat → Int} {K : Nat} (hK : K ≤ 256) (h : isT b T K) : ∀ S, S < K → 0 ≤ T S ∧ T S ≤ S := by
  intro S
  induction S using Nat.strongRecOn with
  | ind S ih =>
    intro hS
    by_cases c : S = 0
    · subst c; rw [h.1]; omega
    · have h1 := h.2 S (by omega) hS
      have h2 := bst_b (T := T) (S := S) (B := (S : Int) - 1) (by omega) (by omega) (fun Z hZ => by have := ih Z hZ (by omega); omega) 8 (by omega)
      rw [h1]; split <;> omega
theorem isT_u {b T T' : Nat → Int} {K : Nat} (hK : K ≤ 256) (h : isT b T K) (h' : isT b T' K) : ∀ S, S < K → T S = T' S := by
  intro S
  induction S using Nat.strongRecOn with
  | ind S ih =>
    intro hS
    by_cases c : S = 0
    · subst c; rw [h.1, h'.1]
    · rw [h.2 S (by omega) hS, h'.2 S (by omega) hS, bst_c (by omega) (fun Z hZ => ih Z hZ (by omega)) 8 (by omega)]
def ubst (T : Nat → Int) (S : Nat) : Nat → Int
  | 0 => 0
  | k + 1 => if bN S k = 1 then max (ubst T S k) (T (S - 2 ^ k) + 1) else ubst T S k
theorem ubst_e {T : Nat → Int} {S : Nat} (hS : S < 256) (h : ∀ Z, Z < S → 0 ≤ T Z) : ∀ k, k ≤ 8 → (ubst T S k = bst T S k + 1 ∧ 0 ≤ bst T S k) ∨ (ubst T S k = 0 ∧ bst T S k = 0 ∧ ∀ q, q < k → bN S q = 0)
  | 0, _ => Or.inr ⟨rfl, rfl, fun q h => by omega⟩
  | k + 1, hk => by
    have ih := ubst_e hS h k (by omega)
    have e1 : ubst T S (k + 1) = if bN S k = 1 then max (ubst T S k) (T (S - 2 ^ k) + 1) else ubst T S k := rfl
    have e2 : bst T S (k + 1) = if bN S k = 1 then max (bst T S k) (T (S - 2 ^ k)) else bst T S k := rfl
    by_cases c : bN S k = 1
    · have h1 := (bt2 S hS k (by omega) c).1
      have h2 := two_pos k
      have h3 := h (S - 2 ^ k) (by omega)
      rw [if_pos c] at e1 e2
      left
      rcases ih with ⟨i1, i2⟩ | ⟨i1, i2, i3⟩
      · constructor <;> omega
      · constructor <;> omega
    · rw [if_neg c] at e1 e2
      rcases ih with ⟨i1, i2⟩ | ⟨i1, i2, i3⟩
      · left; constructor <;> omega
      · right
        refine ⟨by omega, by omega, fun q hq => ?_⟩
        by_cases d : q = k
        · subst d; rcases bN_01 S q with h | h
          · exact h
          · exact absurd h c
        · exact i3 q (by omega)
theorem bN_z {S : Nat} (hS : S < 256) (h : ∀ q, q < 8 → bN S q = 0) : S = 0 := by
  have h0 := h 0 (by omega); have h1 := h 1 (by omega); have h2 := h 2 (by omega); have h3 := h 3 (by omega)
  have h4 := h 4 (by omega); have h5 := h 5 (by omega); have h6 := h 6 (by omega); have h7 := h 7 (by omega)
  unfold bN at *
  simp only [Nat.reducePow] at *
  omega
theorem gsum_p {b : Nat → Int} {S p : Nat} (hS : S < 256) (hp : p < 8) (h0 : bN S p = 0) (hb : b p = 0) : ∀ k, k ≤ 8 → gsum b (S + 2 ^ p) k = gsum b S k
  | 0, _ => rfl
  | k + 1, hk => by
    have ih := gsum_p hS hp h0 hb k (by omega)
    have t := bt1 S hS p hp h0
    show (if _ then _ else _) = (if _ then _ else _)
    by_cases c : k = p
    · subst c
      rw [if_pos (show bN (S + 2 ^ k) k = 1 from t.2.1), if_neg (by omega), ih, hb, Int.add_zero]
    · rw [show bN (S + 2 ^ p) k = bN S k from t.2.2 k (by omega) c, ih]
/-- one more whose balance is 0 adds one group -/
theorem isT_add {b T : Nat → Int} (h : isT b T 256) {p : Nat} (hp : p < 8) (hb : b p = 0) : ∀ S, S < 256 → bN S p = 0 → T (S + 2 ^ p) = T S + 1 := by
  intro S
  induction S using Nat.strongRecOn with
  | ind S ih =>
    intro hS h0
    have t := bt1 S hS p hp h0
    have h2p := two_pos p
    have hB : ∀ Z, Z < 256 → 0 ≤ T Z := fun Z hZ => (isT_b (Nat.le_refl _) h Z hZ).1
    have key : ∀ k, k ≤ 8 → bst T (S + 2 ^ p) k = if p < k then max (T S) (ubst T S k) else ubst T S k := by
      intro k
      induction k with
      | zero => intro _; rw [if_neg (by omega)]; rfl
      | succ k ik =>
        intro hk
        have ik := ik (by omega)
        have e1 : bst T (S + 2 ^ p) (k + 1) = if bN (S + 2 ^ p) k = 1 then max (bst T (S + 2 ^ p) k) (T (S + 2 ^ p - 2 ^ k)) else bst T (S + 2 ^ p) k := rfl
        have e2 : ubst T S (k + 1) = if bN S k = 1 then max (ubst T S k) (T (S - 2 ^ k) + 1) else ubst T S k := rfl
        rw [e1, e2, ik]
        by_cases c : k = p
        · subst c
          rw [if_pos (show bN (S + 2 ^ k) k = 1 from t.2.1), if_neg (by omega), if_pos (by omega), if_neg (by omega), show S + 2 ^ k - 2 ^ k = S by omega]
          omega
        · rw [show bN (S + 2 ^ p) k = bN S k from t.2.2 k (by omega) c]
          by_cases d : bN S k = 1
          · have s1 := bt2 S hS k (by omega) d
            have s2 := two_pos k
            have s3 := ih (S - 2 ^ k) (by omega) (by omega) (by rw [show bN (S - 2 ^ k) p = bN S p from s1.2 p hp (by omega)]; exact h0)
            rw [if_pos d, if_pos d, show S + 2 ^ p - 2 ^ k = S - 2 ^ k + 2 ^ p by omega, s3]
            by_cases f : p < k
            · rw [if_pos f, if_pos (by omega)]; omega
            · rw [if_neg f, if_neg (by omega)]
          · rw [if_neg d, if_neg d]
            by_cases f : p < k
            · rw [if_pos f, if_pos (by omega)]
            · rw [if_neg f, if_neg (by omega)]
    have k8 := key 8 (by omega)
    rw [if_pos hp] at k8
    have e := h.2 (S + 2 ^ p) (by omega) t.1
    rw [gsum_p hS hp h0 hb 8 (by omega), k8] at e
    have u := ubst_e hS (fun Z hZ => hB Z (by omega)) 8 (by omega)
    by_cases c : S = 0
    · subst c
      have z : gsum b 0 8 = 0 := by
        have : ∀ k, gsum b 0 k = 0 := by
          intro k
          induction k with
          | zero => rfl
          | succ k ik => show (if _ then _ else _) = _; rw [if_neg (by unfold bN; rw [Nat.zero_div]; omega)]; exact ik
        exact this 8
      rw [if_pos z, h.1] at e
      rw [h.1]
      rcases u with ⟨u1, u2⟩ | ⟨u1, u2, u3⟩
      · exfalso
        have : ∀ k, ubst T 0 k = 0 := by
          intro k
          induction k with
          | zero => rfl
          | succ k ik => show (if _ then _ else _) = _; rw [if_neg (by unfold bN; rw [Nat.zero_div]; omega)]; exact ik
        have := this 8
        omega
      · omega
    · have e2 := h.2 S (by omega) hS
      rcases u with ⟨u1, u2⟩ | ⟨u1, u2, u3⟩
      · rw [e, u1, e2]; split <;> omega
      · exact absurd (bN_z hS u3) c
/-- filled up to all -/
def filN (S : Nat) : Nat → Nat
  | 0 => S
  | k + 1 => if S / 2 ^ k % 2 = 1 then filN S k else filN S k + 2 ^ k
theorem fil_tab : ∀ S, S < 256 → filN S 8 = 255 ∧ ∀ k, k < 8 → filN S k < 256 ∧ filN S k / 2 ^ k % 2 = S / 2 ^ k % 2 := by decide +kernel
def zer (S : Nat) : Nat → Int
  | 0 => 0
  | k + 1 => if bN S k = 1 then zer S k else zer S k + 1
theorem zer_e (S : Nat) : zer S 8 = 8 - pcN S := by
  unfold pcN
  simp only [zer, bN, Nat.reducePow, Nat.div_one]
  have h0 : S % 2 = 0 ∨ S % 2 = 1 := by omega
  have h1 : S / 2 % 2 = 0 ∨ S / 2 % 2 = 1 := by omega
  have h2 : S / 4 % 2 = 0 ∨ S / 4 % 2 = 1 := by omega
  have h3 : S / 8 % 2 = 0 ∨ S / 8 % 2 = 1 := by omega
  have h4 : S / 16 % 2 = 0 ∨ S / 16 % 2 = 1 := by omega
  have h5 : S / 32 % 2 = 0 ∨ S / 32 % 2 = 1 := by omega
  have h6 : S / 64 % 2 = 0 ∨ S / 64 % 2 = 1 := by omega
  have h7 : S / 128 % 2 = 0 ∨ S / 128 % 2 = 1 := by omega
  generalize S % 2 = x0 at *
  generalize S / 2 % 2 = x1 at *
  generalize S / 4 % 2 = x2 at *
  generalize S / 8 % 2 = x3 at *
  generalize S / 16 % 2 = x4 at *
  generalize S / 32 % 2 = x5 at *
  generalize S / 64 % 2 = x6 at *
  generalize S / 128 % 2 = x7 at *
  rcases h0 with rfl | rfl <;> rcases h1 with rfl | rfl <;> rcases h2 with rfl | rfl <;> rcases h3 with rfl | rfl <;> rcases h4 with rfl | rfl <;> rcases h5 with rfl | rfl <;> rcases h6 with rfl | rfl <;> rcases h7 with rfl | rfl <;> decide
theorem isT_fil {b T : Nat → Int} (h : isT b T 256) {S : Nat} (hS : S < 256) (hz : ∀ k, k < 8 → bN S k = 0 → b k = 0) : ∀ k, k ≤ 8 → T (filN S k) = T S + zer S k
  | 0, _ => (Int.add_zero _).symm
  | k + 1, hk => by
    have ih := isT_fil h hS hz k (by omega)
    have t := (fil_tab S hS).2 k (by omega)
    have e1 : filN S (k + 1) = if bN S k = 1 then filN S k else filN S k + 2 ^ k := rfl
    have e2 : zer S (k + 1) = if bN S k = 1 then zer S k else zer S k + 1 := rfl
    rw [e1, e2]
    by_cases c : bN S k = 1
    · rw [if_pos c, if_pos c]; exact ih
    · have c0 : bN S k = 0 := by rcases bN_01 S k with h | h
                                 · exact h
                                 · exact absurd h c
      rw [if_neg c, if_neg c, isT_add h (by omega) (hz k (by omega) c0) (filN S k) t.1 (t.2.trans c0), ih]
      omega
/-- the groups of all, out of those that owe or are owed -/
theorem groups_ok {b T T' : Nat → Int} (h : isT b T 256) (h' : isT b T' 256) {S : Nat} (hS : S < 256) (hz : ∀ k, k < 8 → bN S k = 0 → b k = 0) : 8 - T 255 = pcN S - T' S := by
  have h1 := isT_fil h hS hz 8 (by omega)
  rw [(fil_tab S hS).1, zer_e] at h1
  have h2 := isT_u (Nat.le_refl _) h h' S hS
  omega
