/-! called: what the days allow -/
def rkf (F c : Int → Int) (m : Nat) : Nat → Int
  | 0 => sumTo c m
  | k + 1 => min (rkf F c m k) (sumTo c k + F k)
theorem rkf_s {F c : Int → Int} {m k : Nat} : rkf F c m (k + 1) = min (rkf F c m k) (sumTo c k + F k) := rfl
theorem rkf_le0 {F c : Int → Int} {m : Nat} : ∀ k, rkf F c m k ≤ sumTo c m
  | 0 => Int.le_refl _
  | k + 1 => by have := rkf_le0 (F := F) (c := c) (m := m) k; rw [rkf_s]; omega
theorem rkf_le {F c : Int → Int} {m i : Nat} : ∀ k, i < k → rkf F c m k ≤ sumTo c i + F i
  | 0, h => by omega
  | k + 1, h => by
    rw [rkf_s]
    by_cases e : i = k
    · subst e; omega
    · have := rkf_le (F := F) (c := c) (m := m) (i := i) k (by omega); omega
theorem rkf_ge {F c : Int → Int} {m : Nat} {X : Int} (h0 : X ≤ sumTo c m) : ∀ k, (∀ i : Nat, i < k → X ≤ sumTo c i + F i) → X ≤ rkf F c m k
  | 0, _ => h0
  | k + 1, h => by
    have h1 := rkf_ge (F := F) h0 k (fun i hi => h i (by omega))
    have h2 := h k (by omega)
    rw [rkf_s]; omega
theorem rkf_m {F c c' : Int → Int} {m : Nat} (h : ∀ z : Int, 0 ≤ z → z < m → c z ≤ c' z) : rkf F c m m ≤ rkf F c' m m := by
  refine rkf_ge ?_ m (fun i hi => ?_)
  · have h1 := rkf_le0 (F := F) (c := c) (m := m) m
    have h2 := sum_le (k := m) h
    omega
  · have h1 := rkf_le (F := F) (c := c) (m := m) (i := i) m hi
    have h2 := sum_le (f := c) (g := c') (k := i) (fun z a b => h z a (by omega))
    omega
theorem rkf_c {F c c' : Int → Int} {m : Nat} (h : ∀ z : Int, 0 ≤ z → z < m → c z = c' z) : rkf F c m m = rkf F c' m m := by
  have h1 := rkf_m (F := F) (m := m) (fun z a b => Int.le_of_eq (h z a b))
  have h2 := rkf_m (F := F) (m := m) (fun z a b => Int.le_of_eq (h z a b).symm)
  omega
/-- u is used of c, f is left of F; what is not used is held by a day -/
def GI (F c u f : Int → Int) (m : Nat) : Prop := (∀ d : Nat, d < m → 0 ≤ u d ∧ u d ≤ c d) ∧ (∀ i : Nat, i < m → f i = F i - (sumTo u m - sumTo u i) ∧ 0 ≤ f i) ∧ ∀ d : Nat, d < m → u d = c d ∨ ∃ i : Nat, i ≤ d ∧ f i = 0
theorem nat_of {z : Int} (h : 0 ≤ z) : ∃ k : Nat, z = k := Int.eq_ofNat_of_zero_le h
theorem GI_rank {F c u f : Int → Int} {m : Nat} (h : GI F c u f m) : sumTo u m = rkf F c m m := by
  obtain ⟨h1, h2, h3⟩ := h
  have key : ∀ k, k ≤ m → (∀ d : Nat, d < k → u d = c d) ∨ ∃ i : Nat, i < k ∧ f i = 0 ∧ ∀ d : Nat, d < i → u d = c d := by
    intro k
    induction k with
    | zero => intro _; exact Or.inl (fun d hd => by omega)
    | succ k ih =>
      intro hk
      rcases ih (by omega) with h | ⟨i, i1, i2, i3⟩
      · rcases h3 k (by omega) with e | ⟨i, i1, i2⟩
        · left
          intro d hd
          by_cases c : d = k
          · subst c; exact e
          · exact h d (by omega)
        · exact Or.inr ⟨i, by omega, i2, fun d hd => h d (by omega)⟩
      · exact Or.inr ⟨i, by omega, i2, i3⟩
  have ul : ∀ k : Nat, k ≤ m → sumTo u k ≤ sumTo c k := fun k hk => sum_le (fun z a b => by
    obtain ⟨d, rfl⟩ := nat_of a
    exact (h1 d (by omega)).2)
  have ue : ∀ k : Nat, (∀ d : Nat, d < k → u d = c d) → sumTo u k = sumTo c k := fun k hk => sumTo_c (fun z a b => by
    obtain ⟨d, rfl⟩ := nat_of a
    exact hk d (by omega))
  have g1 : sumTo u m ≤ rkf F c m m := rkf_ge (ul m (Nat.le_refl _)) m (fun i hi => by
    have a1 := h2 i hi
    have a2 := ul i (by omega)
    omega)
  rcases key m (Nat.le_refl _) with e | ⟨i, i1, i2, i3⟩
  · have := ue m e
    have := rkf_le0 (F := F) (c := c) (m := m) m
    omega
  · have a1 := h2 i i1
    have a2 := ue i i3
    have a3 := rkf_le (F := F) (c := c) (m := m) m i1
    omega
theorem sumTo_at {u : Int → Int} {d : Nat} {w : Int} : ∀ k : Nat, sumTo (fun z => if z = d then u z + w else u z) k = sumTo u k + (if d < k then w else 0)
  | 0 => by rw [if_neg (by omega)]; rfl
  | k + 1 => by
    rw [sumTo_s, sumTo_s, sumTo_at k]
    by_cases c : d = k
    · rw [if_neg (by omega), if_pos (by omega), if_pos (by omega)]; omega
    · rw [if_neg (show ¬ (k : Int) = d by omega)]
      by_cases c2 : d < k
      · rw [if_pos c2, if_pos (by omega)]; omega
      · rw [if_neg c2, if_neg (by omega)]; omega
theorem GI_step {F c u f c' f' : Int → Int} {m : Nat} (h : GI F c u f m) {d : Nat} (hd : d < m) {r w : Int} (hw : 0 ≤ w ∧ w ≤ r) (hf : ∀ i : Nat, i ≤ d → w ≤ f i) (ht : w = r ∨ ∃ i : Nat, i ≤ d ∧ w = f i) (hc' : ∀ z : Nat, z < m → c' z = if z = d then c z + r else c z) (hf' : ∀ i : Nat, i < m → f' i = if i ≤ d then f i - w else f i) : ∃ u', GI F c' u' f' m ∧ sumTo u' m = sumTo u m + w := by
  obtain ⟨h1, h2, h3⟩ := h
  refine ⟨fun z => if z = d then u z + w else u z, ⟨fun e he => ?_, fun i hi => ?_, fun e he => ?_⟩, ?_⟩
  · show 0 ≤ (if (e : Int) = d then u e + w else u e) ∧ (if (e : Int) = d then u e + w else u e) ≤ c' e
    have a := h1 e he
    rw [hc' e he]
    by_cases q : e = d
    · rw [if_pos (by omega), if_pos q]; omega
    · rw [if_neg (by omega), if_neg q]; exact a
  · have a := h2 i hi
    rw [sumTo_at, sumTo_at, if_pos hd, hf' i hi]
    by_cases q : i ≤ d
    · have b := hf i q
      rw [if_pos q, if_neg (by omega)]; omega
    · rw [if_neg q, if_pos (by omega)]; omega
  · show (if (e : Int) = d then u e + w else u e) = c' e ∨ _
    rw [hc' e he]
    have tight : ∀ i : Nat, i ≤ e → f i = 0 → f' i = 0 := fun i i1 i2 => by
      rw [hf' i (by omega)]
      by_cases q : i ≤ d
      · have := hf i q; rw [if_pos q]; omega
      · rw [if_neg q]; exact i2
    by_cases q : e = d
    · subst q
      rw [if_pos rfl, if_pos rfl]
      rcases ht with t | ⟨i, i1, i2⟩
      · rcases h3 e he with b | ⟨i, i1, i2⟩
        · left; omega
        · exact Or.inr ⟨i, i1, tight i i1 i2⟩
      · exact Or.inr ⟨i, i1, by rw [hf' i (by omega), if_pos i1]; omega⟩
    · rw [if_neg (by omega), if_neg q]
      rcases h3 e he with b | ⟨i, i1, i2⟩
      · exact Or.inl b
      · exact Or.inr ⟨i, i1, tight i i1 i2⟩
  · rw [sumTo_at, if_pos hd]
theorem GI_c {F c c' u f : Int → Int} {m : Nat} (h : GI F c u f m) (e : ∀ d : Nat, d < m → c' d = c d) : GI F c' u f m :=
  ⟨fun d hd => by rw [e d hd]; exact h.1 d hd, h.2.1, fun d hd => by rw [e d hd]; exact h.2.2 d hd⟩
theorem GI_0 {F c f : Int → Int} {m : Nat} (hf : ∀ i : Nat, i < m → f i = F i ∧ 0 ≤ F i) (hc : ∀ d : Nat, d < m → c d = 0) : GI F c (fun _ => 0) f m := by
  refine ⟨fun d hd => by rw [hc d hd]; show 0 ≤ (0 : Int) ∧ (0 : Int) ≤ 0; omega, fun i hi => ?_, fun d hd => Or.inl (hc d hd).symm⟩
  rw [sumTo_zero, sumTo_zero, (hf i hi).1]
  have := (hf i hi).2
  omega
/-- the least of r and the first k -/
def mnF (r : Int) (f : Int → Int) : Nat → Int
  | 0 => r
  | k + 1 => min (mnF r f k) (f k)
theorem mnF_s {r : Int} {f : Int → Int} {k : Nat} : mnF r f (k + 1) = min (mnF r f k) (f k) := rfl
theorem mnF_ok {r : Int} {f : Int → Int} (hr : 0 ≤ r) : ∀ k : Nat, (∀ i : Nat, i < k → 0 ≤ f i) → (0 ≤ mnF r f k ∧ mnF r f k ≤ r) ∧ (∀ i : Nat, i < k → mnF r f k ≤ f i) ∧ (mnF r f k = r ∨ ∃ i : Nat, i < k ∧ mnF r f k = f i)
  | 0, _ => ⟨⟨hr, Int.le_refl _⟩, fun i hi => by omega, Or.inl rfl⟩
  | k + 1, h => by
    obtain ⟨i1, i2, i3⟩ := mnF_ok hr k (fun i hi => h i (by omega))
    have hk := h k (by omega)
    rw [mnF_s]
    refine ⟨by omega, fun i hi => ?_, ?_⟩
    · by_cases e : i = k
      · subst e; omega
      · have := i2 i (by omega); omega
    · by_cases e : f k ≤ mnF r f k
      · exact Or.inr ⟨k, by omega, by omega⟩
      · rcases i3 with q | ⟨i, q1, q2⟩
        · exact Or.inl (by omega)
        · exact Or.inr ⟨i, by omega, by omega⟩
/-- what hours allow on day d -/
def rmF (A : xAs) (y d h : Int) : Int := if d = 0 then 60 - A iM_tookIn (24 * y + h) else 60
def wF (A : xAs) (y h : Int) : Int := A iM_worthOf (24 * y + h)
def cWt (A : xAs) (y v : Int) (d : Int) : Int := sumTo (fun h => if v ≤ wF A y h then rmF A y d h else 0) 24
def FF (A : xAs) (y d : Int) : Int := sOw A (-1) y (A iM 0 + d)
def rkW (A : xAs) (y : Int) (m : Nat) (v : Int) : Int := rkf (FF A y) (cWt A y v) m m
def gainF (A : xAs) (y : Int) (m : Nat) : Int := sumTo (fun z => rkW A y m (z + 1)) 99
theorem rmF_b {A : xAs} (hI : Inv A) {y d h : Int} (hy : 0 ≤ y ∧ y < 8) (hh : 0 ≤ h ∧ h < 24) : 0 ≤ rmF A y d h ∧ rmF A y d h ≤ 60 := by
  have := hI.tookIn (24 * y + h) (by omega) (by omega)
  unfold rmF; split <;> omega
theorem wF_b {A : xAs} (hI : Inv A) {y h : Int} (hy : 0 ≤ y ∧ y < 8) (hh : 0 ≤ h ∧ h < 24) : 0 ≤ wF A y h ∧ wF A y h ≤ 99 := hI.worthOf (24 * y + h) (by omega) (by omega)
theorem FF_b {A : xAs} (hI : Inv A) {y d : Int} : 0 ≤ FF A y d ∧ FF A y d ≤ 86400 := sOw_b hI
theorem cWt_b {A : xAs} (hI : Inv A) {y v d : Int} (hy : 0 ≤ y ∧ y < 8) : 0 ≤ cWt A y v d := by
  refine (sumTo_b (B := 60) (k := 24) (fun h h1 h2 => ?_)).1
  have := rmF_b hI (d := d) hy ⟨h1, h2⟩
  show 0 ≤ (if v ≤ wF A y h then rmF A y d h else 0) ∧ (if v ≤ wF A y h then rmF A y d h else 0) ≤ 60
  split <;> omega
theorem cWt_m {A : xAs} (hI : Inv A) {y v v' d : Int} (hy : 0 ≤ y ∧ y < 8) (h : v ≤ v') : cWt A y v' d ≤ cWt A y v d := by
  refine sum_le (fun z a b => ?_)
  have := rmF_b hI (d := d) hy ⟨a, b⟩
  show (if v' ≤ wF A y z then rmF A y d z else 0) ≤ (if v ≤ wF A y z then rmF A y d z else 0)
  by_cases c : v' ≤ wF A y z
  · rw [if_pos c, if_pos (by omega)]; omega
  · rw [if_neg c]; split <;> omega
theorem rkW_b {A : xAs} (hI : Inv A) {y v : Int} {m : Nat} (hm : 1 ≤ m) (hy : 0 ≤ y ∧ y < 8) : 0 ≤ rkW A y m v ∧ rkW A y m v ≤ FF A y 0 := by
  constructor
  · refine rkf_ge ?_ m (fun i hi => ?_)
    · have := sum_le (f := fun _ => 0) (g := cWt A y v) (k := m) (fun z a b => cWt_b hI hy)
      rw [sumTo_zero] at this; exact this
    · have := sum_le (f := fun _ => 0) (g := cWt A y v) (k := i) (fun z a b => cWt_b hI hy)
      rw [sumTo_zero] at this
      have := FF_b hI (y := y) (d := i)
      omega
  · have := rkf_le (F := FF A y) (c := cWt A y v) (m := m) (i := 0) m (by omega)
    have e : sumTo (cWt A y v) 0 = 0 := rfl
    unfold rkW
    rw [e] at this
    have e2 : FF A y ((0 : Nat) : Int) = FF A y 0 := rfl
    omega
theorem rkW_m {A : xAs} (hI : Inv A) {y v v' : Int} {m : Nat} (hy : 0 ≤ y ∧ y < 8) (h : v ≤ v') : rkW A y m v' ≤ rkW A y m v := rkf_m (fun z a b => cWt_m hI hy h)
