/-! round: ways are measured -/
abbrev P8 (x : Int) : Prop := 0 ≤ x ∧ x < 8
abbrev SS : Type := (Int → Int) × (Int → Int)
def lnR (L : Int → Int) (x y : Int) : Int := if 0 < L (8 * y + x) then -1 else 1
def rmR (D L : Int → Int) (x y : Int) : Int := if 0 < L (8 * y + x) then L (8 * y + x) else D (8 * x + y) - L (8 * x + y)
def up1 (g : Int → Int) (y v : Int) : Int → Int := fun z => if z = y then v else g z
theorem up1_s {g : Int → Int} {y v : Int} : up1 g y v y = v := if_pos rfl
theorem up1_n {g : Int → Int} {y v z : Int} (h : z ≠ y) : up1 g y v z = g z := if_neg h
abbrev rxC (D L : Int → Int) (x y : Int) (s : SS) : Prop := s.1 x < 1000 ∧ 0 < rmR D L x y ∧ s.1 x + lnR L x y < s.1 y
def rxR (D L : Int → Int) (x y : Int) (s : SS) : SS := if rxC D L x y s then (up1 s.1 y (s.1 x + lnR L x y), up1 s.2 y x) else s
def rXR (D L : Int → Int) (x : Int) (s : SS) : Nat → SS
  | 0 => s
  | k + 1 => rxR D L x k (rXR D L x s k)
def rRR (D L : Int → Int) (s : SS) : Nat → SS
  | 0 => s
  | k + 1 => rXR D L k (rRR D L s k) 8
def rNR (D L : Int → Int) (s : SS) : Nat → SS
  | 0 => s
  | k + 1 => rRR D L (rNR D L s k) 8
def s0R (b : Int → Int) : SS := (fun p => if 0 < b p then 0 else 1000, fun _ => -1)
theorem lnR_b (L : Int → Int) (x y : Int) : lnR L x y = -1 ∨ lnR L x y = 1 := by unfold lnR; split <;> omega
theorem rXR_Q {D L : Int → Int} {x : Int} {Q : SS → Prop} (h : ∀ y s, P8 y → Q s → Q (rxR D L x y s)) {s : SS} (h0 : Q s) : ∀ k : Nat, k ≤ 8 → Q (rXR D L x s k)
  | 0, _ => h0
  | k + 1, hk => h _ _ ⟨by omega, by omega⟩ (rXR_Q h h0 k (by omega))
theorem rRR_Q {D L : Int → Int} {Q : SS → Prop} (h : ∀ x y s, P8 x → P8 y → Q s → Q (rxR D L x y s)) {s : SS} (h0 : Q s) : ∀ k : Nat, k ≤ 8 → Q (rRR D L s k)
  | 0, _ => h0
  | k + 1, hk => rXR_Q (fun y s hy hs => h k y s ⟨by omega, by omega⟩ hy hs) (rRR_Q h h0 k (by omega)) 8 (Nat.le_refl _)
theorem rNR_Q {D L : Int → Int} {Q : SS → Prop} (h : ∀ x y s, P8 x → P8 y → Q s → Q (rxR D L x y s)) {s : SS} (h0 : Q s) : ∀ k : Nat, Q (rNR D L s k)
  | 0 => h0
  | k + 1 => rRR_Q h (rNR_Q h h0 k) 8 (Nat.le_refl _)
/-- how far the numbers go, where one came from -/
def JR (D L b : Int → Int) (s : SS) : Prop := ∀ y, P8 y → (s.2 y = -1 ∧ s.1 y = (if 0 < b y then 0 else 1000)) ∨ (P8 (s.2 y) ∧ 0 < rmR D L (s.2 y) y ∧ s.1 (s.2 y) < 1000 ∧ s.1 (s.2 y) + lnR L (s.2 y) y ≤ s.1 y)
def BR (n : Int) (s : SS) : Prop := ∀ y, P8 y → -n ≤ s.1 y ∧ (s.1 y ≤ n ∨ s.1 y = 1000)
theorem BR_step {D L : Int → Int} {n : Int} {x y : Int} {s : SS} (hn : 0 ≤ n ∧ n < 900) (hx : P8 x) (h : BR n s) : BR (n + 1) (rxR D L x y s) := by
  unfold rxR
  intro z hz
  have hz2 := h z hz
  have hx2 := h x hx
  by_cases c : rxC D L x y s
  · rw [if_pos c]
    show -(n + 1) ≤ up1 s.1 y _ z ∧ (up1 s.1 y _ z ≤ n + 1 ∨ up1 s.1 y _ z = 1000)
    have c1 := c.1
    have hl := lnR_b L x y
    by_cases e : z = y
    · rw [e, up1_s]; omega
    · rw [up1_n e]; omega
  · rw [if_neg c]; omega
theorem BR_X {D L : Int → Int} {x : Int} (hx : P8 x) {n : Int} {s : SS} (h : BR n s) (hn : 0 ≤ n ∧ n + 8 < 900) : ∀ k : Nat, k ≤ 8 → BR (n + k) (rXR D L x s k)
  | 0, _ => by rw [show n + ((0 : Nat) : Int) = n by omega]; exact h
  | k + 1, hk => by
    have := BR_step (D := D) (L := L) (y := k) (by omega) hx (BR_X (D := D) (L := L) hx h hn k (by omega))
    rw [show n + ((k + 1 : Nat) : Int) = n + k + 1 by omega]; exact this
theorem BR_R {D L : Int → Int} {n : Int} {s : SS} (h : BR n s) (hn : 0 ≤ n ∧ n + 64 < 900) : ∀ k : Nat, k ≤ 8 → BR (n + 8 * k) (rRR D L s k)
  | 0, _ => by rw [show n + 8 * ((0 : Nat) : Int) = n by omega]; exact h
  | k + 1, hk => by
    have := BR_X (D := D) (L := L) (x := k) ⟨by omega, by omega⟩ (BR_R (D := D) (L := L) h hn k (by omega)) (by omega) 8 (by omega)
    rw [show n + 8 * ((k + 1 : Nat) : Int) = n + 8 * k + ((8 : Nat) : Int) by omega]; exact this
theorem BR_0 {b : Int → Int} : BR 0 (s0R b) := fun y _ => by
  show -0 ≤ (if 0 < b y then (0 : Int) else 1000) ∧ ((if 0 < b y then (0 : Int) else 1000) ≤ 0 ∨ (if 0 < b y then (0 : Int) else 1000) = 1000)
  split <;> omega
theorem BR_N {D L b : Int → Int} : ∀ k : Nat, k ≤ 8 → BR (64 * k) (rNR D L (s0R b) k)
  | 0, _ => BR_0
  | k + 1, hk => by
    have := BR_R (D := D) (L := L) (BR_N (D := D) (L := L) (b := b) k (by omega)) (by omega) 8 (by omega)
    rw [show 64 * ((k + 1 : Nat) : Int) = 64 * k + 8 * ((8 : Nat) : Int) by omega]; exact this
/-- no way to oneself -/
abbrev dgR (D L : Int → Int) : Prop := ∀ x, P8 x → rmR D L x x ≤ 0
theorem JR_step {D L b : Int → Int} (hd : dgR D L) {x y : Int} {s : SS} (hx : P8 x) (hy : P8 y) (h : JR D L b s ∧ ∀ z, P8 z → s.1 z ≤ 1000) : JR D L b (rxR D L x y s) ∧ ∀ z, P8 z → (rxR D L x y s).1 z ≤ 1000 := by
  obtain ⟨h1, h2⟩ := h
  unfold rxR
  by_cases c : rxC D L x y s
  · rw [if_pos c]
    obtain ⟨c1, c2, c3⟩ := c
    have hne : x ≠ y := fun e => by have := hd x hx; rw [e] at c2 this; omega
    have hy2 := h2 y hy
    constructor
    · intro z hz
      show (up1 s.2 y x z = -1 ∧ up1 s.1 y _ z = _) ∨ (P8 (up1 s.2 y x z) ∧ 0 < rmR D L (up1 s.2 y x z) z ∧ up1 s.1 y _ (up1 s.2 y x z) < 1000 ∧ up1 s.1 y _ (up1 s.2 y x z) + lnR L (up1 s.2 y x z) z ≤ up1 s.1 y _ z)
      by_cases e : z = y
      · subst e
        right
        rw [up1_s, up1_s, up1_n hne]
        exact ⟨hx, c2, c1, Int.le_refl _⟩
      · rw [up1_n e, up1_n e]
        rcases h1 z hz with q | ⟨q1, q2, q3, q4⟩
        · exact Or.inl q
        · right
          by_cases e2 : s.2 z = y
          · rw [e2, up1_s]
            rw [e2] at q1 q2 q3 q4
            exact ⟨q1, q2, by omega, by omega⟩
          · rw [up1_n e2]; exact ⟨q1, q2, q3, q4⟩
    · intro z hz
      show up1 s.1 y _ z ≤ 1000
      by_cases e : z = y
      · rw [e, up1_s]; omega
      · rw [up1_n e]; exact h2 z hz
  · rw [if_neg c]; exact ⟨h1, h2⟩
/-- a potential: no round gains -/
def ptR (D L p : Int → Int) : Prop := ∀ x y, P8 x → P8 y → 0 < rmR D L x y → p y ≤ p x + lnR L x y
def KR (p : Int → Int) (s : SS) : Prop := ∃ (T : Int → Int) (t : Int), (∀ v, P8 v → T v < t) ∧ ∀ y, P8 y → s.2 y ≠ -1 → (s.1 (s.2 y) - p (s.2 y) < s.1 y - p y ∨ (s.1 (s.2 y) - p (s.2 y) = s.1 y - p y ∧ T (s.2 y) < T y))
theorem KR_step {D L p : Int → Int} (hd : dgR D L) (hp : ptR D L p) {x y : Int} {s : SS} (hx : P8 x) (hy : P8 y) (h : KR p s) : KR p (rxR D L x y s) := by
  unfold rxR
  by_cases c : rxC D L x y s
  · rw [if_pos c]
    obtain ⟨c1, c2, c3⟩ := c
    obtain ⟨T, t, h1, h2⟩ := h
    have hne : x ≠ y := fun e => by have := hd x hx; rw [e] at c2 this; omega
    have hpp := hp x y hx hy c2
    refine ⟨up1 T y t, t + 1, fun v hv => ?_, fun z hz => ?_⟩
    · by_cases e : v = y
      · rw [e, up1_s]; omega
      · rw [up1_n e]; have := h1 v hv; omega
    · show up1 s.2 y x z ≠ -1 → (up1 s.1 y _ (up1 s.2 y x z) - p (up1 s.2 y x z) < up1 s.1 y _ z - p z ∨ (up1 s.1 y _ (up1 s.2 y x z) - p (up1 s.2 y x z) = up1 s.1 y _ z - p z ∧ up1 T y t (up1 s.2 y x z) < up1 T y t z))
      by_cases e : z = y
      · subst e
        rw [up1_s, up1_s, up1_s, up1_n hne, up1_n hne]
        intro _
        have := h1 x hx
        omega
      · rw [up1_n e, up1_n e, up1_n e]
        intro hf
        have q := h2 z hz hf
        by_cases e2 : s.2 z = y
        · rw [e2, up1_s]
          rw [e2] at q
          omega
        · rw [up1_n e2, up1_n e2]; exact q
  · rw [if_neg c]; exact h
theorem KR_0 {p b : Int → Int} : KR p (s0R b) := ⟨fun _ => 0, 1, fun _ _ => by show (0 : Int) < 1; omega, fun y _ h => absurd rfl h⟩
theorem JR_0 {D L b : Int → Int} : JR D L b (s0R b) ∧ ∀ z, P8 z → (s0R b).1 z ≤ 1000 :=
  ⟨fun y _ => Or.inl ⟨rfl, rfl⟩, fun z _ => by show (if 0 < b z then (0 : Int) else 1000) ≤ 1000; split <;> omega⟩
/-- those that are done -/
def CR (D L p : Int → Int) (S : Int → Int) (s : SS) : Prop := (∀ x, P8 x → S x = 1 → s.1 x < 1000 ∧ ∀ y, P8 y → 0 < rmR D L x y → s.1 y ≤ s.1 x + lnR L x y) ∧ ∀ x z, P8 x → P8 z → S x = 1 → S z ≠ 1 → s.1 z < 1000 → s.1 x - p x ≤ s.1 z - p z
theorem CR_out {D L p S : Int → Int} (hp : ptR D L p) {x y : Int} {s : SS} (hx : P8 x) (hy : P8 y) (h : CR D L p S s) (c : rxC D L x y s) : S x ≠ 1 ∧ S y ≠ 1 := by
  obtain ⟨c1, c2, c3⟩ := c
  have hpp := hp x y hx hy c2
  have a : S x ≠ 1 := fun e => by have := (h.1 x hx e).2 y hy c2; omega
  exact ⟨a, fun e => by have := h.2 y x hy hx e a c1; omega⟩
theorem CR_step {D L p S : Int → Int} (hp : ptR D L p) {x y : Int} {s : SS} (hx : P8 x) (hy : P8 y) (h : CR D L p S s) : CR D L p S (rxR D L x y s) := by
  unfold rxR
  by_cases c : rxC D L x y s
  · rw [if_pos c]
    have ho := CR_out hp hx hy h c
    obtain ⟨c1, c2, c3⟩ := c
    have hpp := hp x y hx hy c2
    constructor
    · intro w hw hS
      have hwy : w ≠ y := fun e => ho.2 (e ▸ hS)
      have hh := h.1 w hw hS
      show up1 s.1 y _ w < 1000 ∧ ∀ z, P8 z → 0 < rmR D L w z → up1 s.1 y _ z ≤ up1 s.1 y _ w + lnR L w z
      rw [up1_n hwy]
      refine ⟨hh.1, fun z hz hr => ?_⟩
      have hz2 := hh.2 z hz hr
      by_cases e : z = y
      · subst e; rw [up1_s]; omega
      · rw [up1_n e]; exact hz2
    · intro w z hw hz hS hSz
      have hwy : w ≠ y := fun e => ho.2 (e ▸ hS)
      show up1 s.1 y _ z < 1000 → up1 s.1 y _ w - p w ≤ up1 s.1 y _ z - p z
      rw [up1_n hwy]
      by_cases e : z = y
      · subst e; rw [up1_s]
        intro _
        have := h.2 w x hw hx hS ho.1 c1
        omega
      · rw [up1_n e]; exact h.2 w z hw hz hS hSz
  · rw [if_neg c]; exact h
/-- the next one that is done -/
def QR (D L p S : Int → Int) (q v : Int) (s : SS) : Prop := CR D L p S s ∧ s.1 q = v ∧ ∀ z, P8 z → S z ≠ 1 → s.1 z < 1000 → v - p q ≤ s.1 z - p z
theorem QR_step {D L p S : Int → Int} (hp : ptR D L p) {q v : Int} (hq : P8 q) (hSq : S q ≠ 1) (hv : v < 1000) {x y : Int} {s : SS} (hx : P8 x) (hy : P8 y) (h : QR D L p S q v s) : QR D L p S q v (rxR D L x y s) := by
  obtain ⟨h1, h2, h3⟩ := h
  refine ⟨CR_step hp hx hy h1, ?_⟩
  unfold rxR
  by_cases c : rxC D L x y s
  · rw [if_pos c]
    have ho := CR_out hp hx hy h1 c
    obtain ⟨c1, c2, c3⟩ := c
    have hpp := hp x y hx hy c2
    have hxx := h3 x hx ho.1 c1
    constructor
    · show up1 s.1 y _ q = v
      by_cases e : q = y
      · subst e; exfalso; omega
      · rw [up1_n e]; exact h2
    · intro z hz hSz
      show up1 s.1 y _ z < 1000 → v - p q ≤ up1 s.1 y _ z - p z
      by_cases e : z = y
      · subst e; rw [up1_s]; omega
      · rw [up1_n e]; exact h3 z hz hSz
  · rw [if_neg c]; exact ⟨h2, h3⟩
def RQ (D L : Int → Int) (q v : Int) (s : SS) : Prop := ∀ y, P8 y → 0 < rmR D L q y → s.1 y ≤ v + lnR L q y
theorem rxR_le {D L : Int → Int} {x y : Int} {s : SS} (z : Int) : (rxR D L x y s).1 z ≤ s.1 z := by
  unfold rxR
  by_cases c : rxC D L x y s
  · rw [if_pos c]
    show up1 s.1 y _ z ≤ _
    by_cases e : z = y
    · subst e; rw [up1_s]; have := c.2.2; omega
    · rw [up1_n e]; exact Int.le_refl _
  · rw [if_neg c]; exact Int.le_refl _
theorem RQ_step {D L : Int → Int} {q v x y : Int} {s : SS} (h : RQ D L q v s) : RQ D L q v (rxR D L x y s) := fun z hz hr => Int.le_trans (rxR_le z) (h z hz hr)
theorem QR_round {D L p S : Int → Int} (hp : ptR D L p) {q v : Int} (hq : P8 q) (hSq : S q ≠ 1) (hv : v < 1000) {s : SS} (h : QR D L p S q v s) : QR D L p S q v (rRR D L s 8) ∧ RQ D L q v (rRR D L s 8) := by
  have key : ∀ k : Nat, k ≤ 8 → QR D L p S q v (rRR D L s k) ∧ (q < k → RQ D L q v (rRR D L s k)) := by
    intro k
    induction k with
    | zero => intro _; exact ⟨h, fun h => by omega⟩
    | succ k ih =>
      intro hk
      obtain ⟨i1, i2⟩ := ih (by omega)
      have hkk : P8 (k : Int) := ⟨by omega, by omega⟩
      refine ⟨rXR_Q (fun y s hy hs => QR_step hp hq hSq hv hkk hy hs) i1 8 (Nat.le_refl _), fun hqk => ?_⟩
      by_cases e : q = k
      · have hx : ∀ j : Nat, j ≤ 8 → QR D L p S q v (rXR D L k (rRR D L s k) j) ∧ ∀ y : Int, 0 ≤ y → y < j → 0 < rmR D L q y → (rXR D L k (rRR D L s k) j).1 y ≤ v + lnR L q y := by
          intro j
          induction j with
          | zero => intro _; exact ⟨i1, fun y a b => by omega⟩
          | succ j ij =>
            intro hj
            obtain ⟨j1, j2⟩ := ij (by omega)
            refine ⟨QR_step hp hq hSq hv hkk ⟨by omega, by omega⟩ j1, fun y a b hr => ?_⟩
            by_cases e2 : y = j
            · show (rxR D L k j (rXR D L k (rRR D L s k) j)).1 y ≤ _
              unfold rxR
              have jq := j1.2.1
              rw [e] at hr jq ⊢
              by_cases c : rxC D L k j (rXR D L k (rRR D L s k) j)
              · rw [if_pos c]
                show up1 _ _ _ y ≤ _
                rw [e2, up1_s, jq]; exact Int.le_refl _
              · rw [if_neg c]
                rw [e2] at hr ⊢
                have : ¬ (rXR D L k (rRR D L s k) j).1 k + lnR L k j < (rXR D L k (rRR D L s k) j).1 j := fun h => c ⟨by omega, hr, h⟩
                omega
            · exact Int.le_trans (rxR_le y) (j2 y a (by omega) hr)
        intro y hy hr
        exact (hx 8 (Nat.le_refl _)).2 y hy.1 hy.2 hr
      · exact rXR_Q (fun y s hy hs => RQ_step hs) (i2 (by omega)) 8 (Nat.le_refl _)
  have := key 8 (Nat.le_refl _)
  exact ⟨this.1, this.2 hq.2⟩
def cvR (D L : Int → Int) (s : SS) : Prop := ∀ x y, P8 x → P8 y → s.1 x < 1000 → 0 < rmR D L x y → s.1 y ≤ s.1 x + lnR L x y
theorem cvR_x {D L : Int → Int} {s : SS} (h : cvR D L s) {x y : Int} (hx : P8 x) (hy : P8 y) : rxR D L x y s = s := by
  unfold rxR
  rw [if_neg (fun c => by have := h x y hx hy c.1 c.2.1; have := c.2.2; omega)]
theorem cvR_R {D L : Int → Int} {s : SS} (h : cvR D L s) : rRR D L s 8 = s := by
  refine rRR_Q (Q := fun t => t = s) (fun x y t hx hy ht => ?_) rfl 8 (Nat.le_refl _)
  rw [ht]; exact cvR_x h hx hy
theorem ex_min {P : Nat → Prop} {g : Nat → Int} : ∀ n : Nat, (∃ k, k < n ∧ P k) → ∃ k, k < n ∧ P k ∧ ∀ j, j < n → P j → g k ≤ g j
  | 0, ⟨k, h, _⟩ => by omega
  | n + 1, ⟨k, h1, h2⟩ => by
    by_cases c : ∃ k, k < n ∧ P k
    · obtain ⟨m, m1, m2, m3⟩ := ex_min (P := P) (g := g) n c
      by_cases d : P n ∧ g n < g m
      · refine ⟨n, by omega, d.1, fun j hj hP => ?_⟩
        by_cases e : j = n
        · rw [e]; exact Int.le_refl _
        · have := m3 j (by omega) hP; omega
      · refine ⟨m, by omega, m2, fun j hj hP => ?_⟩
        by_cases e : j = n
        · subst e
          by_cases f : g j < g m
          · exact absurd ⟨hP, f⟩ d
          · omega
        · exact m3 j (by omega) hP
    · have e : k = n := by
        by_cases e : k = n
        · exact e
        · exact absurd ⟨k, by omega, h2⟩ c
      subst e
      refine ⟨k, by omega, h2, fun j hj hP => ?_⟩
      by_cases e : j = k
      · rw [e]; exact Int.le_refl _
      · exact absurd ⟨j, by omega, hP⟩ c
/-- after k rounds k are done -/
theorem CR_rounds {D L p b : Int → Int} (hp : ptR D L p) : ∀ k : Nat, cvR D L (rNR D L (s0R b) k) ∨ ∃ S : Int → Int, (∀ x, P8 x → S x = 0 ∨ S x = 1) ∧ CR D L p S (rNR D L (s0R b) k) ∧ (k : Int) ≤ sumTo S 8
  | 0 => Or.inr ⟨fun _ => 0, fun _ _ => Or.inl rfl, ⟨fun x _ h => absurd (show (0 : Int) = 1 from h) (by decide), fun x z _ _ h => absurd (show (0 : Int) = 1 from h) (by decide)⟩, by rw [sumTo_zero]; exact Int.le_refl _⟩
  | k + 1 => by
    have e : rNR D L (s0R b) (k + 1) = rRR D L (rNR D L (s0R b) k) 8 := rfl
    rw [e]
    rcases CR_rounds (b := b) hp k with h | ⟨S, h1, h2, h3⟩
    · left; rw [cvR_R h]; exact h
    · generalize rNR D L (s0R b) k = s at h2
      by_cases c : ∃ q : Nat, q < 8 ∧ (S q ≠ 1 ∧ s.1 q < 1000)
      · right
        obtain ⟨q, q1, q2, q3⟩ := ex_min (g := fun q : Nat => s.1 q - p q) 8 c
        have hq : P8 (q : Int) := ⟨by omega, by omega⟩
        have hQ : QR D L p S q (s.1 q) s := ⟨h2, rfl, fun z hz a b => by
          obtain ⟨j, rfl⟩ := nat_of hz.1
          exact q3 j (by have := hz.2; omega) ⟨a, b⟩⟩
        obtain ⟨r1, r2⟩ := QR_round hp hq q2.1 q2.2 hQ
        generalize rRR D L s 8 = s' at r1 r2
        refine ⟨up1 S q 1, fun x hx => ?_, ⟨fun x hx hS => ?_, fun x z hx hz hS hSz hz1 => ?_⟩, ?_⟩
        · by_cases e : x = q
          · rw [e, up1_s]; exact Or.inr rfl
          · rw [up1_n e]; exact h1 x hx
        · by_cases e : x = q
          · subst e
            rw [r1.2.1]
            exact ⟨q2.2, fun y hy hr => r2 y hy hr⟩
          · rw [up1_n e] at hS; exact r1.1.1 x hx hS
        · have hzq : z ≠ q := fun e => hSz (by rw [e, up1_s])
          rw [up1_n hzq] at hSz
          by_cases e : x = q
          · subst e
            have := r1.2.2 z hz hSz hz1
            rw [r1.2.1]; exact this
          · rw [up1_n e] at hS; exact r1.1.2 x z hx hz hS hSz hz1
        · have h0 : S q = 0 := (h1 q hq).resolve_right q2.1
          have hs := sumTo_at (u := S) (d := q) (w := 1) 8
          rw [if_pos q1] at hs
          have : sumTo (up1 S q 1) 8 = sumTo (fun z => if z = (q : Int) then S z + 1 else S z) 8 := sumTo_c (fun z a b => by
            unfold up1
            by_cases e : z = q
            · rw [if_pos e, if_pos e, e, h0]; rfl
            · rw [if_neg e, if_neg e])
          rw [this, hs]
          have e2 : ((k + 1 : Nat) : Int) = k + 1 := rfl
          omega
      · left
        have hc : cvR D L s := fun x y hx hy hx1 hr => by
          obtain ⟨j, rfl⟩ := nat_of hx.1
          by_cases e : S j = 1
          · exact (h2.1 j hx e).2 y hy hr
          · exact absurd ⟨j, by have := hx.2; omega, e, hx1⟩ c
        rw [cvR_R hc]; exact hc
theorem cvR_ok {D L p b : Int → Int} (hp : ptR D L p) : cvR D L (rNR D L (s0R b) 8) := by
  rcases CR_rounds (b := b) hp 8 with h | ⟨S, h1, h2, h3⟩
  · exact h
  · intro x y hx hy hx1 hr
    by_cases e : S x = 1
    · exact (h2.1 x hx e).2 y hy hr
    · exfalso
      have h0 : S x = 0 := (h1 x hx).resolve_right e
      have := sum_lt (f := S) (g := fun _ => 1) (w := x) hx.1 (by show S x < 1; omega) (k := 8) hx.2 (fun z a b => by
        rcases h1 z ⟨a, b⟩ with h | h
        · show S z ≤ 1; omega
        · show S z ≤ 1; omega)
      have k8 := sumTo_k (f := fun _ => (1 : Int)) (v := 1) 8 (fun _ _ _ => rfl)
      omega
