/-! round: a sending -/
def pnR (f : Int → Int) (y : Int) : Nat → Int
  | 0 => y
  | k + 1 => f (pnR f y k)
abbrev pthR (f : Int → Int) (y : Int) (e : Nat) : Prop := e ≤ 7 ∧ f (pnR f y e) = -1 ∧ (∀ i, i < e → f (pnR f y i) ≠ -1) ∧ (∀ i, i ≤ e → P8 (pnR f y i)) ∧ ∀ i j, i < j → j ≤ e → pnR f y i ≠ pnR f y j
abbrev lsR (g T : Int → Int) (u v : Int) : Prop := g u < g v ∨ (g u = g v ∧ T u < T v)
def rkR (g T : Int → Int) (v : Int) : Int := sumTo (fun u => if lsR g T u v then 1 else 0) 8
theorem rkR_b {g T : Int → Int} {v : Int} (hv : P8 v) : 0 ≤ rkR g T v ∧ rkR g T v ≤ 7 := by
  have h0 := (sumTo_b (f := fun u => if lsR g T u v then 1 else 0) (B := 1) (k := 8) (fun z _ _ => by show 0 ≤ (if lsR g T z v then (1 : Int) else 0) ∧ (if lsR g T z v then (1 : Int) else 0) ≤ 1; split <;> omega)).1
  have h1 := sum_lt (f := fun u => if lsR g T u v then (1 : Int) else 0) (g := fun _ => 1) (w := v) hv.1 (by show (if lsR g T v v then (1 : Int) else 0) < 1; rw [if_neg (by omega)]; omega) (k := 8) hv.2 (fun z _ _ => by show (if lsR g T z v then (1 : Int) else 0) ≤ 1; split <;> omega)
  have k8 := sumTo_k (f := fun _ => (1 : Int)) (v := 1) 8 (fun _ _ _ => rfl)
  unfold rkR
  omega
theorem rkR_lt {g T : Int → Int} {u v : Int} (hu : P8 u) (h : lsR g T u v) : rkR g T u < rkR g T v := by
  unfold rkR
  refine sum_lt (w := u) hu.1 ?_ hu.2 (fun z _ _ => ?_)
  · show (if lsR g T u u then (1 : Int) else 0) < (if lsR g T u v then (1 : Int) else 0)
    rw [if_neg (by omega), if_pos h]; omega
  · show (if lsR g T z u then (1 : Int) else 0) ≤ (if lsR g T z v then (1 : Int) else 0)
    by_cases c : lsR g T z u
    · rw [if_pos c, if_pos (by omega)]; omega
    · rw [if_neg c]; split <;> omega
theorem pth_end {f r : Int → Int} {y : Int} (h : ∀ v, P8 v → f v = -1 ∨ (P8 (f v) ∧ r (f v) < r v)) (hb : ∀ v, P8 v → 0 ≤ r v) : ∀ (j k : Nat), r (pnR f y k) ≤ j → P8 (pnR f y k) → ∃ e, k ≤ e ∧ e ≤ k + j ∧ f (pnR f y e) = -1 ∧ (∀ i, k ≤ i → i < e → f (pnR f y i) ≠ -1 ∧ r (pnR f y (i + 1)) < r (pnR f y i)) ∧ ∀ i, k ≤ i → i ≤ e → P8 (pnR f y i) := by
  intro j
  induction j with
  | zero =>
    intro k h1 h2
    rcases h _ h2 with c | ⟨c1, c2⟩
    · exact ⟨k, by omega, by omega, c, fun i a b => by omega, fun i a b => by rw [show i = k by omega]; exact h2⟩
    · have := hb _ c1; omega
  | succ j ih =>
    intro k h1 h2
    rcases h _ h2 with c | ⟨c1, c2⟩
    · exact ⟨k, by omega, by omega, c, fun i a b => by omega, fun i a b => by rw [show i = k by omega]; exact h2⟩
    · obtain ⟨e, e1, e2, e3, e4, e5⟩ := ih (k + 1) (by show r (f (pnR f y k)) ≤ j; omega) c1
      refine ⟨e, by omega, by omega, e3, fun i a b => ?_, fun i a b => ?_⟩
      · by_cases d : i = k
        · subst d
          exact ⟨fun q => by rw [q] at c1; have := c1.1; omega, c2⟩
        · exact e4 i (by omega) b
      · by_cases d : i = k
        · rw [d]; exact h2
        · exact e5 i (by omega) b
theorem pth_ok {D L b p : Int → Int} {s : SS} (hJ : JR D L b s) (hK : KR p s) {y : Int} (hy : P8 y) : ∃ e, pthR s.2 y e := by
  obtain ⟨T, t, h1, h2⟩ := hK
  have hr : ∀ v, P8 v → s.2 v = -1 ∨ (P8 (s.2 v) ∧ rkR (fun z => s.1 z - p z) T (s.2 v) < rkR (fun z => s.1 z - p z) T v) := fun v hv => by
    rcases hJ v hv with c | ⟨c1, _⟩
    · exact Or.inl c.1
    · right
      refine ⟨c1, rkR_lt c1 (h2 v hv (fun q => by rw [q] at c1; have := c1.1; omega))⟩
  obtain ⟨e, e1, e2, e3, e4, e5⟩ := pth_end (f := s.2) (r := rkR (fun z => s.1 z - p z) T) (y := y) hr (fun v hv => (rkR_b hv).1) 7 0 (rkR_b hy).2 hy
  refine ⟨e, by omega, e3, fun i hi => (e4 i (by omega) hi).1, fun i hi => e5 i (by omega) hi, fun i j hij hj => ?_⟩
  have mono : ∀ j : Nat, i < j → j ≤ e → rkR (fun z => s.1 z - p z) T (pnR s.2 y j) < rkR (fun z => s.1 z - p z) T (pnR s.2 y i) := by
    intro j
    induction j with
    | zero => intro h _; omega
    | succ j ij =>
      intro h1' h2'
      have a := (e4 j (by omega) (by omega)).2
      by_cases c : i = j
      · subst c; exact a
      · have := ij (by omega) (by omega); omega
  intro q
  have := mono j hij hj
  rw [q] at this
  omega
/-- one way is used -/
def psR (M : Int → Int) (x y m : Int) : Int → Int := if 0 < M (8 * y + x) then up1 M (8 * y + x) (M (8 * y + x) - m) else up1 M (8 * x + y) (M (8 * x + y) + m)
abbrev okL (D M : Int → Int) : Prop := ∀ z, 0 ≤ z → z < 64 → 0 ≤ M z ∧ M z ≤ D z ∧ D z ≤ 86400
theorem sumTo_up1 {M : Int → Int} {z v : Int} {n : Nat} (hz : 0 ≤ z ∧ z < n) : sumTo (up1 M z v) n = sumTo M n + (v - M z) := by
  obtain ⟨k, rfl⟩ := nat_of hz.1
  have h := sumTo_at (u := M) (d := k) (w := v - M k) n
  rw [if_pos (by omega)] at h
  rw [← h]
  refine sumTo_c (fun w a b => ?_)
  unfold up1
  by_cases e : w = k
  · rw [if_pos e, if_pos e, e]; omega
  · rw [if_neg e, if_neg e]
theorem ps_ok {D M p : Int → Int} (hM : okL D M) (hd : dgR D M) (hp : ptR D M p) {x y m : Int} (hx : P8 x) (hy : P8 y) (hm : 1 ≤ m ∧ m ≤ rmR D M x y) (ht : p y = p x + lnR M x y) : okL D (psR M x y m) ∧ ptR D (psR M x y m) p ∧ sumTo (psR M x y m) 64 = sumTo M 64 + m * lnR M x y ∧ (∀ x' y', P8 x' → P8 y' → ¬ (x' = x ∧ y' = y) → ¬ (x' = y ∧ y' = x) → rmR D (psR M x y m) x' y' = rmR D M x' y' ∧ lnR (psR M x y m) x' y' = lnR M x' y') ∧ dgR D (psR M x y m) := by
  have hne : x ≠ y := fun e => by have := hd x hx; rw [e] at this hm; omega
  have b1 := hM (8 * y + x) (by omega) (by omega)
  have b2 := hM (8 * x + y) (by omega) (by omega)
  have oth : ∀ z, z ≠ 8 * y + x → z ≠ 8 * x + y → psR M x y m z = M z := fun z h1 h2 => by
    unfold psR; split
    · exact up1_n h1
    · exact up1_n h2
  have pr : ∀ x' y', P8 x' → P8 y' → ¬ (x' = x ∧ y' = y) → ¬ (x' = y ∧ y' = x) → rmR D (psR M x y m) x' y' = rmR D M x' y' ∧ lnR (psR M x y m) x' y' = lnR M x' y' := fun x' y' hx' hy' h1 h2 => by
    have e1 := oth (8 * y' + x') (by omega) (by omega)
    have e2 := oth (8 * x' + y') (by omega) (by omega)
    unfold rmR lnR
    rw [e1, e2]
    exact ⟨rfl, rfl⟩
  have dg : dgR D (psR M x y m) := fun z hz => by rw [(pr z z hz hz (by omega) (by omega)).1]; exact hd z hz
  -- the two of the pair
  have two : (0 < M (8 * y + x) ∧ M (8 * x + y) = 0 ∧ psR M x y m (8 * y + x) = M (8 * y + x) - m ∧ psR M x y m (8 * x + y) = 0 ∧ m ≤ M (8 * y + x) ∧ lnR M x y = -1) ∨ (M (8 * y + x) = 0 ∧ psR M x y m (8 * y + x) = 0 ∧ psR M x y m (8 * x + y) = M (8 * x + y) + m ∧ M (8 * x + y) + m ≤ D (8 * x + y) ∧ lnR M x y = 1) := by
    by_cases c : 0 < M (8 * y + x)
    · left
      have l1 : lnR M x y = -1 := if_pos c
      have r1 : rmR D M x y = M (8 * y + x) := if_pos c
      have z0 : M (8 * x + y) = 0 := by
        by_cases c2 : 0 < M (8 * x + y)
        · have l2 : lnR M y x = -1 := if_pos c2
          have r2 : rmR D M y x = M (8 * x + y) := if_pos c2
          have := hp y x hy hx (by omega)
          omega
        · omega
      refine ⟨c, z0, ?_, ?_, by omega, l1⟩
      · unfold psR; rw [if_pos c, up1_s]
      · unfold psR; rw [if_pos c, up1_n (by omega)]; exact z0
    · right
      have l1 : lnR M x y = 1 := if_neg c
      have r1 : rmR D M x y = D (8 * x + y) - M (8 * x + y) := if_neg c
      refine ⟨by omega, ?_, ?_, by omega, l1⟩
      · unfold psR; rw [if_neg c, up1_n (by omega)]; omega
      · unfold psR; rw [if_neg c, up1_s]
  refine ⟨fun z h1 h2 => ?_, fun x' y' hx' hy' hr => ?_, ?_, pr, dg⟩
  · have bz := hM z h1 h2
    by_cases e1 : z = 8 * y + x
    · subst e1; omega
    · by_cases e2 : z = 8 * x + y
      · subst e2; omega
      · rw [oth z e1 e2]; exact bz
  · by_cases c1 : x' = x ∧ y' = y
    · obtain ⟨rfl, rfl⟩ := c1
      unfold lnR
      rcases two with q | q
      · split <;> omega
      · rw [if_neg (by omega)]; omega
    · by_cases c2 : x' = y ∧ y' = x
      · obtain ⟨rfl, rfl⟩ := c2
        unfold lnR
        rcases two with q | q
        · rw [if_neg (by omega)]; omega
        · rw [if_pos (by omega)]; omega
      · have := pr x' y' hx' hy' c1 c2
        rw [this.1] at hr
        rw [this.2]; exact hp x' y' hx' hy' hr
  · unfold psR
    rcases two with ⟨q1, q2, q3, q4, q5, q6⟩ | ⟨q1, q2, q3, q4, q5⟩
    · rw [if_pos q1, sumTo_up1 (by omega), q6]; omega
    · rw [if_neg (by omega), sumTo_up1 (by omega), q5]; omega
def mvR (f : Int → Int) (y m : Int) (M : Int → Int) : Nat → (Int → Int)
  | 0 => M
  | k + 1 => psR (mvR f y m M k) (f (pnR f y k)) (pnR f y k) m
theorem mv_ok {D L p f : Int → Int} (hL : okL D L) (hd : dgR D L) (hp : ptR D L p) {y m : Int} {e : Nat} (he : pthR f y e) (hm : 1 ≤ m) (hr : ∀ i, i < e → m ≤ rmR D L (pnR f y (i + 1)) (pnR f y i) ∧ p (pnR f y i) = p (pnR f y (i + 1)) + lnR L (pnR f y (i + 1)) (pnR f y i)) : ∀ k, k ≤ e → okL D (mvR f y m L k) ∧ dgR D (mvR f y m L k) ∧ ptR D (mvR f y m L k) p ∧ (∀ i, k ≤ i → i < e → rmR D (mvR f y m L k) (pnR f y (i + 1)) (pnR f y i) = rmR D L (pnR f y (i + 1)) (pnR f y i) ∧ lnR (mvR f y m L k) (pnR f y (i + 1)) (pnR f y i) = lnR L (pnR f y (i + 1)) (pnR f y i)) ∧ sumTo (mvR f y m L k) 64 = sumTo L 64 + m * (p y - p (pnR f y k))
  | 0, _ => ⟨hL, hd, hp, fun i _ _ => ⟨rfl, rfl⟩, by show sumTo L 64 = sumTo L 64 + m * (p y - p y); rw [Int.sub_self, Int.mul_zero]; omega⟩
  | k + 1, hk => by
    obtain ⟨i1, i2, i3, i4, i5⟩ := mv_ok hL hd hp he hm hr k (by omega)
    obtain ⟨e1, e2, e3, e4, e5⟩ := he
    have hrk := hr k (by omega)
    have h4 := i4 k (Nat.le_refl _) (by omega)
    have px := e4 (k + 1) (by omega)
    have py := e4 k (by omega)
    obtain ⟨j1, j2, j3, j4, j5⟩ := ps_ok i1 i2 i3 (x := pnR f y (k + 1)) (y := pnR f y k) (m := m) px py (by rw [h4.1]; exact ⟨hm, hrk.1⟩) (by rw [h4.2]; exact hrk.2)
    have em : mvR f y m L (k + 1) = psR (mvR f y m L k) (pnR f y (k + 1)) (pnR f y k) m := rfl
    rw [em]
    refine ⟨j1, j5, j2, fun i a b => ?_, ?_⟩
    · have d1 := e5 k i (by omega) (by omega)
      have d2 := e5 (k + 1) (i + 1) (by omega) (by omega)
      have d3 := e5 k (i + 1) (by omega) (by omega)
      have q := j4 (pnR f y (i + 1)) (pnR f y i) (e4 (i + 1) (by omega)) (e4 i (by omega)) (fun h => d2 h.1.symm) (fun h => d3 h.1.symm)
      have r := i4 i (by omega) b
      exact ⟨q.1.trans r.1, q.2.trans r.2⟩
    · rw [j3, i5, h4.2]
      have t := hrk.2
      have t2 : lnR L (pnR f y (k + 1)) (pnR f y k) = p (pnR f y k) - p (pnR f y (k + 1)) := by omega
      rw [t2, Int.mul_sub, Int.mul_sub, Int.mul_sub]; omega
/-- the least room along -/
def mnR (D L f : Int → Int) (y m : Int) : Nat → Int
  | 0 => m
  | k + 1 => min (mnR D L f y m k) (rmR D L (f (pnR f y k)) (pnR f y k))
theorem mnR_ok {D L f : Int → Int} {y m : Int} (hm : 1 ≤ m) : ∀ k : Nat, (∀ i, i < k → 1 ≤ rmR D L (f (pnR f y i)) (pnR f y i)) → (1 ≤ mnR D L f y m k ∧ mnR D L f y m k ≤ m) ∧ ∀ i, i < k → mnR D L f y m k ≤ rmR D L (f (pnR f y i)) (pnR f y i)
  | 0, _ => ⟨⟨hm, Int.le_refl _⟩, fun i h => by omega⟩
  | k + 1, h => by
    obtain ⟨i1, i2⟩ := mnR_ok hm k (fun i hi => h i (by omega))
    have hk := h k (by omega)
    have e : mnR D L f y m (k + 1) = min (mnR D L f y m k) (rmR D L (f (pnR f y k)) (pnR f y k)) := rfl
    rw [e]
    refine ⟨by omega, fun i hi => ?_⟩
    by_cases c : i = k
    · subst c; omega
    · have := i2 i (by omega); omega
/-- the nearest one that is owed -/
def ntR (b d : Int → Int) : Nat → Int
  | 0 => -1
  | k + 1 => if b k < 0 ∧ d k < 1000 ∧ (ntR b d k = -1 ∨ d k < d (ntR b d k)) then (k : Int) else ntR b d k
theorem ntR_ok {b d : Int → Int} : ∀ k : Nat, (-1 ≤ ntR b d k ∧ ntR b d k < k) ∧ (ntR b d k ≠ -1 → b (ntR b d k) < 0 ∧ d (ntR b d k) < 1000)
  | 0 => ⟨⟨Int.le_refl _, by show (-1 : Int) < ((0 : Nat) : Int); omega⟩, fun h => absurd rfl h⟩
  | k + 1 => by
    obtain ⟨i1, i2⟩ := ntR_ok (b := b) (d := d) k
    have e : ntR b d (k + 1) = if b k < 0 ∧ d k < 1000 ∧ (ntR b d k = -1 ∨ d k < d (ntR b d k)) then (k : Int) else ntR b d k := rfl
    rw [e]
    by_cases c : b k < 0 ∧ d k < 1000 ∧ (ntR b d k = -1 ∨ d k < d (ntR b d k))
    · rw [if_pos c]; exact ⟨by omega, fun _ => ⟨c.1, c.2.1⟩⟩
    · rw [if_neg c]; exact ⟨by omega, i2⟩
theorem ex_K {g : Int → Int} {B : Int} : ∀ n : Nat, ∃ K : Int, ∀ x : Int, 0 ≤ x → x < n → B ≤ K + g x
  | 0 => ⟨0, fun x a b => by omega⟩
  | n + 1 => by
    obtain ⟨K, h⟩ := ex_K (g := g) (B := B) n
    refine ⟨max K (B - g n), fun x a b => ?_⟩
    by_cases c : x = n
    · subst c; omega
    · have := h x a (by omega); omega
/-- the town's debts, as round goes on -/
def PI (D L b : Int → Int) : Prop := okL D L ∧ dgR D L ∧ (∃ p, ptR D L p) ∧ ∀ x, P8 x → -86400 ≤ b x ∧ b x ≤ 86400
def wB (b : Int → Int) : Int := sumTo (fun x => max (b x) 0) 8
def meaR (D L b : Int → Int) : SS := rNR D L (s0R b) 8
theorem mea_ok {D L b : Int → Int} (h : PI D L b) : (JR D L b (meaR D L b) ∧ ∀ z, P8 z → (meaR D L b).1 z ≤ 1000) ∧ BR 512 (meaR D L b) ∧ cvR D L (meaR D L b) ∧ ∃ p, ptR D L p ∧ KR p (meaR D L b) := by
  obtain ⟨h1, h2, ⟨p, h3⟩, h4⟩ := h
  have a1 := rNR_Q (D := D) (L := L) (Q := fun s => JR D L b s ∧ ∀ z, P8 z → s.1 z ≤ 1000) (fun x y s hx hy hs => JR_step h2 hx hy hs) JR_0 8
  have a2 := rNR_Q (D := D) (L := L) (Q := KR p) (fun x y s hx hy hs => KR_step h2 h3 hx hy hs) (KR_0 (b := b)) 8
  have a3 := BR_N (D := D) (L := L) (b := b) 8 (Nat.le_refl _)
  have a4 := cvR_ok (b := b) h3
  rw [show 64 * ((8 : Nat) : Int) = 512 by omega] at a3
  obtain ⟨t, ht⟩ : ∃ t, t = rNR D L (s0R b) 8 := ⟨_, rfl⟩
  rw [← ht] at a1 a2 a3 a4
  unfold meaR
  rw [← ht]
  exact ⟨a1, a3, a4, p, h3, a2⟩
def bsR (b : Int → Int) (r y m : Int) : Int → Int := up1 (up1 b r (b r - m)) y ((up1 b r (b r - m)) y + m)
theorem send_ok {D L b : Int → Int} (h : PI D L b) {y : Int} (hy : P8 y) (hb : b y < 0) (hd : (meaR D L b).1 y < 1000) : ∃ e, pthR (meaR D L b).2 y e ∧ 1 ≤ e ∧ ∀ m, m = min (mnR D L (meaR D L b).2 y (-b y) e) (b (pnR (meaR D L b).2 y e)) → (1 ≤ m ∧ m ≤ 86400 ∧ m ≤ -b y ∧ m ≤ b (pnR (meaR D L b).2 y e) ∧ (∀ i, i < e → m ≤ rmR D L (pnR (meaR D L b).2 y (i + 1)) (pnR (meaR D L b).2 y i))) ∧ PI D (mvR (meaR D L b).2 y m L e) (bsR b (pnR (meaR D L b).2 y e) y m) ∧ wB (bsR b (pnR (meaR D L b).2 y e) y m) + 1 ≤ wB b ∧ sumTo (mvR (meaR D L b).2 y m L e) 64 = sumTo L 64 + (meaR D L b).1 y * m := by
  obtain ⟨⟨hJ, hle⟩, hB, hcv, p, hp, hK⟩ := mea_ok h
  obtain ⟨hL, hdg, _, hbb⟩ := h
  generalize meaR D L b = s at *
  obtain ⟨e, he⟩ := pth_ok hJ hK hy
  obtain ⟨e1, e2, e3, e4, e5⟩ := id he
  -- all on the way are reached
  have reach : ∀ i, i ≤ e → s.1 (pnR s.2 y i) < 1000 := by
    intro i
    induction i with
    | zero => intro _; exact hd
    | succ i ih =>
      intro hi
      rcases hJ _ (e4 i (by omega)) with q | ⟨q1, q2, q3, q4⟩
      · exact absurd q.1 (e3 i (by omega))
      · exact q3
  have edge : ∀ i, i < e → 0 < rmR D L (pnR s.2 y (i + 1)) (pnR s.2 y i) ∧ s.1 (pnR s.2 y i) = s.1 (pnR s.2 y (i + 1)) + lnR L (pnR s.2 y (i + 1)) (pnR s.2 y i) := fun i hi => by
    rcases hJ _ (e4 i (by omega)) with q | ⟨q1, q2, q3, q4⟩
    · exact absurd q.1 (e3 i hi)
    · have := hcv (pnR s.2 y (i + 1)) (pnR s.2 y i) q1 (e4 i (by omega)) q3 q2
      exact ⟨q2, by show s.1 (pnR s.2 y i) = s.1 (s.2 (pnR s.2 y i)) + _; have : s.1 (pnR s.2 y i) ≤ s.1 (s.2 (pnR s.2 y i)) + lnR L (s.2 (pnR s.2 y i)) (pnR s.2 y i) := this; show _ = _ + lnR L (s.2 (pnR s.2 y i)) (pnR s.2 y i); omega⟩
  have root : s.1 (pnR s.2 y e) = 0 ∧ 0 < b (pnR s.2 y e) := by
    have r := reach e (Nat.le_refl _)
    rcases hJ _ (e4 e (Nat.le_refl _)) with q | ⟨q1, _⟩
    · by_cases c : 0 < b (pnR s.2 y e)
      · rw [if_pos c] at q; exact ⟨q.2, c⟩
      · rw [if_neg c] at q; omega
    · rw [e2] at q1; have := q1.1; omega
  have he1 : 1 ≤ e := by
    by_cases c : e = 0
    · subst c
      have : 0 < b y := root.2
      omega
    · omega
  refine ⟨e, he, he1, fun m hm => ?_⟩
  have hmn := mnR_ok (D := D) (L := L) (f := s.2) (y := y) (m := -b y) (by omega) e (fun i hi => (edge i hi).1)
  have hby := hbb y hy
  have m1 : 1 ≤ m ∧ m ≤ -b y ∧ m ≤ b (pnR s.2 y e) := by omega
  have m2 : ∀ i, i < e → m ≤ rmR D L (pnR s.2 y (i + 1)) (pnR s.2 y i) := fun i hi => by have : mnR D L s.2 y (-b y) e ≤ rmR D L (pnR s.2 y (i + 1)) (pnR s.2 y i) := hmn.2 i hi; omega
  obtain ⟨K, hKK⟩ := ex_K (g := p) (B := 2000) 8
  have hpsi : ptR D L (fun v => if s.1 v < 1000 then s.1 v else K + p v) := fun u v hu hv hr => by
    show (if s.1 v < 1000 then s.1 v else K + p v) ≤ (if s.1 u < 1000 then s.1 u else K + p u) + lnR L u v
    have hl := lnR_b L u v
    have bu := hB u hu
    have bv := hB v hv
    have ku := hKK u hu.1 hu.2
    have pp := hp u v hu hv hr
    by_cases c : s.1 u < 1000
    · have := hcv u v hu hv c hr
      rw [if_pos c, if_pos (by omega)]; exact this
    · rw [if_neg c]
      by_cases c2 : s.1 v < 1000
      · rw [if_pos c2]; omega
      · rw [if_neg c2]; omega
  have psi_r : ∀ i, i ≤ e → (fun v => if s.1 v < 1000 then s.1 v else K + p v) (pnR s.2 y i) = s.1 (pnR s.2 y i) := fun i hi => if_pos (reach i hi)
  obtain ⟨k1, k2, k3, k4, k5⟩ := mv_ok hL hdg hpsi he m1.1 (fun i hi => ⟨m2 i hi, by rw [if_pos (reach i (by omega)), if_pos (reach (i + 1) (by omega))]; exact (edge i hi).2⟩) e (Nat.le_refl _)
  have hry : pnR s.2 y e ≠ y := fun q => e5 0 e he1 (Nat.le_refl _) q.symm
  have hrb := e4 e (Nat.le_refl _)
  have hrbb := hbb _ hrb
  refine ⟨⟨m1.1, by omega, m1.2.1, m1.2.2, m2⟩, ⟨k1, k2, ⟨_, k3⟩, fun x hx => ?_⟩, ?_, ?_⟩
  · have := hbb x hx
    unfold bsR
    by_cases c : x = y
    · rw [c, up1_s, up1_n (Ne.symm hry)]; omega
    · rw [up1_n c]
      by_cases c2 : x = pnR s.2 y e
      · rw [c2, up1_s]; omega
      · rw [up1_n c2]; exact this
  · have w1 : sumTo (fun x => max (bsR b (pnR s.2 y e) y m x) 0) 8 = sumTo (up1 (fun x => max (b x) 0) (pnR s.2 y e) (b (pnR s.2 y e) - m)) 8 := sumTo_c (fun x a c' => by
      show max (bsR b (pnR s.2 y e) y m x) 0 = up1 _ _ _ x
      unfold bsR
      by_cases c : x = y
      · rw [c, up1_s, up1_n (Ne.symm hry), up1_n (Ne.symm hry)]; show _ = max (b y) 0; omega
      · rw [up1_n c]
        by_cases c2 : x = pnR s.2 y e
        · rw [c2, up1_s, up1_s]; omega
        · rw [up1_n c2, up1_n c2])
    unfold wB
    rw [w1, sumTo_up1 (by omega)]
    show _ + (b (pnR s.2 y e) - m - max (b (pnR s.2 y e)) 0) + 1 ≤ _
    omega
  · rw [k5]
    rw [if_pos (reach e (Nat.le_refl _)), if_pos hd, root.1, Int.sub_zero, Int.mul_comm]
