/-! a piece of the plain model's codes reckons a value -/
def SegR (c : Int → Int) (a b : Int) (φ : Ph) : Prop := 0 ≤ a ∧ a < b ∧ ∀ (e : Int) (F : Nat → Int) (μ : xm) (k : Int), (∀ z, a ≤ z → z < b → gi μ iM_codes z = c z) → HFr μ F → 0 ≤ k → k ≤ a → b ≤ e → e ≤ 220 → match φ F with
  | some v => ∃ m ν, m ≤ (b - a).toNat ∧ St (bdR e) m (j32 k, j32 a, μ) (j32 (k + 1), j32 b, ν) ∧ (∀ o, o ≠ iM_stack → gi ν o = gi μ o) ∧ (∀ z, 0 ≤ z → z < k → gi ν iM_stack z = gi μ iM_stack z) ∧ gi ν iM_stack k = v.toInt
  | none => ∃ ν, (∀ n, (b - a).toNat < n → xloop n (bdR e) (j32 k, j32 a, μ) = some (.inr (j32 0, ν))) ∧ ∀ o, o ≠ iM_stack → gi ν o = gi μ o
theorem SegR.congr {c c' : Int → Int} {a b : Int} {φ : Ph} (h : SegR c a b φ) (hc : ∀ z, a ≤ z → z < b → c' z = c z) : SegR c' a b φ :=
  ⟨h.1, h.2.1, fun e F μ k h1 h2 h3 h4 h5 h6 => h.2.2 e F μ k (fun z a b => (h1 z a b).trans (hc z a b)) h2 h3 h4 h5 h6⟩
theorem SegR.keep {c c' : Int → Int} {a b : Int} {φ : Ph} (h : SegR c a b φ) {n : Int} (hc : ∀ z, 0 ≤ z → z < n → c' z = c z) (hb : b ≤ n) : SegR c' a b φ :=
  h.congr fun z a1 b1 => hc z (Int.le_trans h.1 a1) (by omega)
theorem HFr.of {μ ν : xm} {F : Nat → Int} (h : HFr μ F) (e : ∀ o, o ≠ iM_stack → gi ν o = gi μ o) : HFr ν F := fun i hi => by rw [e iM_facts (by decide)]; exact h i hi
theorem SegR.num {c : Int → Int} {a v : Int} (ha : 0 ≤ a) (hv : 0 ≤ v ∧ v ≤ 99999) (hc : c a = wd 0 v) : SegR c a (a + 1) (fun _ => some (j32 v)) := by
  refine ⟨ha, by omega, fun e F μ k h1 h2 h3 h4 h5 h6 => ?_⟩
  refine ⟨1, wr μ iM_stack k v, by omega, St.one (bR_num ⟨ha, by omega, h6⟩ ⟨h3, by omega⟩ hv ((h1 a (by omega) (by omega)).trans hc)), fun o ho => gi_wr_f ho, fun z z0 z1 => gi_wr_z ⟨h3, z0, by omega⟩, ?_⟩
  rw [gi_wr (by omega), toInt_j32 (by omega) (by omega)]
theorem SegR.fact {c : Int → Int} {a : Int} {i : Nat} (ha : 0 ≤ a) (hi : i < 12) (hc : c a = wd 1 i) : SegR c a (a + 1) (fun F => some (j32 (F i))) := by
  refine ⟨ha, by omega, fun e F μ k h1 h2 h3 h4 h5 h6 => ?_⟩
  have lo := gi_lo μ iM_facts i
  have hh := gi_hi μ iM_facts i
  rw [h2 i hi] at lo hh
  refine ⟨1, wr μ iM_stack k (F i), by omega, St.one (bR_fact ⟨ha, by omega, h6⟩ ⟨h3, by omega⟩ hi h2 ((h1 a (by omega) (by omega)).trans hc)), fun o ho => gi_wr_f ho, fun z z0 z1 => gi_wr_z ⟨h3, z0, by omega⟩, ?_⟩
  rw [gi_wr ⟨lo, hh⟩, toInt_j32 lo hh]
/-- the kinds of the codes -/
def kO (op : Int) : Int := if op = 43 then 2 else if op = 45 then 3 else if op = 42 then 4 else if op = 47 then 5 else 6
def kQ (op : Int) : Int := if op = 60 then 7 else if op = 62 then 8 else 9
theorem St.halt {α β : Type} {b : α → Option (α ⊕ β)} {m L : Nat} {a a' : α} {r : Option β} (h : St b m a a') (hL : ∀ n, L < n → xloop n b a' = r) {K : Nat} (hK : m + L ≤ K) : ∀ n, K < n → xloop n b a = r := fun n hn => by
  rw [show n = (n - m) + m by omega, h (n - m)]
  exact hL _ (by omega)
theorem halt_1 {α β : Type} {b : α → Option (α ⊕ β)} {a : α} {r : β} (h : b a = some (.inr r)) : ∀ n, 0 < n → xloop n b a = some r := fun n hn => by
  obtain ⟨m, rfl⟩ : ∃ m, n = m + 1 := ⟨n - 1, by omega⟩
  unfold xloop
  rw [h]
theorem SegR.bin {c : Int → Int} {a b d K : Int} {φ ψ χ : Ph} (h1 : SegR c a b φ) (h2 : SegR c b d ψ) (hK : 2 ≤ K ∧ K ≤ 9) (hc : c d = wd K 0) (hχ : ∀ F, χ F = (φ F).bind fun x => (ψ F).bind fun y => if (K = 5 ∨ K = 6) ∧ y = 0 then none else fX12_reckon (j32 K) x y) (hs : ∀ x y, ¬((K = 5 ∨ K = 6) ∧ y = 0) → ∃ w, fX12_reckon (j32 K) x y = some w) : SegR c a (d + 1) χ := by
  obtain ⟨p1, p2, p3⟩ := h1
  obtain ⟨q1, q2, q3⟩ := h2
  refine ⟨p1, by omega, fun e F μ k g1 g2 g3 g4 g5 g6 => ?_⟩
  have r := p3 e F μ k (fun z a b => g1 z a (by omega)) g2 g3 g4 (by omega) g6
  rw [hχ F]
  cases hφ : φ F with
  | none =>
    rw [hφ] at r
    obtain ⟨ν, r1, r2⟩ := r
    exact ⟨ν, fun n hn => r1 n (by omega), r2⟩
  | some x =>
    rw [hφ] at r
    obtain ⟨m, ν, r1, r2, r3, r4, r5⟩ := r
    have u := q3 e F ν (k + 1) (fun z a b => by rw [r3 _ (by decide)]; exact g1 z (by omega) (by omega)) (g2.of r3) (by omega) (by omega) (by omega) g6
    cases hψ : ψ F with
    | none =>
      rw [hψ] at u
      obtain ⟨ρ, u1, u2⟩ := u
      exact ⟨ρ, St.halt r2 u1 (by omega), fun o ho => (u2 o ho).trans (r3 o ho)⟩
    | some y =>
      rw [hψ] at u
      obtain ⟨l, ρ, u1, u2, u3, u4, u5⟩ := u
      have hg : ∀ o, o ≠ iM_stack → gi ρ o = gi μ o := fun o ho => (u3 o ho).trans (r3 o ho)
      have ex : j32 (gi ρ iM_stack k) = x := by rw [u4 k g3 (by omega), r5, j32_toInt]
      have ey : j32 (gi ρ iM_stack (k + 1)) = y := by rw [u5, j32_toInt]
      have st := bR_bin (e := e) (a := d) (k := k) (K := K) (μ := ρ) ⟨by omega, by omega, g6⟩ ⟨g3, by omega⟩ hK (by rw [hg _ (by decide), g1 d (by omega) (by omega)]; exact hc)
      rw [ex, ey, u5] at st
      have y0 : y.toInt = 0 ↔ y = 0 := ⟨fun h => Int32.toInt_inj.mp (h.trans rfl), fun h => by rw [h]; rfl⟩
      show match (if (K = 5 ∨ K = 6) ∧ y = 0 then none else fX12_reckon (j32 K) x y) with | some v => _ | none => _
      by_cases cz : (K = 5 ∨ K = 6) ∧ y = 0
      · rw [if_pos ⟨cz.1, y0.mpr cz.2⟩] at st
        rw [if_pos cz]
        exact ⟨ρ, St.halt (r2.trans u2) (halt_1 st) (by omega), hg⟩
      · rw [if_neg (fun h => cz ⟨h.1, y0.mp h.2⟩)] at st
        rw [if_neg cz]
        obtain ⟨w, hw⟩ := hs x y cz
        rw [hw] at st ⊢
        refine ⟨m + l + 1, wr ρ iM_stack k w.toInt, by omega, (r2.trans u2).trans (St.one st), fun o ho => by rw [gi_wr_f ho]; exact hg o ho, fun z z0 z1 => ?_, gi_wr ⟨Int32.le_toInt w, Int32.toInt_lt w⟩⟩
        rw [gi_wr_z ⟨g3, z0, by omega⟩, u4 z z0 (by omega), r4 z z0 z1]
theorem SegR.op {c : Int → Int} {a b d w : Int} {φ ψ : Ph} (h1 : SegR c a b φ) (h2 : SegR c b d ψ) (hw : isOp w) (hc : c d = wd (kO w) 0) : SegR c a (d + 1) (ph2 w φ ψ) := by
  refine SegR.bin h1 h2 ?_ hc ?_ ?_
  · rcases hw with rfl | rfl | rfl | rfl | rfl <;> decide
  · intro F
    show (φ F).bind _ = (φ F).bind _
    congr 1; funext x
    congr 1; funext y
    rcases hw with rfl | rfl | rfl | rfl | rfl
    · rfl
    · rfl
    · rfl
    · show xdiv x y = if ((5 : Int) = 5 ∨ (5 : Int) = 6) ∧ y = 0 then none else xbd (xdiv x y) fun v1 => some v1
      unfold xdiv
      by_cases c : y = 0
      · rw [if_pos c, if_pos ⟨Or.inl rfl, c⟩]
      · rw [if_neg c, if_neg (fun h => c h.2)]; rfl
    · show xrem x y = if ((6 : Int) = 5 ∨ (6 : Int) = 6) ∧ y = 0 then none else xbd (xrem x y) fun v1 => some v1
      unfold xrem
      by_cases c : y = 0
      · rw [if_pos c, if_pos ⟨Or.inr rfl, c⟩]
      · rw [if_neg c, if_neg (fun h => c h.2)]; rfl
  · intro x y hn
    rcases hw with rfl | rfl | rfl | rfl | rfl
    · exact ⟨_, rfl⟩
    · exact ⟨_, rfl⟩
    · exact ⟨_, rfl⟩
    · have c : ¬ y = 0 := fun c => hn ⟨Or.inl rfl, c⟩
      refine ⟨x / y, ?_⟩
      show xbd (xdiv x y) (fun v1 => some v1) = _
      unfold xdiv
      rw [if_neg c]; rfl
    · have c : ¬ y = 0 := fun c => hn ⟨Or.inr rfl, c⟩
      refine ⟨x - x / y * y, ?_⟩
      show xbd (xrem x y) (fun v1 => some v1) = _
      unfold xrem
      rw [if_neg c]; rfl
theorem SegR.cm {c : Int → Int} {a b d w : Int} {φ ψ : Ph} (h1 : SegR c a b φ) (h2 : SegR c b d ψ) (hw : isCm w) (hc : c d = wd (kQ w) 0) : SegR c a (d + 1) (bo (phc w φ ψ)) := by
  have key : ∀ x y : Int32, fX12_reckon (j32 (kQ w)) x y = some (if cmpv w x y = true then 1 else 0) := by
    intro x y
    rcases hw with rfl | rfl | rfl
    · show (if y ≤ x then some (0 : Int32) else some 1) = some (if decide (x < y) = true then 1 else 0)
      by_cases c : x < y
      · rw [if_neg (Int32.not_le.mpr c), if_pos (decide_eq_true c)]
      · rw [if_pos (Int32.not_lt.mp c), if_neg (by simpa using c)]
    · show (if x ≤ y then some (0 : Int32) else some 1) = some (if decide (y < x) = true then 1 else 0)
      by_cases c : y < x
      · rw [if_neg (Int32.not_le.mpr c), if_pos (decide_eq_true c)]
      · rw [if_pos (Int32.not_lt.mp c), if_neg (by simpa using c)]
    · show (if x = y then some (1 : Int32) else some 0) = some (if decide (x = y) = true then 1 else 0)
      by_cases c : x = y
      · rw [if_pos c, if_pos (decide_eq_true c)]
      · rw [if_neg c, if_neg (by simpa using c)]
  have hk : 7 ≤ kQ w ∧ kQ w ≤ 9 := by rcases hw with rfl | rfl | rfl <;> decide
  refine SegR.bin h1 h2 ⟨by omega, hk.2⟩ hc (fun F => ?_) (fun x y _ => ⟨_, key x y⟩)
  show ((φ F).bind fun x => (ψ F).map fun y => cmpv w x y).map _ = _
  cases φ F with
  | none => rfl
  | some x =>
    cases ψ F with
    | none => rfl
    | some y =>
      show some _ = if (kQ w = 5 ∨ kQ w = 6) ∧ y = 0 then none else fX12_reckon (j32 (kQ w)) x y
      rw [if_neg (by omega), key]
theorem SegR.not {c : Int → Int} {a b : Int} {φ : Pc} (h1 : SegR c a b (bo φ)) (hc : c b = wd 10 0) : SegR c a (b + 1) (bo (phNot φ)) := by
  obtain ⟨p1, p2, p3⟩ := h1
  refine ⟨p1, by omega, fun e F μ k g1 g2 g3 g4 g5 g6 => ?_⟩
  have r := p3 e F μ k (fun z a b => g1 z a (by omega)) g2 g3 g4 (by omega) g6
  unfold bo at r ⊢
  unfold phNot
  cases hφ : φ F with
  | none =>
    rw [hφ] at r
    obtain ⟨ν, r1, r2⟩ := r
    exact ⟨ν, fun n hn => r1 n (by omega), r2⟩
  | some x =>
    rw [hφ] at r
    obtain ⟨m, ν, r1, r2, r3, r4, r5⟩ := r
    have st := bR_not (e := e) (a := b) (k := k) (μ := ν) ⟨by omega, by omega, g6⟩ ⟨g3, by omega⟩ (by rw [r3 _ (by decide), g1 b (by omega) (by omega)]; exact hc)
    refine ⟨m + 1, _, by omega, r2.trans (St.one st), fun o ho => by rw [gi_wr_f ho]; exact r3 o ho, fun z z0 z1 => by rw [gi_wr_z ⟨g3, z0, by omega⟩]; exact r4 z z0 z1, ?_⟩
    rw [r5]
    cases x
    · rw [gi_wr (by decide)]; rfl
    · rw [gi_wr (by decide)]; rfl
theorem SegR.jmp {c : Int → Int} {a b t K : Int} {j : Bool} {φ ψ χ : Pc} (h1 : SegR c a b (bo φ)) (h2 : SegR c (b + 1) t (bo ψ)) (hK : K = 11 ∧ j = false ∨ K = 12 ∧ j = true) (hc : c b = wd K t) (hχ : ∀ F, χ F = (φ F).bind fun x => if x = j then some j else ψ F) : SegR c a t (bo χ) := by
  obtain ⟨p1, p2, p3⟩ := h1
  obtain ⟨q1, q2, q3⟩ := h2
  refine ⟨p1, by omega, fun e F μ k g1 g2 g3 g4 g5 g6 => ?_⟩
  have r := p3 e F μ k (fun z a b => g1 z a (by omega)) g2 g3 g4 (by omega) g6
  unfold bo at r q3 ⊢
  rw [hχ F]
  cases hφ : φ F with
  | none =>
    rw [hφ] at r
    obtain ⟨ν, r1, r2⟩ := r
    exact ⟨ν, fun n hn => r1 n (by omega), r2⟩
  | some x =>
    rw [hφ] at r
    obtain ⟨m, ν, r1, r2, r3, r4, r5⟩ := r
    have st := bR_jmp (e := e) (a := b) (k := k) (μ := ν) (K := K) (v := t) (x := if j = true then 1 else 0) ⟨by omega, by omega, g6⟩ ⟨g3, by omega⟩ (by omega) (by rcases hK with ⟨h1, h2⟩ | ⟨h1, h2⟩ <;> rw [h2] <;> simp [h1]) (by rw [r3 _ (by decide), g1 b (by omega) (by omega)]; exact hc)
    rw [r5] at st
    show match ((if x = j then some j else ψ F).map fun x => if x = true then (1 : Int32) else 0) with | some v => _ | none => _
    by_cases cx : x = j
    · rw [if_pos (by rw [cx]; cases j <;> rfl)] at st
      rw [if_pos cx]
      refine ⟨m + 1, ν, by omega, r2.trans (St.one st), r3, r4, ?_⟩
      rw [r5, cx]
    · rw [if_neg (by cases x <;> cases j <;> first | (exact absurd rfl cx) | decide)] at st
      rw [if_neg cx]
      have u := q3 e F ν k (fun z a b => by rw [r3 _ (by decide)]; exact g1 z (by omega) (by omega)) (g2.of r3) g3 (by omega) (by omega) g6
      cases hψ : ψ F with
      | none =>
        rw [hψ] at u
        obtain ⟨ρ, u1, u2⟩ := u
        exact ⟨ρ, St.halt (r2.trans (St.one st)) u1 (by omega), fun o ho => (u2 o ho).trans (r3 o ho)⟩
      | some y =>
        rw [hψ] at u
        obtain ⟨l, ρ, u1, u2, u3, u4, u5⟩ := u
        exact ⟨m + 1 + l, ρ, by omega, (r2.trans (St.one st)).trans u2, fun o ho => (u3 o ho).trans (r3 o ho), fun z z0 z1 => (u4 z z0 z1).trans (r4 z z0 z1), u5⟩
theorem SegR.and {c : Int → Int} {a b t : Int} {φ ψ : Pc} (h1 : SegR c a b (bo φ)) (h2 : SegR c (b + 1) t (bo ψ)) (hc : c b = wd 11 t) : SegR c a t (bo (phAnd φ ψ)) :=
  SegR.jmp h1 h2 (Or.inl ⟨rfl, rfl⟩) hc fun F => by
    unfold phAnd
    congr 1; funext x
    cases x <;> rfl
theorem SegR.or {c : Int → Int} {a b t : Int} {φ ψ : Pc} (h1 : SegR c a b (bo φ)) (h2 : SegR c (b + 1) t (bo ψ)) (hc : c b = wd 12 t) : SegR c a t (bo (phOr φ ψ)) :=
  SegR.jmp h1 h2 (Or.inr ⟨rfl, rfl⟩) hc fun F => by
    unfold phOr
    congr 1
def orZ (x : Option Int32) : Int32 := match x with
  | some v => v
  | none => 0
/-- all of a piece -/
theorem comes_ok {a b : Int} {φ : Ph} {μ : xm} {F : Nat → Int} (h : SegR (gi μ iM_codes) a b φ) (hb : b ≤ 220) (hF : HFr μ F) : ∃ ν, fX12_comesTo (j32 a) (j32 b) μ = some (orZ (φ F), ν) ∧ ∀ o, o ≠ iM_stack → gi ν o = gi μ o := by
  obtain ⟨p1, p2, p3⟩ := h
  have r := p3 b F μ 0 (fun _ _ _ => rfl) hF (by omega) p1 (by omega) hb
  have hx : (220 : Int32) * (j32 a / 220) = j32 0 := by
    rw [show (220 : Int32) = j32 220 from rfl, j_div (by omega) (by omega), Int.tdiv_eq_ediv_of_nonneg p1, j_mul]
    congr 1; omega
  have hun : ∀ r, xloop xfu (bdR b) (j32 0, j32 a, μ) = some r → fX12_comesTo (j32 a) (j32 b) μ = xsm r (fun q29 => xbd (xgI q29 iM_stack 220 0) fun v31 => some (v31, q29)) (fun q30 => some q30) := fun r hr => by
    unfold fX12_comesTo
    rw [hx, xlt_e]
    rw [show xloop xfu (fun v => fX12_comesTo_b16 v.1 v.2.1 v.2.2 (j32 b) (j32 0)) (0, j32 a, μ) = some r from hr, xbd_e]
  cases hφ : φ F with
  | none =>
    rw [hφ] at r
    obtain ⟨ν, r1, r2⟩ := r
    exact ⟨ν, hun _ (r1 xfu (by unfold xfu; omega)), r2⟩
  | some v =>
    rw [hφ] at r
    obtain ⟨m, ν, r1, r2, r3, r4, r5⟩ := r
    refine ⟨ν, ?_, r3⟩
    have hl : xloop xfu (bdR b) (j32 0, j32 a, μ) = some (.inl ν) := by
      have e := r2 (xfu - m)
      rw [show xfu - m + m = xfu by unfold xfu; omega] at e
      rw [e]
      obtain ⟨l, hm⟩ : ∃ l, xfu - m = l + 1 := ⟨xfu - m - 1, by unfold xfu; omega⟩
      rw [hm]
      unfold xloop
      rw [show bdR b (j32 (0 + 1), j32 b, ν) = some (.inr (.inl ν)) from ?_]
      show fX12_comesTo_b16 (j32 (0 + 1)) (j32 b) ν (j32 b) (j32 0) = _
      unfold fX12_comesTo_b16
      rw [if_pos (Int32.le_refl _)]
    rw [hun _ hl, xsm_e0, show (0 : Int32) = j32 0 from rfl, j_gI (by omega), xbd_e, r5, j32_toInt]
    first | done | rfl
