/-! Phase 2: the printed functions over whole numbers -/
def j32 (z : Int) : Int32 := Int32.ofInt z
def l64 (z : Int) : Int64 := Int64.ofInt z
def gi (μ : xm) (o : Nat) (z : Int) : Int := (μ.1 o z.toNat).toInt
def gl (μ : xm) (o : Nat) (z : Int) : Int64 := μ.2 o z.toNat
def wr (μ : xm) (o : Nat) (z v : Int) : xm := xpI μ o z.toNat (j32 v)
def wl (μ : xm) (o : Nat) (z : Int) (v : Int64) : xm := xpJ μ o z.toNat v
def bi (p : Prop) [Decidable p] : Int := if p then 1 else 0
theorem j32_toInt (x : Int32) : j32 x.toInt = x := Int32.ofInt_toInt x
theorem toInt_j32 {z : Int} (h1 : -2147483648 ≤ z) (h2 : z < 2147483648) : (j32 z).toInt = z := Int32.toInt_ofInt_of_le h1 h2
theorem j32_ex (x : Int32) : ∃ z : Int, x = j32 z ∧ -2147483648 ≤ z ∧ z < 2147483648 := ⟨x.toInt, (j32_toInt x).symm, x.le_toInt, x.toInt_lt⟩
theorem j_add (a b : Int) : j32 a + j32 b = j32 (a + b) := (Int32.ofInt_add a b).symm
theorem j_sub (a b : Int) : j32 a - j32 b = j32 (a - b) := (Int32.ofInt_sub a b).symm
theorem j_mul (a b : Int) : j32 a * j32 b = j32 (a * b) := (Int32.ofInt_mul a b).symm
theorem j_neg (a : Int) : -j32 a = j32 (-a) := (Int32.ofInt_neg a).symm
theorem j_lt {a b : Int} (h1 : -2147483648 ≤ a ∧ a < 2147483648) (h2 : -2147483648 ≤ b ∧ b < 2147483648) : j32 a < j32 b ↔ a < b := by
  rw [Int32.lt_iff_toInt_lt, toInt_j32 h1.1 h1.2, toInt_j32 h2.1 h2.2]
theorem j_le {a b : Int} (h1 : -2147483648 ≤ a ∧ a < 2147483648) (h2 : -2147483648 ≤ b ∧ b < 2147483648) : j32 a ≤ j32 b ↔ a ≤ b := by
  rw [Int32.le_iff_toInt_le, toInt_j32 h1.1 h1.2, toInt_j32 h2.1 h2.2]
theorem j_eq {a b : Int} (h1 : -2147483648 ≤ a ∧ a < 2147483648) (h2 : -2147483648 ≤ b ∧ b < 2147483648) : j32 a = j32 b ↔ a = b := by
  rw [← Int32.toInt_inj, toInt_j32 h1.1 h1.2, toInt_j32 h2.1 h2.2]
theorem j_rd (μ : xm) (o k : Nat) : μ.1 o k = j32 (gi μ o (k : Int)) := by unfold gi; rw [j32_toInt]; rfl
theorem gi_lo (μ : xm) (o : Nat) (z : Int) : -2147483648 ≤ gi μ o z := Int32.le_toInt _
theorem gi_hi (μ : xm) (o : Nat) (z : Int) : gi μ o z < 2147483648 := Int32.toInt_lt _
theorem j_nat {z : Int} (h1 : 0 ≤ z) (h2 : z < 2147483648) : (j32 z).toNatClampNeg = z.toNat := Int32.toNatClampNeg_ofInt_of_le (by omega) h2
theorem j_in {z : Int} {len : Nat} (h : 0 ≤ z ∧ z < len ∧ len ≤ 2147483647) : xin (j32 z) len = true := by
  unfold xin
  have h1 : ¬ (j32 z < 0) := by
    rw [show (0 : Int32) = j32 0 from rfl, j_lt (by omega) (by omega)]; omega
  have h2 : ¬ (len ≤ (j32 z).toNatClampNeg) := by rw [j_nat (by omega) (by omega)]; omega
  simp [h1, h2]
theorem j_gI {μ : xm} {o len : Nat} {z : Int} (h : 0 ≤ z ∧ z < len ∧ len ≤ 2147483647) : xgI μ o len (j32 z) = some (j32 (gi μ o z)) := by
  unfold xgI
  rw [if_pos (j_in h), j_nat h.1 (by omega), j_rd]
  unfold gi; congr 3
theorem j_gJ {μ : xm} {o len : Nat} {z : Int} (h : 0 ≤ z ∧ z < len ∧ len ≤ 2147483647) : xgJ μ o len (j32 z) = some (gl μ o z) := by
  unfold xgJ
  rw [if_pos (j_in h), j_nat h.1 (by omega)]
  rfl
theorem j_sI {μ : xm} {o len : Nat} {z v : Int} (h : 0 ≤ z ∧ z < len ∧ len ≤ 2147483647) : xsI μ o len (j32 z) (j32 v) = some (wr μ o z v) := by
  unfold xsI
  rw [if_pos (j_in h), j_nat h.1 (by omega)]
  rfl
theorem j_sJ {μ : xm} {o len : Nat} {z : Int} {v : Int64} (h : 0 ≤ z ∧ z < len ∧ len ≤ 2147483647) : xsJ μ o len (j32 z) v = some (wl μ o z v) := by
  unfold xsJ
  rw [if_pos (j_in h), j_nat h.1 (by omega)]
  rfl
theorem j_gR {R : xr} {o len : Nat} {z : Int} (h : 0 ≤ z ∧ z < len ∧ len ≤ 2147483647) : xgR R o len (j32 z) = some (R o z.toNat) := by
  unfold xgR
  rw [if_pos (j_in h), j_nat h.1 (by omega)]
theorem j_pI (μ : xm) (o k : Nat) (v : Int) : xpI μ o k (j32 v) = wr μ o (k : Int) v := rfl
theorem gi_wr {μ : xm} {o : Nat} {z v : Int} (h : -2147483648 ≤ v ∧ v < 2147483648) : gi (wr μ o z v) o z = v := by
  show (xup μ.1 o z.toNat (j32 v) o z.toNat).toInt = v
  rw [xup_self, toInt_j32 h.1 h.2]
theorem gi_wr_o {μ : xm} {o a : Nat} {z v y : Int} (h : a ≠ o) : gi (wr μ o z v) a y = gi μ a y := by
  show (xup μ.1 o z.toNat (j32 v) a y.toNat).toInt = _
  rw [xup_ne h]; rfl
theorem gi_wr_z {μ : xm} {o : Nat} {z v y : Int} (h : 0 ≤ z ∧ 0 ≤ y ∧ y ≠ z) : gi (wr μ o z v) o y = gi μ o y := by
  show (xup μ.1 o z.toNat (j32 v) o y.toNat).toInt = _
  rw [xup_nek (by omega)]; rfl
theorem gl_wr {μ : xm} {o a : Nat} {z v y : Int} : gl (wr μ o z v) a y = gl μ a y := rfl
theorem gi_wl {μ : xm} {o a : Nat} {z y : Int} {v : Int64} : gi (wl μ o z v) a y = gi μ a y := rfl
theorem gl_wl {μ : xm} {o : Nat} {z : Int} {v : Int64} : gl (wl μ o z v) o z = v := xup_self
theorem gl_wl_o {μ : xm} {o a : Nat} {z y : Int} {v : Int64} (h : a ≠ o) : gl (wl μ o z v) a y = gl μ a y := by
  show xup μ.2 o z.toNat v a y.toNat = _
  rw [xup_ne h]; rfl
theorem gl_wl_z {μ : xm} {o : Nat} {z y : Int} {v : Int64} (h : 0 ≤ z ∧ 0 ≤ y ∧ y ≠ z) : gl (wl μ o z v) o y = gl μ o y := by
  show xup μ.2 o z.toNat v o y.toNat = _
  rw [xup_nek (by omega)]; rfl
theorem xbd_e {α β : Type} {x : α} {f : α → Option β} : xbd (some x) f = f x := rfl
theorem xlt_e {α β : Type} {x : α} {f : α → Option β} : xlt x f = f x := rfl
theorem xop_e0 {α : Type} {x : Option α} {f : Nat → Option α} : xop none x f = x := rfl
theorem xop_e1 {α : Type} {x : Option α} {f : Nat → Option α} {a : Nat} : xop (some a) x f = f a := rfl
theorem xsm_e0 {α β γ : Type} {f : α → Option γ} {g : β → Option γ} {a : α} : xsm (.inl a) f g = f a := rfl
theorem xsm_e1 {α β γ : Type} {f : α → Option γ} {g : β → Option γ} {b : β} : xsm (.inr b) f g = g b := rfl
/-- what a run says -/
def xok {α : Type} (x : Option α) (P : α → Prop) : Prop := ∃ v, x = some v ∧ P v
theorem xok_some {α : Type} {v : α} {P : α → Prop} : xok (some v) P ↔ P v := ⟨fun ⟨_, h1, h2⟩ => by cases h1; exact h2, fun h => ⟨v, rfl, h⟩⟩
theorem xok_bd {α β : Type} {x : Option α} {f : α → Option β} {P : β → Prop} : xok (xbd x f) P ↔ xok x (fun v => xok (f v) P) := by
  cases x with
  | none =>
    constructor
    · rintro ⟨_, h, _⟩; cases h
    · rintro ⟨_, h, _⟩; cases h
  | some v => rw [xbd_e]; exact (xok_some (P := fun v => xok (f v) P)).symm
theorem xok_mono {α : Type} {x : Option α} {P Q : α → Prop} (h : xok x P) (hq : ∀ v, P v → Q v) : xok x Q := by
  obtain ⟨v, h1, h2⟩ := h
  exact ⟨v, h1, hq v h2⟩
theorem xok_eq {α : Type} {x : Option α} {v : α} {P : α → Prop} (h : x = some v) (hp : P v) : xok x P := ⟨v, h, hp⟩
/-- a loop that counts: the states are known -/
theorem xloop_go {α β : Type} {b : α → Option (α ⊕ β)} (A : Nat → α) (N : Nat) (r : β) (hs : ∀ k, k < N → b (A k) = some (.inl (A (k + 1)))) (he : b (A N) = some (.inr r)) : ∀ (j n k : Nat), k + j = N → j < n → xloop n b (A k) = some r := by
  intro j
  induction j with
  | zero =>
    intro n k h1 h2
    cases n with
    | zero => omega
    | succ n => unfold xloop; rw [show k = N by omega, he]
  | succ j ih =>
    intro n k h1 h2
    cases n with
    | zero => omega
    | succ n => unfold xloop; rw [hs k (by omega)]; exact ih n (k + 1) (by omega) (by omega)
theorem xloop_for {α β : Type} {b : α → Option (α ⊕ β)} {a : α} (A : Nat → α) (N : Nat) {r : β} (hN : N < 1000000) (h0 : A 0 = a) (hs : ∀ k, k < N → b (A k) = some (.inl (A (k + 1)))) (he : b (A N) = some (.inr r)) : xloop xfu b a = some r := by
  rw [← h0]
  exact xloop_go A N r hs he N xfu 0 (by omega) hN
/-- a loop with an invariant that counts -/
theorem xok_for {α β : Type} {b : α → Option (α ⊕ β)} {a : α} {P : β → Prop} (I : Nat → α → Prop) (N : Nat) (hN : N < 1000000) (h0 : I 0 a) (hs : ∀ k a, k < N → I k a → xok (b a) (Sum.elim (I (k + 1)) P)) (he : ∀ a, I N a → xok (b a) (Sum.elim (fun _ => False) P)) : xok (xloop xfu b a) P := by
  have key : ∀ (j n k : Nat) (a : α), k + j = N → j < n → I k a → xok (xloop n b a) P := by
    intro j
    induction j with
    | zero =>
      intro n k a h1 h2 hi
      cases n with
      | zero => omega
      | succ n =>
        rw [show k = N by omega] at hi
        obtain ⟨v, e, hv⟩ := he a hi
        unfold xloop; rw [e]
        cases v with
        | inl x => exact hv.elim
        | inr x => exact ⟨x, rfl, hv⟩
    | succ j ih =>
      intro n k a h1 h2 hi
      cases n with
      | zero => omega
      | succ n =>
        obtain ⟨v, e, hv⟩ := hs k a (by omega) hi
        unfold xloop; rw [e]
        cases v with
        | inl x => exact ih n (k + 1) x (by omega) (by omega) hv
        | inr x => exact ⟨x, rfl, hv⟩
  exact key N xfu 0 a (by omega) hN h0
/-- a loop with an invariant and a measure -/
theorem xok_while {α β : Type} {b : α → Option (α ⊕ β)} {a : α} {P : β → Prop} (I : α → Prop) (m : α → Nat) (hm : m a < 1000000) (h0 : I a) (hs : ∀ a, I a → xok (b a) (Sum.elim (fun x => I x ∧ m x < m a) P)) : xok (xloop xfu b a) P := by
  have key : ∀ (n : Nat) (a : α), m a < n → I a → xok (xloop n b a) P := by
    intro n
    induction n with
    | zero => intro a h; omega
    | succ n ih =>
      intro a h1 hi
      obtain ⟨v, e, hv⟩ := hs a hi
      unfold xloop; rw [e]
      cases v with
      | inl x => exact ih x (Nat.lt_of_lt_of_le hv.2 (by omega)) hv.1
      | inr x => exact ⟨x, rfl, hv⟩
  exact key xfu a hm h0
theorem lits : (0 : Int32) = j32 0 ∧ (1 : Int32) = j32 1 ∧ (2 : Int32) = j32 2 ∧ (3 : Int32) = j32 3 ∧ (4 : Int32) = j32 4 ∧ (5 : Int32) = j32 5 ∧ (6 : Int32) = j32 6 ∧ (7 : Int32) = j32 7 ∧ (8 : Int32) = j32 8 ∧ (9 : Int32) = j32 9 ∧ (10 : Int32) = j32 10 ∧ (11 : Int32) = j32 11 ∧ (12 : Int32) = j32 12 ∧ (13 : Int32) = j32 13 ∧ (14 : Int32) = j32 14 ∧ (15 : Int32) = j32 15 ∧ (16 : Int32) = j32 16 ∧ (17 : Int32) = j32 17 ∧ (18 : Int32) = j32 18 ∧ (19 : Int32) = j32 19 ∧ (20 : Int32) = j32 20 ∧ (21 : Int32) = j32 21 ∧ (23 : Int32) = j32 23 ∧ (24 : Int32) = j32 24 ∧ (25 : Int32) = j32 25 ∧ (26 : Int32) = j32 26 ∧ (30 : Int32) = j32 30 ∧ (31 : Int32) = j32 31 ∧ (32 : Int32) = j32 32 ∧ (33 : Int32) = j32 33 ∧ (34 : Int32) = j32 34 ∧ (37 : Int32) = j32 37 ∧ (38 : Int32) = j32 38 ∧ (40 : Int32) = j32 40 ∧ (41 : Int32) = j32 41 ∧ (42 : Int32) = j32 42 ∧ (43 : Int32) = j32 43 ∧ (45 : Int32) = j32 45 ∧ (47 : Int32) = j32 47 ∧ (48 : Int32) = j32 48 ∧ (53 : Int32) = j32 53 ∧ (54 : Int32) = j32 54 ∧ (55 : Int32) = j32 55 ∧ (56 : Int32) = j32 56 ∧ (57 : Int32) = j32 57 ∧ (59 : Int32) = j32 59 ∧ (60 : Int32) = j32 60 ∧ (61 : Int32) = j32 61 ∧ (62 : Int32) = j32 62 ∧ (63 : Int32) = j32 63 ∧ (64 : Int32) = j32 64 ∧ (91 : Int32) = j32 91 ∧ (93 : Int32) = j32 93 ∧ (97 : Int32) = j32 97 ∧ (98 : Int32) = j32 98 ∧ (99 : Int32) = j32 99 ∧ (100 : Int32) = j32 100 ∧ (103 : Int32) = j32 103 ∧ (104 : Int32) = j32 104 ∧ (107 : Int32) = j32 107 ∧ (108 : Int32) = j32 108 ∧ (110 : Int32) = j32 110 ∧ (111 : Int32) = j32 111 ∧ (112 : Int32) = j32 112 ∧ (114 : Int32) = j32 114 ∧ (118 : Int32) = j32 118 ∧ (119 : Int32) = j32 119 ∧ (120 : Int32) = j32 120 ∧ (121 : Int32) = j32 121 ∧ (124 : Int32) = j32 124 ∧ (168 : Int32) = j32 168 ∧ (192 : Int32) = j32 192 ∧ (200 : Int32) = j32 200 ∧ (220 : Int32) = j32 220 ∧ (255 : Int32) = j32 255 ∧ (256 : Int32) = j32 256 ∧ (300 : Int32) = j32 300 ∧ (400 : Int32) = j32 400 ∧ (600 : Int32) = j32 600 ∧ (1000 : Int32) = j32 1000 ∧ (1439 : Int32) = j32 1439 ∧ (1440 : Int32) = j32 1440 ∧ (2000 : Int32) = j32 2000 ∧ (13849 : Int32) = j32 13849 ∧ (25173 : Int32) = j32 25173 ∧ (65535 : Int32) = j32 65535 ∧ (65536 : Int32) = j32 65536 ∧ (86401 : Int32) = j32 86401 ∧ (1048576 : Int32) = j32 1048576 := ⟨rfl, rfl, rfl, rfl, rfl, rfl, rfl, rfl, rfl, rfl, rfl, rfl, rfl, rfl, rfl, rfl, rfl, rfl, rfl, rfl, rfl, rfl, rfl, rfl, rfl, rfl, rfl, rfl, rfl, rfl, rfl, rfl, rfl, rfl, rfl, rfl, rfl, rfl, rfl, rfl, rfl, rfl, rfl, rfl, rfl, rfl, rfl, rfl, rfl, rfl, rfl, rfl, rfl, rfl, rfl, rfl, rfl, rfl, rfl, rfl, rfl, rfl, rfl, rfl, rfl, rfl, rfl, rfl, rfl, rfl, rfl, rfl, rfl, rfl, rfl, rfl, rfl, rfl, rfl, rfl, rfl, rfl, rfl, rfl, rfl, rfl, rfl, rfl, rfl⟩
/-- all rules at once -/
theorem jj : (∀ a b, j32 a + j32 b = j32 (a + b)) ∧ (∀ a b, j32 a - j32 b = j32 (a - b)) ∧ (∀ a b, j32 a * j32 b = j32 (a * b)) ∧ (∀ a, -j32 a = j32 (-a)) ∧ (∀ (μ : xm) (o k : Nat), μ.1 o k = j32 (gi μ o (k : Int))) :=
  ⟨j_add, j_sub, j_mul, j_neg, j_rd⟩
theorem jc : (∀ a b : Int, (-2147483648 ≤ a ∧ a < 2147483648) → (-2147483648 ≤ b ∧ b < 2147483648) → (j32 a < j32 b ↔ a < b)) ∧ (∀ a b : Int, (-2147483648 ≤ a ∧ a < 2147483648) → (-2147483648 ≤ b ∧ b < 2147483648) → (j32 a ≤ j32 b ↔ a ≤ b)) ∧ (∀ a b : Int, (-2147483648 ≤ a ∧ a < 2147483648) → (-2147483648 ≤ b ∧ b < 2147483648) → (j32 a = j32 b ↔ a = b)) :=
  ⟨fun _ _ h1 h2 => j_lt h1 h2, fun _ _ h1 h2 => j_le h1 h2, fun _ _ h1 h2 => j_eq h1 h2⟩
theorem jm : (∀ (μ : xm) (o len : Nat) (z : Int), (0 ≤ z ∧ z < len ∧ len ≤ 2147483647) → xgI μ o len (j32 z) = some (j32 (gi μ o z))) ∧ (∀ (μ : xm) (o len : Nat) (z v : Int), (0 ≤ z ∧ z < len ∧ len ≤ 2147483647) → xsI μ o len (j32 z) (j32 v) = some (wr μ o z v)) ∧ (∀ (μ : xm) (o k : Nat) (v : Int), xpI μ o k (j32 v) = wr μ o (k : Int) v) ∧ (∀ (μ : xm) (o len : Nat) (z : Int), (0 ≤ z ∧ z < len ∧ len ≤ 2147483647) → xgJ μ o len (j32 z) = some (gl μ o z)) ∧ (∀ (μ : xm) (o len : Nat) (z : Int) (v : Int64), (0 ≤ z ∧ z < len ∧ len ≤ 2147483647) → xsJ μ o len (j32 z) v = some (wl μ o z v)) :=
  ⟨fun _ _ _ _ h => j_gI h, fun _ _ _ _ _ h => j_sI h, fun _ _ _ _ => rfl, fun _ _ _ _ h => j_gJ h, fun _ _ _ _ _ h => j_sJ h⟩
theorem j_bi0 (p : Prop) [Decidable p] : (j32 (bi p) = j32 0) ↔ ¬ p := by
  unfold bi
  by_cases h : p
  · simp only [h, if_true, not_true, iff_false]; decide
  · simp only [h, if_false, not_false_eq_true, iff_true]
theorem j_bi1 (p : Prop) [Decidable p] : (j32 (bi p) = j32 1) ↔ p := by
  unfold bi
  by_cases h : p
  · simp only [h, if_true]
  · simp only [h, if_false, iff_false]; decide
/-- the parts of a run -/
theorem xe : (∀ (α β : Type) (x : α) (f : α → Option β), xbd (some x) f = f x) ∧ (∀ (α β : Type) (x : α) (f : α → Option β), xlt x f = f x) ∧ (∀ (α : Type) (x : Option α) (f : Nat → Option α), xop none x f = x) ∧ (∀ (α : Type) (x : Option α) (f : Nat → Option α) (a : Nat), xop (some a) x f = f a) ∧ (∀ (α β γ : Type) (f : α → Option γ) (g : β → Option γ) (a : α), xsm (.inl a) f g = f a) ∧ (∀ (α β γ : Type) (f : α → Option γ) (g : β → Option γ) (b : β), xsm (.inr b) f g = g b) :=
  ⟨fun _ _ _ _ => rfl, fun _ _ _ _ => rfl, fun _ _ _ => rfl, fun _ _ _ _ => rfl, fun _ _ _ _ _ _ => rfl, fun _ _ _ _ _ _ => rfl⟩
theorem j_max {a b : Int} (h1 : -2147483648 ≤ a ∧ a < 2147483648) (h2 : -2147483648 ≤ b ∧ b < 2147483648) : xmax (j32 a) (j32 b) = j32 (max a b) := by
  unfold xmax
  simp only [j_lt h1 h2]
  split
  · rw [show max a b = b by omega]
  · rw [show max a b = a by omega]
theorem j_min {a b : Int} (h1 : -2147483648 ≤ a ∧ a < 2147483648) (h2 : -2147483648 ≤ b ∧ b < 2147483648) : xmin (j32 a) (j32 b) = j32 (min a b) := by
  unfold xmin
  simp only [j_lt h2 h1]
  split
  · rw [show min a b = b by omega]
  · rw [show min a b = a by omega]
theorem j_div {a b : Int} (h1 : -2147483648 < a ∧ a < 2147483648) (h2 : -2147483648 ≤ b ∧ b < 2147483648) : j32 a / j32 b = j32 (a.tdiv b) := by
  apply Int32.toInt_inj.mp
  rw [Int32.toInt_div_of_ne_left, toInt_j32 (by omega) h1.2, toInt_j32 h2.1 h2.2]
  · have h3 : (a.tdiv b).natAbs ≤ a.natAbs := by rw [Int.natAbs_tdiv]; exact Nat.div_le_self _ _
    rw [toInt_j32 (by omega) (by omega)]
  · intro h
    have h4 := congrArg Int32.toInt h
    rw [toInt_j32 (by omega) h1.2, Int32.toInt_minValue] at h4
    omega
