/-! rest: sums over all ends -/
def EX (n : Int → Nat) (w c : Int → Int → Int) : List Int → (List Int → Int) → Int
  | [], F => F []
  | y :: ys, F => sumTo (fun e => w y e * EX n w c ys (fun l => F (c y e :: l))) (n y)
theorem EX_n {n : Int → Nat} {w c : Int → Int → Int} {F : List Int → Int} : EX n w c [] F = F [] := rfl
theorem EX_s {n : Int → Nat} {w c : Int → Int → Int} {y : Int} {ys : List Int} {F : List Int → Int} : EX n w c (y :: ys) F = sumTo (fun e => w y e * EX n w c ys (fun l => F (c y e :: l))) (n y) := rfl
theorem EX_app {n : Int → Nat} {w c : Int → Int → Int} {ys : List Int} : ∀ {xs : List Int} {F : List Int → Int}, EX n w c (xs ++ ys) F = EX n w c xs (fun l1 => EX n w c ys (fun l2 => F (l1 ++ l2)))
  | [], F => rfl
  | x :: xs, F => by
    rw [List.cons_append, EX_s, EX_s]
    refine sumTo_c (fun e _ _ => ?_)
    rw [EX_app]
    rfl
theorem EX_c {n : Int → Nat} {w c : Int → Int → Int} : ∀ {ys : List Int} {F G : List Int → Int}, (∀ l, l.length = ys.length → F l = G l) → EX n w c ys F = EX n w c ys G
  | [], F, G, h => h [] rfl
  | y :: ys, F, G, h => by
    rw [EX_s, EX_s]
    refine sumTo_c (fun e _ _ => ?_)
    rw [EX_c (ys := ys) (fun l hl => h (c y e :: l) (by rw [List.length_cons, List.length_cons, hl]))]
theorem sumTo_mul {f : Int → Int} {k : Int} : ∀ n : Nat, sumTo (fun e => k * f e) n = k * sumTo f n
  | 0 => by show (0 : Int) = k * 0; rw [Int.mul_zero]
  | n + 1 => by rw [sumTo_s, sumTo_s, sumTo_mul n, Int.mul_add]
theorem EX_add {n : Int → Nat} {w c : Int → Int → Int} : ∀ {ys : List Int} {F G : List Int → Int}, EX n w c ys (fun l => F l + G l) = EX n w c ys F + EX n w c ys G
  | [], F, G => rfl
  | y :: ys, F, G => by
    rw [EX_s, EX_s, EX_s, ← sumTo_add]
    refine sumTo_c (fun e _ _ => ?_)
    rw [EX_add, Int.mul_add]
theorem EX_mul {n : Int → Nat} {w c : Int → Int → Int} {k : Int} : ∀ {ys : List Int} {F : List Int → Int}, EX n w c ys (fun l => k * F l) = k * EX n w c ys F
  | [], F => rfl
  | y :: ys, F => by
    rw [EX_s, EX_s, ← sumTo_mul]
    refine sumTo_c (fun e _ _ => ?_)
    rw [EX_mul, Int.mul_left_comm]
theorem EX_zero {n : Int → Nat} {w c : Int → Int → Int} : ∀ {ys : List Int}, EX n w c ys (fun _ => 0) = 0
  | [] => rfl
  | y :: ys => by
    rw [EX_s]
    refine (sumTo_c (g := fun _ => 0) (fun e _ _ => ?_)).trans (sumTo_zero _)
    rw [EX_zero, Int.mul_zero]
theorem EX_sum {n : Int → Nat} {w c : Int → Int → Int} {ys : List Int} {H : Int → List Int → Int} : ∀ m : Nat, EX n w c ys (fun l => sumTo (fun e => H e l) m) = sumTo (fun e => EX n w c ys (H e)) m
  | 0 => EX_zero
  | m + 1 => by rw [sumTo_s, ← EX_sum m, ← EX_add]; rfl
def WTl (n : Int → Nat) (w : Int → Int → Int) : List Int → Int
  | [] => 1
  | y :: ys => sumTo (w y) (n y) * WTl n w ys
theorem WTl_app {n : Int → Nat} {w : Int → Int → Int} {y : Int} : ∀ {ys : List Int}, WTl n w (ys ++ [y]) = WTl n w ys * sumTo (w y) (n y)
  | [] => by show sumTo (w y) (n y) * 1 = 1 * sumTo (w y) (n y); omega
  | z :: ys => by
    show sumTo (w z) (n z) * WTl n w (ys ++ [y]) = sumTo (w z) (n z) * WTl n w ys * sumTo (w y) (n y)
    rw [WTl_app, Int.mul_assoc]
theorem EX_one {n : Int → Nat} {w c : Int → Int → Int} {k : Int} : ∀ {ys : List Int}, EX n w c ys (fun _ => k) = WTl n w ys * k
  | [] => by show k = 1 * k; omega
  | y :: ys => by
    rw [EX_s]
    have h : sumTo (fun e => w y e * EX n w c ys (fun _ => k)) (n y) = sumTo (fun e => (WTl n w ys * k) * w y e) (n y) := sumTo_c (fun e _ _ => by rw [EX_one, Int.mul_comm])
    rw [h, sumTo_mul]
    show _ = sumTo (w y) (n y) * WTl n w ys * k
    rw [Int.mul_comm, Int.mul_assoc]
/-- the one in the middle goes first -/
theorem EX_mid {n : Int → Nat} {w c : Int → Int → Int} {pre post : List Int} {p : Int} {F : List Int → Int} {H : Int → List Int → Int} (h : ∀ l1 l2 x, l1.length = pre.length → F (l1 ++ x :: l2) = H x (l1 ++ l2)) : EX n w c (pre ++ p :: post) F = sumTo (fun e => w p e * EX n w c (pre ++ post) (H (c p e))) (n p) := by
  rw [EX_app]
  have h1 : EX n w c pre (fun l1 => EX n w c (p :: post) (fun l2 => F (l1 ++ l2))) = EX n w c pre (fun l1 => sumTo (fun e => w p e * EX n w c post (fun l2 => H (c p e) (l1 ++ l2))) (n p)) := EX_c (fun l1 hl => by
    rw [EX_s]
    refine sumTo_c (fun e _ _ => ?_)
    rw [EX_c (fun l2 _ => h l1 l2 (c p e) hl)])
  rw [h1, EX_sum]
  refine sumTo_c (fun e _ _ => ?_)
  rw [EX_mul, ← EX_app]
/-- numbers of codes -/
def NLl (n : Int → Nat) : List Int → Nat
  | [] => 1
  | y :: ys => n y * NLl n ys
def wlC (n : Int → Nat) (w : Int → Int → Int) : List Int → Nat → Int
  | [], _ => 1
  | y :: ys, k => w y ((k % n y : Nat) : Int) * wlC n w ys (k / n y)
def clC (n : Int → Nat) (c : Int → Int → Int) : List Int → Nat → List Int
  | [], _ => []
  | y :: ys, k => c y ((k % n y : Nat) : Int) :: clC n c ys (k / n y)
theorem sumTo_app {f : Int → Int} {a : Nat} : ∀ b : Nat, sumTo f (a + b) = sumTo f a + sumTo (fun z => f (a + z)) b
  | 0 => by show sumTo f a = sumTo f a + 0; omega
  | b + 1 => by
    rw [← Nat.add_assoc, sumTo_s, sumTo_app b, sumTo_s, show ((a + b : Nat) : Int) = (a : Int) + b from rfl]; omega
theorem sumTo_blk {n : Nat} (hn : 0 < n) {g : Nat → Nat → Int} : ∀ N : Nat, sumTo (fun k => g (k.toNat % n) (k.toNat / n)) (n * N) = sumTo (fun e => sumTo (fun q => g e.toNat q.toNat) N) n
  | 0 => by rw [Nat.mul_zero]; exact (sumTo_zero n).symm
  | N + 1 => by
    rw [Nat.mul_succ, sumTo_app, sumTo_blk hn N, ← sumTo_add]
    refine sumTo_c (fun e a b => ?_)
    rw [sumTo_s]
    have h1 : (((n * N : Nat) : Int) + e).toNat = n * N + e.toNat := by omega
    have h2 : e.toNat < n := by omega
    rw [h1, Nat.mul_add_mod, Nat.mod_eq_of_lt h2, Nat.mul_add_div hn, Nat.div_eq_of_lt h2, Int.toNat_natCast, Nat.add_zero]
theorem code_sum {n : Int → Nat} {w c : Int → Int → Int} : ∀ {ys : List Int} {F : List Int → Int}, (∀ y ∈ ys, 0 < n y) → sumTo (fun k => wlC n w ys k.toNat * F (clC n c ys k.toNat)) (NLl n ys) = EX n w c ys F
  | [], F, _ => by show (0 : Int) + 1 * F [] = F []; omega
  | y :: ys, F, h => by
    have hy := h y (List.mem_cons_self ..)
    show sumTo (fun k => (w y ((k.toNat % n y : Nat) : Int) * wlC n w ys (k.toNat / n y)) * F (c y ((k.toNat % n y : Nat) : Int) :: clC n c ys (k.toNat / n y))) (n y * NLl n ys) = _
    rw [sumTo_blk hy (g := fun e q => (w y (e : Int) * wlC n w ys q) * F (c y (e : Int) :: clC n c ys q)), EX_s]
    refine sumTo_c (fun e a b => ?_)
    rw [← code_sum (ys := ys) (fun z hz => h z (List.mem_cons_of_mem _ hz)), ← sumTo_mul]
    refine sumTo_c (fun q _ _ => ?_)
    show (w y ((e.toNat : Nat) : Int) * wlC n w ys q.toNat) * F (c y ((e.toNat : Nat) : Int) :: clC n c ys q.toNat) = _
    rw [show ((e.toNat : Nat) : Int) = e by omega, Int.mul_assoc]
/-- the last one; sums over those who came -/
def fmL (M : Int) : List Int → Int
  | [] => M
  | x :: l => fmL (max M x) l
def sLl (f : Int → Int) : List Int → Int
  | [] => 0
  | x :: l => f x + sLl f l
theorem fmL_app {l2 : List Int} : ∀ {l1 : List Int} {M : Int}, fmL M (l1 ++ l2) = fmL (fmL M l1) l2
  | [], _ => rfl
  | x :: l1, M => by show fmL (max M x) (l1 ++ l2) = _; rw [fmL_app]; rfl
theorem fmL_max : ∀ {l : List Int} {M x : Int}, fmL (max M x) l = max x (fmL M l)
  | [], M, x => by show max M x = max x M; omega
  | z :: l, M, x => by
    show fmL (max (max M x) z) l = max x (fmL (max M z) l)
    rw [show max (max M x) z = max (max M z) x by omega, fmL_max]
theorem fmL_ge : ∀ {l : List Int} {M : Int}, M ≤ fmL M l
  | [], M => Int.le_refl _
  | z :: l, M => Int.le_trans (by omega) (fmL_ge (l := l) (M := max M z))
theorem sLl_app {f : Int → Int} {l2 : List Int} : ∀ {l1 : List Int}, sLl f (l1 ++ l2) = sLl f l1 + sLl f l2
  | [] => by show sLl f l2 = 0 + sLl f l2; omega
  | x :: l1 => by show f x + sLl f (l1 ++ l2) = f x + sLl f l1 + _; rw [sLl_app]; omega
theorem TX_snoc {n : Int → Nat} {w c : Int → Int → Int} {ys : List Int} {y M : Int} {φ : Int → Int} : EX n w c (ys ++ [y]) (fun l => φ (fmL M l)) = sumTo (fun e => w y e * EX n w c ys (fun l => φ (max (max M (c y e)) (fmL M l)))) (n y) := by
  rw [EX_app]
  have h1 : EX n w c ys (fun l1 => EX n w c [y] (fun l2 => φ (fmL M (l1 ++ l2)))) = EX n w c ys (fun l1 => sumTo (fun e => w y e * φ (max (max M (c y e)) (fmL M l1))) (n y)) := EX_c (fun l1 _ => by
    rw [EX_s]
    refine sumTo_c (fun e _ _ => ?_)
    rw [EX_n, fmL_app]
    have g := fmL_ge (l := l1) (M := M)
    show _ * φ (max (fmL M l1) (c y e)) = _
    rw [show max (fmL M l1) (c y e) = max (max M (c y e)) (fmL M l1) by omega])
  rw [h1, EX_sum]
  refine sumTo_c (fun e _ _ => ?_)
  rw [EX_mul]
theorem SX_snoc {n : Int → Nat} {w c : Int → Int → Int} {ys : List Int} {y : Int} {f : Int → Int} : EX n w c (ys ++ [y]) (sLl f) = sumTo (w y) (n y) * EX n w c ys (sLl f) + WTl n w ys * sumTo (fun e => w y e * f (c y e)) (n y) := by
  rw [EX_app]
  have h1 : EX n w c ys (fun l1 => EX n w c [y] (fun l2 => sLl f (l1 ++ l2))) = EX n w c ys (fun l1 => sumTo (w y) (n y) * sLl f l1 + sumTo (fun e => w y e * f (c y e)) (n y)) := EX_c (fun l1 _ => by
    rw [EX_s]
    have h2 : sumTo (fun e => w y e * EX n w c [] (fun l => sLl f (l1 ++ c y e :: l))) (n y) = sumTo (fun e => sLl f l1 * w y e + w y e * f (c y e)) (n y) := sumTo_c (fun e _ _ => by
      rw [EX_n, sLl_app]
      show w y e * (sLl f l1 + (f (c y e) + 0)) = _
      rw [Int.add_zero, Int.mul_add, Int.mul_comm (w y e) (sLl f l1)])
    rw [h2, sumTo_add, sumTo_mul, Int.mul_comm])
  rw [h1, EX_add, EX_mul, EX_one]
/-- distinct ones out of a list -/
theorem pig : ∀ (V : List Int) (n : Nat) (f : Nat → Int), (∀ i, i < n → f i ∈ V) → (∀ i j, i < j → j < n → f i ≠ f j) → n ≤ V.length
  | [], n, f, h, _ => by
    by_cases c : n = 0
    · omega
    · exact absurd (h 0 (by omega)) (List.not_mem_nil)
  | v :: V, n, f, h, hd => by
    rw [List.length_cons]
    by_cases c : ∃ i, i < n ∧ f i = v
    · obtain ⟨i, i1, i2⟩ := c
      have := pig V (n - 1) (fun j => if j < i then f j else f (j + 1)) (fun j hj => by
        have key : ∀ k, k < n → k ≠ i → f k ∈ V := fun k hk hne => by
          rcases List.mem_cons.mp (h k hk) with e | e
          · exfalso
            rcases Nat.lt_or_gt_of_ne hne with q | q
            · exact hd k i q i1 (by rw [e, i2])
            · exact hd i k q hk (by rw [e, i2])
          · exact e
        show (if j < i then f j else f (j + 1)) ∈ V
        by_cases q : j < i
        · rw [if_pos q]; exact key j (by omega) (by omega)
        · rw [if_neg q]; exact key (j + 1) (by omega) (by omega)) (fun j k hjk hk => by
        show (if j < i then f j else f (j + 1)) ≠ (if k < i then f k else f (k + 1))
        by_cases q : j < i
        · by_cases r : k < i
          · rw [if_pos q, if_pos r]; exact hd j k hjk (by omega)
          · rw [if_pos q, if_neg r]; exact hd j (k + 1) (by omega) (by omega)
        · rw [if_neg q, if_neg (by omega)]; exact hd (j + 1) (k + 1) (by omega) (by omega))
      omega
    · have := pig V n f (fun i hi => by
        rcases List.mem_cons.mp (h i hi) with e | e
        · exact absurd ⟨i, hi, e⟩ c
        · exact e) hd
      omega
