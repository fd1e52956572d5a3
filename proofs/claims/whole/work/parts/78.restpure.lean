/-! rest: class's sums and reference's -/
theorem EX_cc {n : Int → Nat} {w c c' : Int → Int → Int} : ∀ {ys : List Int} {F : List Int → Int}, (∀ y ∈ ys, ∀ e, c y e = c' y e) → EX n w c ys F = EX n w c' ys F
  | [], F, _ => rfl
  | y :: ys, F, h => by
    rw [EX_s, EX_s]
    refine sumTo_c (fun e _ _ => ?_)
    rw [EX_cc (fun z hz => h z (List.mem_cons_of_mem _ hz)), h y (List.mem_cons_self ..) e]
theorem PRd_s {A : xAs} {P p y : Int} {k : Nat} : PRd A P p y (k + 1) = if inc P k ∧ (k : Int) ≠ p ∧ (k : Int) ≠ y then PRd A P p y k * wAll A k else PRd A P p y k := rfl
theorem PRd_hi {A : xAs} {P p y : Int} : ∀ k : Nat, ((k : Int) ≤ y ∨ y < 0) → PRd A P p y k = PRd A P p (-1) k
  | 0, _ => rfl
  | k + 1, h => by
    rw [PRd_s, PRd_s, PRd_hi k (by omega)]
    by_cases c : inc P k ∧ (k : Int) ≠ p
    · rw [if_pos ⟨c.1, c.2, by omega⟩, if_pos ⟨c.1, c.2, by omega⟩]
    · rw [if_neg (fun h => c ⟨h.1, h.2.1⟩), if_neg (fun h => c ⟨h.1, h.2.1⟩)]
theorem ES_all {A : xAs} {M b P p : Int} {ah : Int → Int} {ψ : Int → Int} : ∀ k : Nat, EXA A M ah b (oLp P p k) (sLl (fun z => ψ (max M z))) = sumTo (fun y => if inc P y ∧ y ≠ p then PRd A P p y k * vS A M ah b y ψ (nE A y) else 0) k ∧ WTl (nE A) (wWt A) (oLp P p k) = PRd A P p (-1) k
  | 0 => ⟨rfl, rfl⟩
  | k + 1 => by
    obtain ⟨i1, i2⟩ := ES_all (A := A) (M := M) (b := b) (P := P) (p := p) (ah := ah) (ψ := ψ) k
    have hlast : PRd A P p k (k + 1) = PRd A P p (-1) k := by
      rw [PRd_s, if_neg (fun h => h.2.2 rfl)]
      exact PRd_hi k (Or.inl (Int.le_refl _))
    by_cases c : inc P k ∧ (k : Int) ≠ p
    · have e1 : PRd A P p (-1) (k + 1) = PRd A P p (-1) k * wAll A k := by rw [PRd_s, if_pos ⟨c.1, c.2, by omega⟩]
      rw [oLp_s, if_pos c]
      refine ⟨?_, by rw [WTl_app, i2, e1]; rfl⟩
      show EX _ _ _ _ _ = _
      rw [SX_snoc, i2, sumTo_s, if_pos c, hlast]
      have e2 : sumTo (fun y => if inc P y ∧ y ≠ p then PRd A P p y (k + 1) * vS A M ah b y ψ (nE A y) else 0) k = wAll A k * sumTo (fun y => if inc P y ∧ y ≠ p then PRd A P p y k * vS A M ah b y ψ (nE A y) else 0) k := by
        rw [← sumTo_mul]
        refine sumTo_c (fun y q1 q2 => ?_)
        by_cases d : inc P y ∧ y ≠ p
        · have : PRd A P p y (k + 1) = PRd A P p y k * wAll A k := by rw [PRd_s, if_pos ⟨c.1, c.2, by omega⟩]
          rw [if_pos d, if_pos d, this, Int.mul_comm (PRd A P p y k), Int.mul_assoc]
        · rw [if_neg d, if_neg d, Int.mul_zero]
      rw [e2, ← i1]
      rfl
    · rw [oLp_s, if_neg c]
      have e1 : ∀ y : Int, PRd A P p y (k + 1) = PRd A P p y k := fun y => by rw [PRd_s, if_neg (fun h => c ⟨h.1, h.2.1⟩)]
      refine ⟨?_, by rw [i2, e1]⟩
      rw [sumTo_s, if_neg c, Int.add_zero, i1]
      exact sumTo_c (fun y _ _ => by rw [e1])
/-- the one asked about among all -/
def gLp (P : Int) (k : Nat) : List Int := oLp P (-1) k
theorem gLp_s {P : Int} {k : Nat} : gLp P (k + 1) = if inc P k then gLp P k ++ [(k : Int)] else gLp P k := by
  unfold gLp
  rw [oLp_s]
  by_cases c : inc P k
  · rw [if_pos ⟨c, by omega⟩, if_pos c]
  · rw [if_neg (fun h => c h.1), if_neg c]
theorem gLp_o {P : Int} {p : Nat} : ∀ k : Nat, k ≤ p → oLp P p k = gLp P k
  | 0, _ => rfl
  | k + 1, h => by
    rw [oLp_s, gLp_s, gLp_o k (by omega)]
    by_cases c : inc P k
    · rw [if_pos ⟨c, by omega⟩, if_pos c]
    · rw [if_neg (fun h => c h.1), if_neg c]
theorem gLp_mid {P : Int} {p : Nat} (hp : inc P p) : ∀ j : Nat, ∃ post, gLp P (p + 1 + j) = gLp P p ++ (p : Int) :: post ∧ oLp P p (p + 1 + j) = gLp P p ++ post
  | 0 => ⟨[], by rw [Nat.add_zero, gLp_s, if_pos hp], by rw [Nat.add_zero, oLp_s, if_neg (fun h => h.2 rfl), gLp_o p (Nat.le_refl _), List.append_nil]⟩
  | j + 1 => by
    obtain ⟨post, h1, h2⟩ := gLp_mid hp j
    rw [← Nat.add_assoc, gLp_s, oLp_s, h1, h2]
    by_cases c : inc P ((p + 1 + j : Nat) : Int)
    · rw [if_pos c, if_pos ⟨c, by omega⟩]
      exact ⟨post ++ [((p + 1 + j : Nat) : Int)], by rw [List.append_assoc, List.cons_append], by rw [List.append_assoc]⟩
    · rw [if_neg c, if_neg (fun h => c h.1)]
      exact ⟨post, rfl, rfl⟩
theorem gLp_8 {P : Int} {p : Nat} (hp : inc P p) : ∃ post, gLp P 8 = gLp P p ++ (p : Int) :: post ∧ oLp P p 8 = gLp P p ++ post := by
  have := gLp_mid hp (7 - p)
  have hp8 := hp.2.1
  rw [show p + 1 + (7 - p) = 8 by omega] at this
  exact this
theorem gLp_ix {P : Int} : ∀ (K i : Nat), i < (gLp P K).length → ∃ k : Nat, k < K ∧ inc P k ∧ (gLp P k).length = i
  | 0, i, h => absurd h (Nat.not_lt_zero _)
  | K + 1, i, h => by
    rw [gLp_s] at h
    by_cases c : inc P K
    · rw [if_pos c, List.length_append] at h
      by_cases d : i < (gLp P K).length
      · obtain ⟨k, h1, h2⟩ := gLp_ix K i d
        exact ⟨k, by omega, h2⟩
      · have : ([(K : Int)] : List Int).length = 1 := rfl
        exact ⟨K, by omega, c, by omega⟩
    · rw [if_neg c] at h
      obtain ⟨k, h1, h2⟩ := gLp_ix K i h
      exact ⟨k, by omega, h2⟩
theorem gLp_len {P : Int} (hP : 0 ≤ P ∧ P < 256) : ((gLp P 8).length : Int) = pc P := by
  unfold gLp
  rw [oLp_len, ← pc_sum hP]
  refine sumTo_c (fun z a b => ?_)
  by_cases c : inc P z
  · rw [if_pos ⟨c, by omega⟩, if_pos c]
  · rw [if_neg (fun h => c h.1), if_neg c]
theorem gLp_inc {P : Int} : ∀ (K : Nat), ∀ y ∈ gLp P K, inc P y
  | 0, y, h => absurd h (List.not_mem_nil)
  | K + 1, y, h => by
    rw [gLp_s] at h
    by_cases c : inc P K
    · rw [if_pos c] at h
      rcases List.mem_append.mp h with e | e
      · exact gLp_inc K y e
      · rw [List.mem_singleton.mp e]; exact c
    · rw [if_neg c] at h
      exact gLp_inc K y h
theorem oLp_ne {P p : Int} : ∀ (K : Nat), ∀ y ∈ oLp P p K, y ≠ p
  | 0, y, h => absurd h (List.not_mem_nil)
  | K + 1, y, h => by
    rw [oLp_s] at h
    by_cases c : inc P K ∧ (K : Int) ≠ p
    · rw [if_pos c] at h
      rcases List.mem_append.mp h with e | e
      · exact oLp_ne K y e
      · rw [List.mem_singleton.mp e]; exact c.2
    · rw [if_neg c] at h
      exact oLp_ne K y h
/-- what the day costs the one at place i -/
def dayL (M wo t : Int) (i : Nat) (l : List Int) : Int := (fmL M l - l.getD i 0) * wo + sumTo (fun j => if j ≠ (i : Int) ∧ max M (l.getD j.toNat 0) < l.getD i 0 then (l.getD i 0 - max M (l.getD j.toNat 0)) * t else 0) l.length
theorem sumTo_shift {f : Int → Int} : ∀ k : Nat, sumTo f (k + 1) = f 0 + sumTo (fun z => f (z + 1)) k
  | 0 => by show (0 : Int) + f 0 = f 0 + 0; omega
  | k + 1 => by rw [sumTo_s, sumTo_shift k, sumTo_s, show ((k + 1 : Nat) : Int) = (k : Int) + 1 from rfl]; omega
theorem sLl_getD {f : Int → Int} : ∀ l : List Int, sumTo (fun j => f (l.getD j.toNat 0)) l.length = sLl f l
  | [] => rfl
  | x :: l => by
    rw [List.length_cons, sumTo_shift]
    show f x + _ = f x + sLl f l
    rw [← sLl_getD l]
    congr 1
    refine sumTo_c (fun z a b => ?_)
    rw [show (z + 1).toNat = z.toNat + 1 by omega]
    rfl
theorem getD_app1 {l1 l2 : List Int} {j : Nat} (h : j < l1.length) : (l1 ++ l2).getD j 0 = l1.getD j 0 := by
  rw [List.getD_eq_getElem?_getD, List.getD_eq_getElem?_getD, List.getElem?_append_left h]
theorem getD_app2 {l1 l2 : List Int} {j : Nat} : (l1 ++ l2).getD (l1.length + j) 0 = l2.getD j 0 := by
  rw [List.getD_eq_getElem?_getD, List.getD_eq_getElem?_getD, List.getElem?_append_right (by omega), Nat.add_sub_cancel_left]
theorem dayL_mid {M wo t x : Int} {l1 l2 : List Int} : dayL M wo t l1.length (l1 ++ x :: l2) = wo * abF x (fmL M (l1 ++ l2)) + t * sLl (fun z => beF x (max M z)) (l1 ++ l2) := by
  have gx : (l1 ++ x :: l2).getD l1.length 0 = x := by
    have := getD_app2 (l1 := l1) (l2 := x :: l2) (j := 0)
    rw [Nat.add_zero] at this
    rw [this]; rfl
  have fx : fmL M (l1 ++ x :: l2) = max x (fmL M (l1 ++ l2)) := by
    rw [fmL_app, fmL_app]
    show fmL (max (fmL M l1) x) l2 = _
    rw [fmL_max]
  have hb : ∀ z : Int, (if max M z < x then (x - max M z) * t else 0) = t * beF x (max M z) := fun z => by
    unfold beF
    by_cases c : max M z < x
    · rw [if_pos c, if_pos c, Int.mul_comm]
    · rw [if_neg c, if_neg c, Int.mul_zero]
  unfold dayL
  rw [gx, fx, List.length_append, List.length_cons, sumTo_app, sumTo_shift, sLl_app, Int.mul_add]
  have p1 : (max x (fmL M (l1 ++ l2)) - x) * wo = wo * abF x (fmL M (l1 ++ l2)) := by
    unfold abF
    by_cases c : x < fmL M (l1 ++ l2)
    · rw [if_pos c, show max x (fmL M (l1 ++ l2)) = fmL M (l1 ++ l2) by omega, Int.mul_comm]
    · rw [if_neg c, show max x (fmL M (l1 ++ l2)) - x = 0 by omega, Int.zero_mul, Int.mul_zero]
  have p2 : sumTo (fun j => if j ≠ (l1.length : Int) ∧ max M ((l1 ++ x :: l2).getD j.toNat 0) < x then (x - max M ((l1 ++ x :: l2).getD j.toNat 0)) * t else 0) l1.length = t * sLl (fun z => beF x (max M z)) l1 := by
    rw [← sLl_getD, ← sumTo_mul]
    refine sumTo_c (fun z a b => ?_)
    rw [getD_app1 (by omega), ← hb]
    by_cases c : max M (l1.getD z.toNat 0) < x
    · rw [if_pos ⟨by omega, c⟩, if_pos c]
    · rw [if_neg (fun h => c h.2), if_neg c]
  have p4 : sumTo (fun z => if ((l1.length : Nat) : Int) + (z + 1) ≠ (l1.length : Int) ∧ max M ((l1 ++ x :: l2).getD (((l1.length : Nat) : Int) + (z + 1)).toNat 0) < x then (x - max M ((l1 ++ x :: l2).getD (((l1.length : Nat) : Int) + (z + 1)).toNat 0)) * t else 0) l2.length = t * sLl (fun z => beF x (max M z)) l2 := by
    rw [← sLl_getD, ← sumTo_mul]
    refine sumTo_c (fun z a b => ?_)
    have e : (((l1.length : Nat) : Int) + (z + 1)).toNat = l1.length + (z.toNat + 1) := by omega
    rw [e, getD_app2, show (x :: l2).getD (z.toNat + 1) 0 = l2.getD z.toNat 0 from rfl, ← hb]
    by_cases c : max M (l2.getD z.toNat 0) < x
    · rw [if_pos ⟨by omega, c⟩, if_pos c]
    · rw [if_neg (fun h => c h.2), if_neg c]
  rw [p1, p2, p4, if_neg (fun h => h.1 (by omega))]
  omega
/-- the cost of p at place i, both ways -/
theorem rest_eq {A : xAs} {M b P a wo t : Int} {ah ah' : Int → Int} {p : Nat} (hp : inc P p) (ha : ah' p = a) (ho : ∀ y, y ≠ (p : Int) → ah' y = ah y) : EXA A M ah' b (gLp P 8) (dayL M wo t (gLp P p).length) = sumTo (fun e => wWt A p e * (wo * TLk A M ah b P p 8 (abF (M - a + wWay A p e b)) + t * ELk A M ah b P p 8 (beF (M - a + wWay A p e b)))) (nE A p) := by
  obtain ⟨post, h1, h2⟩ := gLp_8 hp
  show EX _ _ _ _ _ = _
  rw [h1, EX_mid (H := fun x l => wo * abF x (fmL M l) + t * sLl (fun z => beF x (max M z)) l) (fun l1 l2 x hl => by rw [← hl]; exact dayL_mid)]
  refine sumTo_c (fun e _ _ => ?_)
  have e1 : cmF A M ah' b p e = M - a + wWay A p e b := by unfold cmF; rw [ha]
  rw [e1, ← h2, EX_cc (c' := cmF A M ah b) (fun y hy e => by unfold cmF; rw [ho y (oLp_ne 8 y hy)]), EX_add, EX_mul, EX_mul]
  congr 2
  congr 1
  exact (ES_all (ψ := beF (M - a + wWay A p e b)) 8).1
