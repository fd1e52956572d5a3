/-! rest: the others are gathered -/
def nE (A : xAs) (y : Int) : Nat := (wEnds A y).toNat
def cmF (A : xAs) (M : Int) (ah : Int → Int) (b : Int) (y e : Int) : Int := M - ah y + wWay A y e b
def thF (A : xAs) (M : Int) (ah : Int → Int) (b : Int) (y e : Int) : Int := max M (cmF A M ah b y e)
abbrev EXA (A : xAs) (M : Int) (ah : Int → Int) (b : Int) (ys : List Int) (F : List Int → Int) : Int := EX (nE A) (wWt A) (cmF A M ah b) ys F
def oLp (P p : Int) : Nat → List Int
  | 0 => []
  | k + 1 => if inc P k ∧ (k : Int) ≠ p then oLp P p k ++ [(k : Int)] else oLp P p k
theorem oLp_s {P p : Int} {k : Nat} : oLp P p (k + 1) = if inc P k ∧ (k : Int) ≠ p then oLp P p k ++ [(k : Int)] else oLp P p k := rfl
/-- minutes that may come up -/
def vE (A : xAs) (M : Int) (ah : Int → Int) (b y : Int) : Nat → List Int
  | 0 => []
  | e + 1 => thF A M ah b y e :: vE A M ah b y e
def vO (A : xAs) (M : Int) (ah : Int → Int) (b P p : Int) : Nat → List Int
  | 0 => []
  | k + 1 => if inc P k ∧ (k : Int) ≠ p then vE A M ah b k (nE A k) ++ vO A M ah b P p k else vO A M ah b P p k
theorem vE_in {A : xAs} {M b y : Int} {ah : Int → Int} {e : Nat} : ∀ k : Nat, e < k → thF A M ah b y e ∈ vE A M ah b y k
  | 0, h => by omega
  | k + 1, h => by
    by_cases c : e = k
    · subst c; exact List.mem_cons_self ..
    · exact List.mem_cons_of_mem _ (vE_in k (by omega))
theorem vE_len {A : xAs} {M b y : Int} {ah : Int → Int} : ∀ k : Nat, (vE A M ah b y k).length = k
  | 0 => rfl
  | k + 1 => by show (_ :: vE A M ah b y k).length = _; rw [List.length_cons, vE_len k]
theorem vE_all {A : xAs} {M b y : Int} {ah : Int → Int} {Q : Int → Prop} : ∀ k : Nat, (∀ e : Nat, e < k → Q (thF A M ah b y e)) → ∀ x ∈ vE A M ah b y k, Q x
  | 0, _, x, h => absurd h (List.not_mem_nil)
  | k + 1, hq, x, h => by
    rcases List.mem_cons.mp h with e | e
    · rw [e]; exact hq k (by omega)
    · exact vE_all k (fun j hj => hq j (by omega)) x e
theorem vO_in {A : xAs} {M b P p : Int} {ah : Int → Int} {y : Nat} {e : Nat} (h1 : inc P y) (h2 : (y : Int) ≠ p) (he : e < nE A y) : ∀ k : Nat, y < k → thF A M ah b y e ∈ vO A M ah b P p k
  | 0, h => by omega
  | k + 1, h => by
    show _ ∈ (if inc P k ∧ (k : Int) ≠ p then vE A M ah b k (nE A k) ++ vO A M ah b P p k else vO A M ah b P p k)
    by_cases c : y = k
    · subst c
      rw [if_pos ⟨h1, h2⟩]
      exact List.mem_append_left _ (vE_in _ he)
    · have ih := vO_in (A := A) (M := M) (b := b) (ah := ah) h1 h2 he k (by omega)
      by_cases d : inc P k ∧ (k : Int) ≠ p
      · rw [if_pos d]; exact List.mem_append_right _ ih
      · rw [if_neg d]; exact ih
theorem vO_len {A : xAs} (hI : Inv A) {M b P p : Int} {ah : Int → Int} : ∀ k : Nat, k ≤ 8 → (vO A M ah b P p k).length ≤ 5 * (oLp P p k).length
  | 0, _ => Nat.le_refl _
  | k + 1, hk => by
    have ih := vO_len hI (M := M) (b := b) (P := P) (p := p) (ah := ah) k (by omega)
    have hn := wEnds_b hI (p := k) (by omega)
    rw [oLp_s]
    show (if inc P k ∧ (k : Int) ≠ p then vE A M ah b k (nE A k) ++ vO A M ah b P p k else vO A M ah b P p k).length ≤ _
    by_cases d : inc P k ∧ (k : Int) ≠ p
    · rw [if_pos d, if_pos d, List.length_append, List.length_append, vE_len]
      show nE A k + _ ≤ 5 * (_ + 1)
      unfold nE
      omega
    · rw [if_neg d, if_neg d]; exact ih
theorem vO_all {A : xAs} {M b P p : Int} {ah : Int → Int} {Q : Int → Prop} : ∀ k : Nat, (∀ (y e : Nat), y < k → inc P y → e < nE A y → Q (thF A M ah b y e)) → ∀ x ∈ vO A M ah b P p k, Q x
  | 0, _, x, h => absurd h (List.not_mem_nil)
  | k + 1, hq, x, h => by
    have h' : x ∈ (if inc P k ∧ (k : Int) ≠ p then vE A M ah b k (nE A k) ++ vO A M ah b P p k else vO A M ah b P p k) := h
    by_cases d : inc P k ∧ (k : Int) ≠ p
    · rw [if_pos d] at h'
      rcases List.mem_append.mp h' with e | e
      · exact vE_all _ (fun j hj => hq k j (by omega) d.1 hj) x e
      · exact vO_all k (fun y j hy => hq y j (by omega)) x e
    · rw [if_neg d] at h'
      exact vO_all k (fun y j hy => hq y j (by omega)) x h'
theorem oLp_len {P p : Int} : ∀ k : Nat, ((oLp P p k).length : Int) = sumTo (fun z => if inc P z ∧ z ≠ p then 1 else 0) k
  | 0 => rfl
  | k + 1 => by
    rw [oLp_s, sumTo_s, ← oLp_len k]
    by_cases d : inc P k ∧ (k : Int) ≠ p
    · rw [if_pos d, if_pos d, List.length_append]; rfl
    · rw [if_neg d, if_neg d]; omega
theorem pc_sum {P : Int} (hP : 0 ≤ P ∧ P < 256) : sumTo (fun z => if inc P z then 1 else 0) 8 = pc P := by
  obtain ⟨Q, rfl⟩ := nat_of hP.1
  have h : sumTo (fun z => if inc (Q : Int) z then (1 : Int) else 0) 8 = sumTo (fun z => bitI Q z) 8 := sumTo_c (fun z a b => by
    show (if inc (Q : Int) z then (1 : Int) else 0) = bitI Q z
    rcases bitI_01 Q z with c | c
    · rw [if_neg (by omega), c]
    · rw [if_pos ⟨a, b, c⟩, c])
  rw [h]
  unfold pc pcN bitI
  rw [Int.toNat_natCast]
  simp only [sumTo, Int.toNat_natCast, Nat.reducePow]
  have e : ∀ k : Nat, ((k : Nat) : Int).toNat = k := fun k => Int.toNat_natCast k
  omega
theorem oLp_3 {P p : Int} (hP : 0 ≤ P ∧ P < 256) (hp : inc P p) (h4 : pc P ≤ 4) : (oLp P p 8).length ≤ 3 := by
  have h1 := oLp_len (P := P) (p := p) 8
  have h2 := pc_sum hP
  obtain ⟨k, rfl⟩ := nat_of hp.1
  have h3 := used_sum (f := fun z => if inc P z ∧ z ≠ (k : Int) then 1 else 0) (g := fun z => if inc P z then 1 else 0) (k := k) (by show (if inc P k ∧ (k : Int) ≠ k then (1 : Int) else 0) = 0; rw [if_neg (fun h => h.2 rfl)]) (by show (if inc P k then (1 : Int) else 0) = 1; rw [if_pos hp]) (fun z a b => by
    show (if inc P z then (1 : Int) else 0) = (if inc P z ∧ z ≠ (k : Int) then 1 else 0)
    by_cases c : inc P z
    · rw [if_pos c, if_pos ⟨c, b⟩]
    · rw [if_neg c, if_neg (fun h => c h.1)]) (n := 8) (by have := hp.2.1; omega)
  omega
theorem thF_b {A : xAs} (hI : Inv A) {M b : Int} {ah : Int → Int} (hM : 0 ≤ M ∧ M ≤ 1439) (hah : ∀ y, P8 y → 0 ≤ ah y ∧ ah y ≤ 120) {y : Int} (hy : P8 y) {e : Nat} (he : e < nE A y) : -120 ≤ cmF A M ah b y e ∧ cmF A M ah b y e ≤ 2339 ∧ 0 ≤ thF A M ah b y e ∧ thF A M ah b y e ≤ 2339 := by
  have h1 := hah y hy
  have h2 := wWay_b hI (e := (e : Int)) (b := b) hy (by unfold nE at he; omega)
  unfold thF cmF
  omega
/-- the minutes that may come up, all -/
def vAl (A : xAs) (M : Int) (ah : Int → Int) (b P p : Int) : List Int := M :: vO A M ah b P p 8
theorem vAl_b {A : xAs} (hI : Inv A) {M b P p : Int} {ah : Int → Int} (hM : 0 ≤ M ∧ M ≤ 1439) (hah : ∀ y, P8 y → 0 ≤ ah y ∧ ah y ≤ 120) (hP : 0 ≤ P ∧ P < 256) (hp : inc P p) (h4 : pc P ≤ 4) : bVl (vAl A M ah b P p) := by
  have h1 := oLp_3 hP hp h4
  have h2 := vO_len hI (M := M) (b := b) (P := P) (p := p) (ah := ah) 8 (Nat.le_refl _)
  refine ⟨by unfold vAl; rw [List.length_cons]; omega, fun x hx => ?_⟩
  rcases List.mem_cons.mp hx with e | e
  · omega
  · refine vO_all (Q := fun x => -10000 ≤ x ∧ x ≤ 10000) 8 (fun y j hy hi hj => ?_) x e
    have := thF_b hI (b := b) hM hah (y := y) ⟨by omega, by omega⟩ hj
    omega
theorem vAl_max {A : xAs} {M b P p t x : Int} {ah : Int → Int} (ht : t ∈ vAl A M ah b P p) (hx : x ∈ vAl A M ah b P p) : max t x ∈ vAl A M ah b P p := by
  by_cases c : t ≤ x
  · rw [show max t x = x by omega]; exact hx
  · rw [show max t x = t by omega]; exact ht
/-- the weights of all but two -/
def PRd (A : xAs) (P p y : Int) : Nat → Int
  | 0 => 1
  | k + 1 => if inc P k ∧ (k : Int) ≠ p ∧ (k : Int) ≠ y then PRd A P p y k * wAll A k else PRd A P p y k
theorem eX6_weightsWithout {A : xAs} {ν : xm} {R : xr} {n : Nat} (hC : CH A ν R n) (hI : Inv A) {m p y : Int} (hm : 0 ≤ m ∧ m < A iM 1) (hp : P8 p) (hy : P8 y) : fX6_weightsWithout (oM m) (j32 p) (j32 y) ν = some (l64 (PRd A (A iM_peopleOf m) p y 8)) := by
  have key : xloop xfu (fun v => fX6_weightsWithout_b6 v.1 v.2 (oM m) (j32 p) (j32 y) ν) (l64 1, j32 0) = some (l64 (PRd A (A iM_peopleOf m) p y 8)) := by
    refine xloop_for (fun k : Nat => (l64 (PRd A (A iM_peopleOf m) p y k), j32 k)) 8 (by omega) rfl ?_ ?_
    · intro k hk
      have e1 := eC_includes hC hI hm (p := k) (by omega)
      have e2 := eX10_weightsOf hC (p := k) (by omega)
      have b2 := wAll_b hI (p := k) (by omega)
      show fX6_weightsWithout_b6 (l64 (PRd A (A iM_peopleOf m) p y k)) (j32 k) (oM m) (j32 p) (j32 y) ν = some (.inl (l64 (PRd A (A iM_peopleOf m) p y (k + 1)), j32 ((k + 1 : Nat) : Int)))
      have eY : PRd A (A iM_peopleOf m) p y (k + 1) = if inc (A iM_peopleOf m) k ∧ (k : Int) ≠ p ∧ (k : Int) ≠ y then PRd A (A iM_peopleOf m) p y k * wAll A k else PRd A (A iM_peopleOf m) p y k := rfl
      have eK : j32 ((k + 1 : Nat) : Int) = j32 ((k : Int) + 1) := rfl
      rw [eK]
      generalize PRd A (A iM_peopleOf m) p y (k + 1) = Y at *
      generalize PRd A (A iM_peopleOf m) p y k = X at *
      by_cases c1 : (k : Int) = p
      · rw [if_neg (fun h => h.2.1 c1)] at eY
        rw [eY]
        unfold fX6_weightsWithout_b6
        simp (disch := omega) only [Bool.false_eq_true, lits, jj, jc, jm, Int.cast_ofNat_Int, j_bi0, j_bi1, not_true, not_false_eq_true, if_true, if_false, xe, xok_some, Sum.elim_inl, Sum.elim_inr, Int.reduceEq, Int.reduceLT, Int.reduceLE, Int.reduceAdd, Int.reduceSub, Int.reduceMul, show ¬ (8 : Int) ≤ k by omega, c1, show ¬ (8 : Int) ≤ p by omega]
      · by_cases c2 : (k : Int) = y
        · rw [if_neg (fun h => h.2.2 c2)] at eY
          rw [eY]
          have c3 : ¬ y = p := fun h => c1 (c2.trans h)
          unfold fX6_weightsWithout_b6
          simp (disch := omega) only [Bool.false_eq_true, lits, jj, jc, jm, Int.cast_ofNat_Int, j_bi0, j_bi1, not_true, not_false_eq_true, if_true, if_false, xe, xok_some, Sum.elim_inl, Sum.elim_inr, Int.reduceEq, Int.reduceLT, Int.reduceLE, Int.reduceAdd, Int.reduceSub, Int.reduceMul, show ¬ (8 : Int) ≤ k by omega, c2, c3, show ¬ (8 : Int) ≤ y by omega]
        · by_cases c3 : inc (A iM_peopleOf m) k
          · rw [if_pos ⟨c3, c1, c2⟩] at eY
            rw [eY]
            unfold fX6_weightsWithout_b6
            simp (disch := omega) only [Bool.false_eq_true, lits, jj, jc, jm, Int.cast_ofNat_Int, j_bi0, j_bi1, not_true, not_false_eq_true, if_true, if_false, xe, xok_some, Sum.elim_inl, Sum.elim_inr, Int.reduceEq, Int.reduceLT, Int.reduceLE, Int.reduceAdd, Int.reduceSub, Int.reduceMul, show ¬ (8 : Int) ≤ k by omega, c1, c2, e1, eq_true c3, e2, l_of, l_mul]
          · rw [if_neg (fun h => c3 h.1)] at eY
            rw [eY]
            unfold fX6_weightsWithout_b6
            simp (disch := omega) only [Bool.false_eq_true, lits, jj, jc, jm, Int.cast_ofNat_Int, j_bi0, j_bi1, not_true, not_false_eq_true, if_true, if_false, xe, xok_some, Sum.elim_inl, Sum.elim_inr, Int.reduceEq, Int.reduceLT, Int.reduceLE, Int.reduceAdd, Int.reduceSub, Int.reduceMul, show ¬ (8 : Int) ≤ k by omega, c1, c2, e1, eq_false c3]
    · show fX6_weightsWithout_b6 _ (j32 (8 : Nat)) _ _ _ ν = _
      unfold fX6_weightsWithout_b6
      simp (disch := omega) only [Bool.false_eq_true, lits, jj, jc, jm, Int.cast_ofNat_Int, j_bi0, j_bi1, not_true, not_false_eq_true, if_true, if_false, xe, xok_some, Sum.elim_inl, Sum.elim_inr, Int.reduceEq, Int.reduceLT, Int.reduceLE, Int.reduceAdd, Int.reduceSub, Int.reduceMul, show ((8 : Nat) : Int) = 8 from rfl]
  unfold fX6_weightsWithout
  simp only [lits]
  rw [show (1 : Int64) = l64 1 from rfl, key, xbd_e]
/-- what changes when all are gathered -/
def frT (μ ν : xm) : Prop := (∀ a, (a < 52 ∨ 60 < a) → gi ν a = gi μ a) ∧ ∀ a, (a < 52 ∨ 60 < a) → gl ν a = gl μ a
theorem frT.rf {μ : xm} : frT μ μ := ⟨fun _ _ => rfl, fun _ _ => rfl⟩
theorem frT.tr {μ ν ρ : xm} (h1 : frT μ ν) (h2 : frT ν ρ) : frT μ ρ := ⟨fun a h => (h2.1 a h).trans (h1.1 a h), fun a h => (h2.2 a h).trans (h1.2 a h)⟩
theorem fT.fr {o : Nat} {μ ν : xm} (h : fT o μ ν) (ho : o = 52 ∨ o = 55 ∨ o = 58) : frT μ ν := ⟨fun a q => h.1 a (by omega) (by omega), fun a q => h.2 a (by omega)⟩
theorem frT.CH {A : xAs} {μ ν : xm} {R : xr} {n : Nat} (h : frT μ ν) (hC : CH A μ R n) : CH A ν R n := by
  refine hC.scr (fun o ho => h.1 o ?_) (by rw [h.1 _ (by decide)]) (by rw [h.1 _ (by decide)])
  rcases Nat.lt_or_ge o 52 with c | c
  · exact Or.inl c
  · rcases Nat.lt_or_ge 60 o with d | d
    · exact Or.inr d
    · exfalso
      have : o = 52 ∨ o = 53 ∨ o = 54 ∨ o = 55 ∨ o = 56 ∨ o = 57 ∨ o = 58 ∨ o = 59 ∨ o = 60 := by omega
      rcases this with rfl | rfl | rfl | rfl | rfl | rfl | rfl | rfl | rfl <;> exact absurd ho (by decide)
def RRl (R R' : xr) (a b : Nat) : Prop := R' iC_rest 4 = some a ∧ R' iC_rest 5 = some b ∧ pl2 a b ∧ ∀ i k, ¬ (i = 49 ∧ (k = 4 ∨ k = 5)) → R' i k = R i k
theorem RRl.CH {A : xAs} {ν : xm} {R R' : xr} {n a b : Nat} (h : RRl R R' a b) (hf : xFin R' n) (hC : CH A ν R n) : CH A ν R' n := by
  obtain ⟨q1, q2, q3, q4⟩ := h
  obtain ⟨h1, h2, h3, h4, h5, h6, h7, h8, h9, h10, h11, h12, h13, h14, h15, h16, h17, h18, h19, h20, h21, h22, h23, h24, h25, h26, h27, h28, h29, h30, h31, h32, h33, h34, h35, h36⟩ := hC
  refine ⟨hf, h2, h3, h4, h5, h6, h7, h8, h9, fun m a b => by rw [q4 24 _ (by omega)]; exact h10 m a b, h11, h12, h13, h14, h15, h16, h17, h18, h19, h20, h21, h22, h23, h24, h25, h26, h27, h28, h29, h30, h31, ?_, ?_, ⟨?_, ?_, ⟨a, q1⟩, ⟨b, q2⟩⟩, ?_, h36⟩
  · rw [q1, q2]; intro e; have := Option.some.inj e; omega
  · rw [q4 3 1 (by omega), q4 3 2 (by omega)]; exact h33
  · rw [q1]; intro e; have : a = 58 := Option.some.inj e; omega
  · rw [q2]; intro e; have : b = 58 := Option.some.inj e; omega
  · rw [q4 3 1 (by omega), q4 3 2 (by omega)]; exact h35
theorem pl_of {A : xAs} {ν : xm} {R : xr} {n : Nat} (hC : CH A ν R n) : ∃ a b, RRl R R a b := by
  obtain ⟨h1, h2, ⟨a, ha⟩, b, hb⟩ := hC.lasts
  have h3 := hC.rest
  have x1 := (dy_49_4 hC.fin a ha).1
  have x2 := (dy_49_5 hC.fin b hb).1
  rw [ha, hb] at h3
  rw [ha] at h1
  rw [hb] at h2
  refine ⟨a, b, ha, hb, ?_, fun _ _ _ => rfl⟩
  have n1 : a ≠ 58 := fun e => h1 (by rw [e])
  have n2 : b ≠ 58 := fun e => h2 (by rw [e])
  have n3 : a ≠ b := fun e => h3 (by rw [e])
  rcases x1 with rfl | rfl | rfl
  · rcases x2 with rfl | rfl | rfl
    · exact absurd rfl n3
    · exact Or.inl ⟨rfl, rfl⟩
    · exact absurd rfl n2
  · rcases x2 with rfl | rfl | rfl
    · exact Or.inr ⟨rfl, rfl⟩
    · exact absurd rfl n3
    · exact absurd rfl n2
  · exact absurd rfl n1
