/-! called: both -/
def cQ (A : xAs) (y : Int) (U : Int → Int) (d : Int) : Int := sumTo (fun h => if U (24 * d + h) = 1 then rmF A y d h else 0) 24
def RI (A : xAs) (y : Int) (m : Nat) (ν : xm) (g : Int) : Prop := (∀ k : Nat, k < 168 → gi ν iM_isUsed k = 0 ∨ gi ν iM_isUsed k = 1) ∧ ∃ (u H : Int → Int), GI (FF A y) (cQ A y (gi ν iM_isUsed)) u (gi ν iM_liveFrom) m ∧ g = sumTo (fun z => H (z + 1)) 99 ∧ ∀ v, 1 ≤ v → v ≤ 99 → ((∀ k : Nat, k < 24 * m → gi ν iM_isUsed k = 1 → v ≤ wk A y k) ∧ H v = sumTo u m) ∨ ((∀ k : Nat, k < 24 * m → v ≤ wk A y k → gi ν iM_isUsed k = 1) ∧ H v = rkW A y m v)
theorem cQ_W {A : xAs} {y v : Int} {U : Int → Int} {m : Nat} (h1 : ∀ k : Nat, k < 24 * m → U k = 1 → v ≤ wk A y k) (h2 : ∀ k : Nat, k < 24 * m → v ≤ wk A y k → U k = 1) {u f : Int → Int} (hu : GI (FF A y) (cQ A y U) u f m) : sumTo u m = rkW A y m v := by
  rw [GI_rank hu]
  refine rkf_c (fun d a b => ?_)
  refine sumTo_c (fun h p q => ?_)
  obtain ⟨k, hk⟩ := nat_of (z := 24 * d + h) (by omega)
  have e : wk A y k = wF A y h := by unfold wk; rw [← hk, show (24 * d + h) % 24 = h by omega]
  show (if U (24 * d + h) = 1 then _ else _) = (if v ≤ wF A y h then _ else _)
  rw [hk]
  by_cases c : v ≤ wF A y h
  · rw [if_pos c, if_pos (h2 k (by omega) (by rw [e]; exact c))]
  · rw [if_neg c, if_neg (fun h => c (by rw [← e]; exact h1 k (by omega) h))]
theorem sumTo_low {f : Int → Int} {w x : Int} (hw : 0 ≤ w) : ∀ k : Nat, sumTo (fun z => if z + 1 ≤ w then f z + x else f z) k = sumTo f k + (if (k : Int) ≤ w then (k : Int) else w) * x
  | 0 => by rw [if_pos (by omega)]; show (0 : Int) = 0 + 0 * x; omega
  | k + 1 => by
    rw [sumTo_s, sumTo_s, sumTo_low hw k]
    by_cases c : (k : Int) + 1 ≤ w
    · rw [if_pos (by omega), if_pos c, if_pos (by omega), show ((k + 1 : Nat) : Int) = (k : Int) + 1 from rfl, Int.add_mul]; omega
    · rw [if_neg c, if_neg (show ¬ ((k + 1 : Nat) : Int) ≤ w by omega)]
      by_cases c2 : (k : Int) ≤ w
      · rw [if_pos c2, show w = k by omega]; omega
      · rw [if_neg c2]; omega
theorem cQ_up {A : xAs} {y : Int} {U U' : Int → Int} {k : Nat} (h0 : U k = 0) (h1 : U' k = 1) (ho : ∀ z : Int, 0 ≤ z → z ≠ k → U' z = U z) {d : Int} (hd : 0 ≤ d) : cQ A y U' d = if d = (k : Int) / 24 then cQ A y U d + rmF A y d ((k : Int) % 24) else cQ A y U d := by
  unfold cQ
  by_cases c : d = (k : Int) / 24
  · obtain ⟨e, he⟩ := nat_of (z := (k : Int) % 24) (by omega)
    rw [if_pos c, he, show rmF A y d e = if e < 24 then rmF A y d e else 0 by rw [if_pos (by omega)], ← sumTo_at]
    refine sumTo_c (fun h p q => ?_)
    by_cases r : h = e
    · rw [if_pos r, show 24 * d + h = k by omega, h1, h0, if_pos rfl, if_neg (by omega), r]; omega
    · rw [if_neg r, ho _ (by omega) (by omega)]
  · rw [if_neg c]
    refine sumTo_c (fun h p q => ?_)
    rw [ho _ (by omega) (by omega)]
theorem rc233 {ν : xm} {k : Nat} (hk : k < 168) {r : Int} (hr : 0 ≤ r ∧ r ≤ 60) (hf : ∀ i : Nat, i < k / 24 + 1 → 0 ≤ gi ν iM_liveFrom i ∧ gi ν iM_liveFrom i ≤ 86400) : xloop xfu (fun v => fX12_called_b233 v.1 v.2 (j32 k) ν) (j32 r, j32 0) = some (j32 (mnF r (gi ν iM_liveFrom) (k / 24 + 1))) := by
  have dv : j32 (k : Int) / j32 24 = j32 ((k / 24 : Nat) : Int) := by
    rw [j_div (by omega) (by omega), Int.tdiv_eq_ediv_of_nonneg (by omega)]; congr 1
  refine xloop_for (fun i : Nat => (j32 (mnF r (gi ν iM_liveFrom) i), j32 i)) (k / 24 + 1) (by omega) rfl ?_ ?_
  · intro i hi
    have hm := mnF_ok hr.1 i (fun j hj => (hf j (by omega)).1)
    have hfi := hf i hi
    show fX12_called_b233 (j32 (mnF r _ i)) (j32 i) (j32 k) ν = _
    rw [mnF_s]
    unfold fX12_called_b233
    by_cases c : mnF r (gi ν iM_liveFrom) i ≤ gi ν iM_liveFrom i
    · simp (disch := omega) only [Bool.false_eq_true, lits, jj, jc, jm, Int.cast_ofNat_Int, j_bi0, j_bi1, not_true, not_false_eq_true, if_true, if_false, xe, xok_some, Sum.elim_inl, Sum.elim_inr, Int.reduceEq, Int.reduceLT, Int.reduceLE, Int.reduceAdd, Int.reduceSub, Int.reduceMul, dv, show ¬ ((k / 24 : Nat) : Int) < i by omega, c, show min (mnF r (gi ν iM_liveFrom) i) (gi ν iM_liveFrom i) = mnF r (gi ν iM_liveFrom) i by omega]
      rfl
    · simp (disch := omega) only [Bool.false_eq_true, lits, jj, jc, jm, Int.cast_ofNat_Int, j_bi0, j_bi1, not_true, not_false_eq_true, if_true, if_false, xe, xok_some, Sum.elim_inl, Sum.elim_inr, Int.reduceEq, Int.reduceLT, Int.reduceLE, Int.reduceAdd, Int.reduceSub, Int.reduceMul, dv, show ¬ ((k / 24 : Nat) : Int) < i by omega, c, show min (mnF r (gi ν iM_liveFrom) i) (gi ν iM_liveFrom i) = gi ν iM_liveFrom i by omega]
      rfl
  · show fX12_called_b233 _ (j32 ((k / 24 + 1 : Nat) : Int)) (j32 k) ν = _
    unfold fX12_called_b233
    simp (disch := omega) only [Bool.false_eq_true, lits, jj, jc, jm, Int.cast_ofNat_Int, j_bi0, j_bi1, not_true, not_false_eq_true, if_true, if_false, xe, xok_some, Sum.elim_inl, Sum.elim_inr, Int.reduceEq, Int.reduceLT, Int.reduceLE, Int.reduceAdd, Int.reduceSub, Int.reduceMul, dv, show ((k / 24 : Nat) : Int) < ((k / 24 + 1 : Nat) : Int) by omega]
theorem rc278 {ν : xm} {k : Nat} (hk : k < 168) {w : Int} (hw : 0 ≤ w ∧ w ≤ 60) (hf : ∀ i : Nat, i < k / 24 + 1 → 0 ≤ gi ν iM_liveFrom i ∧ gi ν iM_liveFrom i ≤ 86400) : xok (xloop xfu (fun v => fX12_called_b278 v.1 v.2 (j32 k) (j32 w)) (j32 0, ν)) (fun ν' => (∀ o, o ≠ iM_liveFrom → gi ν' o = gi ν o) ∧ ∀ i : Nat, i < 7 → gi ν' iM_liveFrom i = if i < k / 24 + 1 then gi ν iM_liveFrom i - w else gi ν iM_liveFrom i) := by
  have dv : j32 (k : Int) / j32 24 = j32 ((k / 24 : Nat) : Int) := by
    rw [j_div (by omega) (by omega), Int.tdiv_eq_ediv_of_nonneg (by omega)]; congr 1
  refine xok_for (fun i s => s.1 = j32 i ∧ (∀ o, o ≠ iM_liveFrom → gi s.2 o = gi ν o) ∧ ∀ j : Nat, j < 7 → gi s.2 iM_liveFrom j = if j < i then gi ν iM_liveFrom j - w else gi ν iM_liveFrom j) (k / 24 + 1) (by omega) ⟨rfl, fun _ _ => rfl, fun j hj => by rw [if_neg (by omega)]⟩ ?_ ?_
  · intro i s hi hs
    obtain ⟨s1, σ⟩ := s
    obtain ⟨g1, g2, g3⟩ := hs
    simp only at g1 g2 g3
    subst g1
    have h1 := g3 i (by omega)
    rw [if_neg (by omega)] at h1
    have hfi := hf i hi
    show xok (fX12_called_b278 (j32 i) σ (j32 k) (j32 w)) _
    unfold fX12_called_b278
    simp (disch := omega) only [Bool.false_eq_true, lits, jj, jc, jm, Int.cast_ofNat_Int, j_bi0, j_bi1, not_true, not_false_eq_true, if_true, if_false, xe, xok_some, Sum.elim_inl, Sum.elim_inr, Int.reduceEq, Int.reduceLT, Int.reduceLE, Int.reduceAdd, Int.reduceSub, Int.reduceMul, dv, show ¬ ((k / 24 : Nat) : Int) < i by omega, h1]
    refine ⟨rfl, fun o ho => (gi_wr_f ho).trans (g2 o ho), fun j hj => ?_⟩
    rw [gi_wr_if (by omega) (by omega)]
    by_cases c : j = i
    · subst c; rw [if_pos rfl, if_pos (by omega)]
    · rw [if_neg (by omega), g3 j hj]
      by_cases c2 : j < i
      · rw [if_pos c2, if_pos (by omega)]
      · rw [if_neg c2, if_neg (by omega)]
  · intro s hs
    obtain ⟨s1, σ⟩ := s
    obtain ⟨g1, g2, g3⟩ := hs
    simp only at g1 g2 g3
    subst g1
    show xok (fX12_called_b278 (j32 ((k / 24 + 1 : Nat) : Int)) σ (j32 k) (j32 w)) _
    unfold fX12_called_b278
    simp (disch := omega) only [Bool.false_eq_true, lits, jj, jc, jm, Int.cast_ofNat_Int, j_bi0, j_bi1, not_true, not_false_eq_true, if_true, if_false, xe, xok_some, Sum.elim_inl, Sum.elim_inr, Int.reduceEq, Int.reduceLT, Int.reduceLE, Int.reduceAdd, Int.reduceSub, Int.reduceMul, dv, show ((k / 24 : Nat) : Int) < ((k / 24 + 1 : Nat) : Int) by omega]
    exact ⟨g2, g3⟩
theorem RI_b {A : xAs} (hI : Inv A) {y : Int} {m : Nat} {ν : xm} {g : Int} (h : RI A y m ν g) : ∀ i : Nat, i < m → 0 ≤ gi ν iM_liveFrom i ∧ gi ν iM_liveFrom i ≤ 86400 := by
  obtain ⟨_, u, H, h1, _⟩ := h
  intro i hi
  have a := h1.2.1 i hi
  have b := FF_b hI (y := y) (d := i)
  have key : ∀ k : Nat, k ≤ m → i ≤ k → sumTo u i ≤ sumTo u k := by
    intro k
    induction k with
    | zero => intro _ h; rw [show i = 0 by omega]; exact Int.le_refl _
    | succ k ih =>
      intro h1' h2
      by_cases e : i = k + 1
      · subst e; exact Int.le_refl _
      · have := ih (by omega) (by omega)
        have := (h1.1 k (by omega)).1
        rw [sumTo_s]; omega
  have := key m (Nat.le_refl _) (by omega)
  omega
/-- one hour is used -/
theorem rc187 {A : xAs} {ν : xm} (hA : RH A ν) (hI : Inv A) {y : Int} (hy : 0 ≤ y ∧ y < 8) {m : Nat} (hm : 1 ≤ m ∧ m ≤ 7) {g : Int} (hr : RI A y m ν g) {k : Nat} (hk : k < 24 * m) (hd : dr A y (gi ν iM_isUsed) (24 * m) = k) : ∃ g' ν', fX12_called_b187 (l64 g) (j32 k) ν (j32 y) (j32 m) = some (.inl (l64 g', j32 (dr A y (gi ν' iM_isUsed) (24 * m)), ν')) ∧ RI A y m ν' g' ∧ frV ν ν' ∧ gi ν iM_isUsed k = 0 ∧ gi ν' iM_isUsed k = 1 ∧ ∀ z : Int, 0 ≤ z → z ≠ (k : Int) → gi ν' iM_isUsed z = gi ν iM_isUsed z := by
  have hb := RI_b hI hr
  obtain ⟨h01, u, H, hu, hg, hv⟩ := hr
  have hdo := (dr_ok (A := A) (y := y) (U := gi ν iM_isUsed) (24 * m)).2.2 (by rw [hd]; omega)
  rw [hd] at hdo
  have hrm := rmF_b hI (y := y) (d := (k : Int) / 24) (h := (k : Int) % 24) hy (by omega)
  have ht := hI.tookIn (24 * y + (k : Int) % 24) (by omega) (by omega)
  have hwk := wF_b hI hy (h := (k : Int) % 24) (by omega)
  obtain ⟨ν1, hν1⟩ : ∃ ν1, ν1 = wr ν iM_isUsed k 1 := ⟨_, rfl⟩
  have q1 : ∀ i : Nat, gi ν1 iM_liveFrom i = gi ν iM_liveFrom i := fun i => by rw [hν1, gi_wr_o (by decide)]
  have hb1 : ∀ i : Nat, i < k / 24 + 1 → 0 ≤ gi ν1 iM_liveFrom i ∧ gi ν1 iM_liveFrom i ≤ 86400 := fun i hi => by rw [q1]; exact hb i (by omega)
  have e1 := rc233 (ν := ν1) (k := k) (by omega) hrm hb1
  have hmn := mnF_ok hrm.1 (k / 24 + 1) (fun i hi => (hb1 i hi).1)
  obtain ⟨x, hx⟩ : ∃ x, mnF (rmF A y ((k : Int) / 24) ((k : Int) % 24)) (gi ν1 iM_liveFrom) (k / 24 + 1) = x := ⟨_, rfl⟩
  rw [hx] at e1 hmn
  obtain ⟨ν', e2, e3, e4⟩ := rc278 (ν := ν1) (k := k) (by omega) (w := x) (by omega) hb1
  have fr : frV ν ν' := fun o a b => by rw [e3 o a, hν1]; exact gi_wr_f b
  have hA' := fr.RH hA
  have hA1 : RH A ν1 := by
    refine frV.RH (μ := ν) (fun o a b => ?_) hA
    rw [hν1]; exact gi_wr_f b
  have e5 := eX12_dearest hA' hI hy hm.2
  have w1 : gi ν' iM_isUsed k = 1 := by rw [e3 _ (by decide), hν1, gi_wr (by omega)]
  have w2 : ∀ z : Int, 0 ≤ z → z ≠ (k : Int) → gi ν' iM_isUsed z = gi ν iM_isUsed z := fun z a b => by rw [e3 _ (by decide), hν1, gi_wr_z (by omega)]
  have ew : gi ν' iM_worthOf (24 * y + (k : Int) % 24) = wF A y ((k : Int) % 24) := by rw [RH.at hA' (by decide)]; rfl
  have et : gi ν1 iM_tookIn (24 * y + k) = A iM_tookIn (24 * y + k) := by rw [RH.at hA1 (by decide)]
  have mk : j32 (k : Int) - j32 (k : Int) / j32 24 * j32 24 = j32 ((k : Int) % 24) := by
    rw [j_div (by omega) (by omega), Int.tdiv_eq_ediv_of_nonneg (by omega), j_mul, j_sub]; congr 1; omega
  have g228 : fX12_called_j228 (j32 (rmF A y ((k : Int) / 24) ((k : Int) % 24))) (j32 y) (j32 m) (l64 g) (j32 k) ν1 = some (.inl (l64 (g + wk A y k * x), j32 (dr A y (gi ν' iM_isUsed) (24 * m)), ν')) := by
    unfold fX12_called_j228
    simp only [lits] at e1 e2 ⊢
    rw [e1, xbd_e, e2, xbd_e, mk, j_mul, j_add, j_gI (by omega), xbd_e, ew, xlt_e, l_of (by omega), l_of (by omega), l_mul, l_add, e5, xbd_e, Int.mul_comm x]
    rfl
  refine ⟨g + wk A y k * x, ν', ?_, ⟨fun i hi => ?_, ?_⟩, fr, hdo.1, w1, w2⟩
  · unfold fX12_called_b187
    simp only [lits]
    rw [if_neg (by rw [show -j32 1 = j32 (-1) from rfl, j_eq (by omega) (by omega)]; omega), j_sZ (by omega) (Or.inr rfl), xbd_e, ← hν1]
    by_cases c : (24 : Int) ≤ k
    · rw [if_pos (by rw [j_le (by omega) (by omega)]; exact c), ← g228]
      rw [show rmF A y ((k : Int) / 24) ((k : Int) % 24) = 60 from if_neg (by omega)]
    · rw [if_neg (by rw [j_le (by omega) (by omega)]; exact c), j_mul, j_add, j_gI (by omega), xbd_e, et, j_sub, ← g228]
      rw [show rmF A y ((k : Int) / 24) ((k : Int) % 24) = 60 - A iM_tookIn (24 * y + (k : Int) % 24) from if_pos (by omega), show (k : Int) % 24 = k by omega]
  · by_cases c : i = k
    · subst c; exact Or.inr w1
    · rw [w2 i (by omega) (by omega)]; exact h01 i hi
  · have hd24 : k / 24 < m := by omega
    obtain ⟨u', hu', hs'⟩ := GI_step hu hd24 (r := rmF A y ((k : Int) / 24) ((k : Int) % 24)) (w := x) hmn.1 (fun i hi => by have := hmn.2.1 i (by omega); rw [q1] at this; exact this) (hmn.2.2.imp id (fun ⟨i, a, b⟩ => ⟨i, by omega, by rw [← q1]; exact b⟩)) (c' := cQ A y (gi ν' iM_isUsed)) (f' := gi ν' iM_liveFrom) (fun z hz => by
      rw [cQ_up hdo.1 w1 w2 (by omega)]
      by_cases c : z = k / 24
      · rw [if_pos (by omega), if_pos c, show (z : Int) = (k : Int) / 24 by omega]
      · rw [if_neg (by omega), if_neg c]) (fun i hi => by
      rw [e4 i (by omega), q1]
      by_cases c : i ≤ k / 24
      · rw [if_pos c, if_pos (by omega)]
      · rw [if_neg c, if_neg (by omega)])
    refine ⟨u', fun v => if v ≤ wk A y k then H v + x else H v, hu', ?_, fun v v1 v2 => ?_⟩
    · have hl := sumTo_low (f := fun z => H (z + 1)) (w := wk A y k) (x := x) hwk.1 99
      rw [hl, hg]
      by_cases c : ((99 : Nat) : Int) ≤ wk A y k
      · rw [if_pos c, show wk A y k = ((99 : Nat) : Int) by have := hwk.2; unfold wk at c ⊢; omega]
      · rw [if_neg c]
    · by_cases c : v ≤ wk A y k
      · rw [show (fun v => if v ≤ wk A y k then H v + x else H v) v = H v + x from if_pos c]
        rcases hv v v1 v2 with ⟨p1, p2⟩ | ⟨p1, p2⟩
        · refine Or.inl ⟨fun j hj hj1 => ?_, by rw [hs', p2]⟩
          by_cases e : j = k
          · subst e; exact c
          · rw [w2 j (by omega) (by omega)] at hj1; exact p1 j hj hj1
        · have := p1 k hk c
          have := hdo.1
          omega
      · rw [show (fun v => if v ≤ wk A y k then H v + x else H v) v = H v from if_neg c]
        rcases hv v v1 v2 with ⟨p1, p2⟩ | ⟨p1, p2⟩
        · have all : ∀ j : Nat, j < 24 * m → v ≤ wk A y j → gi ν iM_isUsed j = 1 := fun j hj hw => by
            rcases h01 j (by omega) with z | z
            · have := hdo.2 j hj z; omega
            · exact z
          refine Or.inr ⟨fun j hj hw => ?_, by rw [p2]; exact cQ_W p1 all hu⟩
          by_cases e : j = k
          · subst e; exact w1
          · rw [w2 j (by omega) (by omega)]; exact all j hj hw
        · refine Or.inr ⟨fun j hj hw => ?_, p2⟩
          by_cases e : j = k
          · subst e; exact w1
          · rw [w2 j (by omega) (by omega)]; exact p1 j hj hw
theorem RI_end {A : xAs} {y : Int} {m : Nat} {ν : xm} {g : Int} (hr : RI A y m ν g) (hall : ∀ k : Nat, k < 24 * m → gi ν iM_isUsed k ≠ 0) (hm : m ≤ 7) : g = gainF A y m := by
  obtain ⟨h01, u, H, hu, hg, hv⟩ := hr
  rw [hg]
  refine sumTo_c (fun z a b => ?_)
  have one : ∀ k : Nat, k < 24 * m → gi ν iM_isUsed k = 1 := fun k hk => (h01 k (by omega)).resolve_left (hall k hk)
  rcases hv (z + 1) (by omega) (by omega) with ⟨p1, p2⟩ | ⟨p1, p2⟩
  · show H (z + 1) = _
    rw [p2]; exact cQ_W p1 (fun k hk _ => one k hk) hu
  · exact p2
theorem used_sum {f g : Int → Int} {k : Nat} (h0 : f k = 0) (h1 : g k = 1) (ho : ∀ z : Int, 0 ≤ z → z ≠ k → g z = f z) {n : Nat} (hk : k < n) : sumTo g n = sumTo f n + 1 := by
  have h := sumTo_at (u := f) (d := k) (w := 1) n
  rw [if_pos hk] at h
  rw [← h]
  refine sumTo_c (fun z a b => ?_)
  by_cases c : z = k
  · rw [if_pos c, c, h1, h0]; rfl
  · rw [if_neg c]; exact ho z a c
theorem called_ref {A : xAs} {μ : xm} (hA : RH A μ) (hI : Inv A) {y : Int} (hy : 0 ≤ y ∧ y < 8) {m : Nat} (hm : 1 ≤ m ∧ m ≤ 7) : ∃ ν, fX12_called_j47 (j32 m) (j32 y) μ = some (l64 (gainF A y m), ν) ∧ frV μ ν := by
  obtain ⟨ν1, r1, r2, r3⟩ := rc51 hA hI hy hm.2
  obtain ⟨ν2, t1, t2, t3⟩ := rc154 (μ := ν1)
  have f2 : frV μ ν2 := fun o a b => (t2 o b).trans (r2 o a b)
  have hA2 := f2.RH hA
  have e1 := eX12_dearest hA2 hI hy hm.2
  have hRI : RI A y m ν2 0 := by
    refine ⟨fun k hk => Or.inl (t3 k hk), fun _ => 0, fun _ => 0, GI_0 (fun i hi => ⟨by rw [t2 _ (by decide)]; exact r3 i hi, (FF_b hI).1⟩) (fun d hd => ?_), (sumTo_zero 99).symm, fun v v1 v2 => Or.inl ⟨fun k hk h => ?_, (sumTo_zero m).symm⟩⟩
    · refine (sumTo_c (g := fun _ => 0) (fun h a b => ?_)).trans (sumTo_zero _)
      obtain ⟨k, hk⟩ := nat_of (z := 24 * (d : Int) + h) (by omega)
      show (if gi ν2 iM_isUsed (24 * (d : Int) + h) = 1 then _ else _) = (0 : Int)
      rw [hk, t3 k (by omega), if_neg (by omega)]
    · rw [t3 k (by omega)] at h; omega
  have key : xok (xloop xfu (fun v => fX12_called_b187 v.1 v.2.1 v.2.2 (j32 y) (j32 m)) (l64 0, j32 (dr A y (gi ν2 iM_isUsed) (24 * m)), ν2)) (fun q => q.1 = l64 (gainF A y m) ∧ frV μ q.2) := by
    refine xok_while (fun s => s.2.1 = j32 (dr A y (gi s.2.2 iM_isUsed) (24 * m)) ∧ frV μ s.2.2 ∧ ∃ g, s.1 = l64 g ∧ RI A y m s.2.2 g) (fun s => (168 - sumTo (gi s.2.2 iM_isUsed) 168).toNat) ?_ ⟨rfl, f2, 0, rfl, hRI⟩ ?_
    · have : sumTo (gi ν2 iM_isUsed) 168 = 0 := (sumTo_c (g := fun _ => 0) (fun z a b => by
        obtain ⟨k, rfl⟩ := nat_of a
        exact t3 k (by omega))).trans (sumTo_zero _)
      show (168 - sumTo (gi ν2 iM_isUsed) 168).toNat < 1000000
      omega
    · intro s hs
      obtain ⟨s1, s2, σ⟩ := s
      obtain ⟨g1, g2, g, g3, g4⟩ := hs
      simp only at g1 g2 g3 g4
      subst g1; subst g3
      have hdo := dr_ok (A := A) (y := y) (U := gi σ iM_isUsed) (24 * m)
      show xok (fX12_called_b187 (l64 g) (j32 (dr A y (gi σ iM_isUsed) (24 * m))) σ _ _) _
      by_cases c : dr A y (gi σ iM_isUsed) (24 * m) = -1
      · have e := RI_end g4 (hdo.2.1 c) hm.2
        rw [c]
        unfold fX12_called_b187
        simp (disch := omega) only [Bool.false_eq_true, lits, jj, jc, jm, Int.cast_ofNat_Int, j_bi0, j_bi1, not_true, not_false_eq_true, if_true, if_false, xe, xok_some, Sum.elim_inl, Sum.elim_inr, Int.reduceEq, Int.reduceLT, Int.reduceLE, Int.reduceAdd, Int.reduceSub, Int.reduceMul]
        exact ⟨by rw [e], g2⟩
      · obtain ⟨k, hk⟩ := nat_of (z := dr A y (gi σ iM_isUsed) (24 * m)) (by omega)
        rw [hk]
        obtain ⟨g', ν', p1, p2, p3, p4, p5, p6⟩ := rc187 (g2.RH hA) hI hy hm g4 (k := k) (by omega) hk
        refine ⟨_, p1, ⟨rfl, g2.tr p3, g', rfl, p2⟩, ?_⟩
        have hsum := used_sum p4 p5 p6 (n := 168) (by omega)
        have hbd := sumTo_b (f := gi ν' iM_isUsed) (B := 1) (k := 168) (fun z a b => by
          obtain ⟨i, rfl⟩ := nat_of a
          rcases p2.1 i (by omega) with z | z <;> omega)
        show (168 - sumTo (gi ν' iM_isUsed) 168).toNat < (168 - sumTo (gi σ iM_isUsed) 168).toNat
        omega
  obtain ⟨q, q1, q2, q3⟩ := key
  refine ⟨q.2, ?_, q3⟩
  unfold fX12_called_j47
  simp only [lits] at r1 t1 ⊢
  rw [r1, xbd_e, t1, xbd_e, e1, xbd_e, show (0 : Int64) = l64 0 from rfl, q1, xbd_e, q2]
theorem s_called {A : xAs} {μ : xm} {R : xr} {n : Nat} (hA : RH A μ) (hC : CH A μ R n) (hI : Inv A) (a1 a2 : Int32) : ∃ q, fX11_called a1 a2 μ = some q ∧ ∃ q2, fX12_called a1 a2 q.2 = some q2 ∧ q2.1 = q.1 ∧ xStp μ R n q2.2 := by
  obtain ⟨y, rfl, hy⟩ := j32_ex a1
  obtain ⟨d, rfl, hd⟩ := j32_ex a2
  have h0 := hI.now
  have e1 := eX11_isPerson hy
  have e2 := eX11_within hd (a := 0) (b := 6) (by omega) (by omega)
  have e3 := eX12_isPerson hy
  have e4 := eX12_in hd (a := 0) (b := 6) (by omega) (by omega)
  have d0 := hC.now
  by_cases c1 : 0 ≤ y ∧ y < 8
  · by_cases c2 : 0 ≤ d ∧ d ≤ 6
    · obtain ⟨m, hm⟩ := nat_of (z := min d (99 - A iM 0) + 1) (by omega)
      obtain ⟨ν, r1, r2⟩ := callIn_ok hC hI c1 c2 (m := m) hm.symm
      have hA1 : RH A ν := RH.keep hA (fun o a b => r2 o (by show o ≠ 34; omega))
      have k1 : LK μ ν := LK.of (fun o a => r2 o (by show o ≠ 34; omega))
      obtain ⟨ρ, t1, t2⟩ := called_ref hA1 hI c1 (m := m) (by omega)
      have d1 : gi ν iM 0 = A iM 0 := (RH.sc hA1).1
      refine ⟨(l64 (gainF A y m), ν), ?_, (l64 (gainF A y m), ρ), ?_, rfl, k1.tr (LK.of (fun o a => t2 o (by show o ≠ 91; omega) (by show o ≠ 92; omega))), A, t2.RH hA1, (r2.CH hC).ref (fun o a => t2 o (by show o ≠ 91; omega) (by show o ≠ 92; omega)), hI⟩
      · unfold fX11_called
        simp (disch := omega) only [Bool.false_eq_true, lits, jj, jc, jm, Int.cast_ofNat_Int, j_bi0, j_bi1, not_true, not_false_eq_true, if_true, if_false, xe, xok_some, Sum.elim_inl, Sum.elim_inr, Int.reduceEq, Int.reduceLT, Int.reduceLE, Int.reduceAdd, Int.reduceSub, Int.reduceMul, e1, eq_true c1, e2, eq_true c2, d0, r1]
      · unfold fX12_called
        by_cases c3 : A iM 0 + d ≤ 99
        · simp (disch := omega) only [Bool.false_eq_true, lits, jj, jc, jm, Int.cast_ofNat_Int, j_bi0, j_bi1, not_true, not_false_eq_true, if_true, if_false, xe, xok_some, Sum.elim_inl, Sum.elim_inr, Int.reduceEq, Int.reduceLT, Int.reduceLE, Int.reduceAdd, Int.reduceSub, Int.reduceMul, e3, eq_true c1, e4, eq_true c2, d1, c3, show d + 1 = (m : Int) by omega, t1]
        · simp (disch := omega) only [Bool.false_eq_true, lits, jj, jc, jm, Int.cast_ofNat_Int, j_bi0, j_bi1, not_true, not_false_eq_true, if_true, if_false, xe, xok_some, Sum.elim_inl, Sum.elim_inr, Int.reduceEq, Int.reduceLT, Int.reduceLE, Int.reduceAdd, Int.reduceSub, Int.reduceMul, e3, eq_true c1, e4, eq_true c2, d1, c3, show 99 - A iM 0 + 1 = (m : Int) by omega, t1]
    · refine ⟨(l64 (-1), μ), ?_, (l64 (-1), μ), ?_, rfl, xStp.same hA hC hI⟩
      · unfold fX11_called
        simp (disch := omega) only [Bool.false_eq_true, lits, jj, jc, jm, Int.cast_ofNat_Int, j_bi0, j_bi1, not_true, not_false_eq_true, if_true, if_false, xe, xok_some, Sum.elim_inl, Sum.elim_inr, Int.reduceEq, Int.reduceLT, Int.reduceLE, Int.reduceAdd, Int.reduceSub, Int.reduceMul, e1, eq_true c1, e2, eq_false c2]
        rfl
      · unfold fX12_called
        simp (disch := omega) only [Bool.false_eq_true, lits, jj, jc, jm, Int.cast_ofNat_Int, j_bi0, j_bi1, not_true, not_false_eq_true, if_true, if_false, xe, xok_some, Sum.elim_inl, Sum.elim_inr, Int.reduceEq, Int.reduceLT, Int.reduceLE, Int.reduceAdd, Int.reduceSub, Int.reduceMul, e3, eq_true c1, e4, eq_false c2]
        rfl
  · refine ⟨(l64 (-1), μ), ?_, (l64 (-1), μ), ?_, rfl, xStp.same hA hC hI⟩
    · unfold fX11_called
      simp (disch := omega) only [Bool.false_eq_true, lits, jj, jc, jm, Int.cast_ofNat_Int, j_bi0, j_bi1, not_true, not_false_eq_true, if_true, if_false, xe, xok_some, Sum.elim_inl, Sum.elim_inr, Int.reduceEq, Int.reduceLT, Int.reduceLE, Int.reduceAdd, Int.reduceSub, Int.reduceMul, e1, eq_false c1]
      rfl
    · unfold fX12_called
      simp (disch := omega) only [Bool.false_eq_true, lits, jj, jc, jm, Int.cast_ofNat_Int, j_bi0, j_bi1, not_true, not_false_eq_true, if_true, if_false, xe, xok_some, Sum.elim_inl, Sum.elim_inr, Int.reduceEq, Int.reduceLT, Int.reduceLE, Int.reduceAdd, Int.reduceSub, Int.reduceMul, e3, eq_false c1]
      rfl
