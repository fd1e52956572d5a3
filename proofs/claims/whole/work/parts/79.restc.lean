/-! rest: the class's turns -/
def nAf (A : xAs) (m t : Int) (ah : Int → Int) (p : Int) : Int := 5 * (amF (fun i => l64 (cRst A m t ah p 2 i)) 24 : Nat)
theorem nAf_b {A : xAs} {m t p : Int} {ah : Int → Int} : 0 ≤ nAf A m t ah p ∧ nAf A m t ah p ≤ 120 := by
  have := amF_le (c := fun i => l64 (cRst A m t ah p 2 i)) 24
  unfold nAf; omega
def rTp (A : xAs) (m t : Int) (ah : Int → Int) : Nat → (Int → Int)
  | 0 => ah
  | k + 1 => if inc (A iM_peopleOf m) k then up1 (rTp A m t ah k) k (nAf A m t (rTp A m t ah k) k) else rTp A m t ah k
def fTp (A : xAs) (m t : Int) (ah : Int → Int) : Nat → Int
  | 0 => 0
  | k + 1 => if inc (A iM_peopleOf m) k ∧ nAf A m t (rTp A m t ah k) k ≠ rTp A m t ah k k then 1 else fTp A m t ah k
theorem rTp_s {A : xAs} {m t : Int} {ah : Int → Int} {k : Nat} : rTp A m t ah (k + 1) = if inc (A iM_peopleOf m) k then up1 (rTp A m t ah k) k (nAf A m t (rTp A m t ah k) k) else rTp A m t ah k := rfl
theorem fTp_s {A : xAs} {m t : Int} {ah : Int → Int} {k : Nat} : fTp A m t ah (k + 1) = if inc (A iM_peopleOf m) k ∧ nAf A m t (rTp A m t ah k) k ≠ rTp A m t ah k k then 1 else fTp A m t ah k := rfl
theorem fTp_01 {A : xAs} {m t : Int} {ah : Int → Int} : ∀ k, fTp A m t ah k = 0 ∨ fTp A m t ah k = 1
  | 0 => Or.inl rfl
  | k + 1 => by
    have := fTp_01 (A := A) (m := m) (t := t) (ah := ah) k
    rw [fTp_s]; split <;> omega
abbrev ahB (ah : Int → Int) : Prop := ∀ z, P8 z → 0 ≤ ah z ∧ ah z ≤ 120
theorem rTp_b {A : xAs} {m t : Int} {ah : Int → Int} (h : ahB ah) : ∀ k, ahB (rTp A m t ah k)
  | 0 => h
  | k + 1 => fun z hz => by
    have ih := rTp_b (A := A) (m := m) (t := t) h k z hz
    have hn := nAf_b (A := A) (m := m) (t := t) (p := k) (ah := rTp A m t ah k)
    rw [rTp_s]
    split
    · by_cases e : z = k
      · rw [e, up1_s]; exact hn
      · rw [up1_n e]; exact ih
    · exact ih
def rUp (A : xAs) (m t : Int) : Nat → (Int → Int)
  | 0 => fun _ => 0
  | n + 1 => rTp A m t (rUp A m t n) 8
theorem rUp_b {A : xAs} {m t : Int} : ∀ n, ahB (rUp A m t n)
  | 0 => fun z _ => by show (0 : Int) ≤ 0 ∧ (0 : Int) ≤ 120; omega
  | n + 1 => rTp_b (rUp_b n) 8
def frD (μ ν : xm) : Prop := ∀ a, (a < 50 ∨ 60 < a) → gi ν a = gi μ a
theorem frD.tr {μ ν ρ : xm} (h1 : frD μ ν) (h2 : frD ν ρ) : frD μ ρ := fun a h => (h2 a h).trans (h1 a h)
theorem frC.d {μ ν : xm} (h : frC μ ν) : frD μ ν := fun a q => h.1 a (by omega)
theorem cr22 {A : xAs} {ν : xm} {R : xr} {n a c : Nat} (hC : CH A ν R n) (hI : Inv A) {m t : Int} {ah : Int → Int} (hm : 0 ≤ m ∧ m < A iM 1) (h4 : pc (A iM_peopleOf m) ≤ 4) (ht : 0 ≤ t ∧ t ≤ 99) (hah : ahB ah) (hg : ∀ z, P8 z → gi ν iC_rest_aheads z = ah z) (hR : RRl R R a c) : xok (xloop xfu (fun v => fX6_comeToRest_b22 v.1 v.2.1 v.2.2.1 v.2.2.2 (oM m) (j32 t)) (j32 0, j32 0, ν, R)) (fun q => q.1 = j32 (fTp A m t ah 8) ∧ (∀ z, P8 z → gi q.2.1 iC_rest_aheads z = rTp A m t ah 8 z) ∧ (∃ a' c', RRl R q.2.2 a' c') ∧ CH A q.2.1 q.2.2 n ∧ frD ν q.2.1) := by
  refine xok_for (fun k s => s.1 = j32 (fTp A m t ah k) ∧ s.2.1 = j32 k ∧ (∀ z, P8 z → gi s.2.2.1 iC_rest_aheads z = rTp A m t ah k z) ∧ (∃ a' c', RRl R s.2.2.2 a' c') ∧ CH A s.2.2.1 s.2.2.2 n ∧ frD ν s.2.2.1) 8 (by omega) ⟨rfl, rfl, hg, ⟨a, c, hR⟩, hC, fun _ _ => rfl⟩ ?_ ?_
  · intro k s hk hs
    obtain ⟨s1, s2, σ, R1⟩ := s
    obtain ⟨g1, g2, g3, ⟨a1, c1, g4⟩, g5, g6⟩ := hs
    simp only at g1 g2 g3 g4 g5 g6
    subst g1; subst g2
    have e1 := eC_includes g5 hI hm (p := k) (by omega)
    have hb := rTp_b (A := A) (m := m) (t := t) hah k
    have hk8 : P8 (k : Int) := ⟨by omega, by omega⟩
    have hf := fTp_01 (A := A) (m := m) (t := t) (ah := ah) k
    rw [rTp_s, fTp_s]
    generalize rTp A m t ah k = r at *
    generalize fTp A m t ah k = f at *
    show xok (fX6_comeToRest_b22 (j32 f) (j32 k) σ R1 _ _) _
    by_cases c2 : inc (A iM_peopleOf m) k
    · have hR1 : RRl R1 R1 a1 c1 := ⟨g4.1, g4.2.1, g4.2.2.1, fun _ _ _ => rfl⟩
      obtain ⟨σ1, R2, a2, c2', r1, r2, r3, r4⟩ := cheap_ok g5 hI hm c2 h4 ht (fun z hz => ⟨g3 z hz, hb z hz⟩) hR1
      have en : 5 * ((amF (fun i => l64 (cRst A m t r k 2 i)) 24 : Nat) : Int) = nAf A m t r k := rfl
      rw [en] at r1
      have nb := nAf_b (A := A) (m := m) (t := t) (p := k) (ah := r)
      generalize nAf A m t r k = N at *
      have e2 : gi σ1 iC_rest_aheads k = r k := by rw [r4.1 _ (Or.inl (by decide))]; exact g3 k hk8
      have rb := hb k hk8
      have hRf : RRl R R2 a2 c2' := ⟨r2.1, r2.2.1, r2.2.2.1, fun i j h => (r2.2.2.2 i j h).trans (g4.2.2.2 i j h)⟩
      have hCf : CH A (wr σ1 iC_rest_aheads k N) R2 n := r3.scr_w (by decide) (by decide) (by decide)
      have hag : ∀ z, P8 z → gi (wr σ1 iC_rest_aheads k N) iC_rest_aheads z = up1 r k N z := fun z hz => by
        rw [gi_wr_if ⟨hk8.1, hz.1⟩ (by omega)]
        by_cases e : z = k
        · rw [if_pos e, e, up1_s]
        · rw [if_neg e, up1_n e, r4.1 _ (Or.inl (by decide))]; exact g3 z hz
      have hfr : frD ν (wr σ1 iC_rest_aheads k N) := (g6.tr r4.d).tr (fun o ho => gi_wr_f (by show o ≠ 50; omega))
      rw [if_pos c2]
      by_cases c3 : N = r k
      · rw [if_neg (fun h => h.2 c3)]
        unfold fX6_comeToRest_b22
        simp only [lits]
        rw [if_neg (by rw [j_le (by omega) (by omega)]; omega), e1, xbd_e, if_neg (by rw [j_bi0]; exact not_not_intro c2), r1, xbd_e, j_gI (by omega), xbd_e, e2, if_pos (by rw [c3]), j_sI (by omega), xbd_e, xlt_e, j_add, xok_some]
        exact ⟨rfl, rfl, hag, ⟨a2, c2', hRf⟩, hCf, hfr⟩
      · rw [if_pos ⟨c2, c3⟩]
        unfold fX6_comeToRest_b22
        simp only [lits]
        rw [if_neg (by rw [j_le (by omega) (by omega)]; omega), e1, xbd_e, if_neg (by rw [j_bi0]; exact not_not_intro c2), r1, xbd_e, j_gI (by omega), xbd_e, e2, if_neg (by rw [j_eq (by omega) (by omega)]; exact c3), j_sI (by omega), xbd_e, xlt_e, j_add, xok_some]
        exact ⟨rfl, rfl, hag, ⟨a2, c2', hRf⟩, hCf, hfr⟩
    · rw [if_neg c2, if_neg (fun h => c2 h.1)]
      unfold fX6_comeToRest_b22
      simp (disch := omega) only [Bool.false_eq_true, lits, jj, jc, jm, Int.cast_ofNat_Int, j_bi0, j_bi1, not_true, not_false_eq_true, if_true, if_false, xe, xok_some, Sum.elim_inl, Sum.elim_inr, Int.reduceEq, Int.reduceLT, Int.reduceLE, Int.reduceAdd, Int.reduceSub, Int.reduceMul, show ¬ (8 : Int) ≤ k by omega, e1, eq_false c2]
      exact ⟨by first | rfl | trivial, by first | rfl | trivial, g3, ⟨a1, c1, g4⟩, g5, g6⟩
  · intro s hs
    obtain ⟨s1, s2, σ, R1⟩ := s
    obtain ⟨g1, g2, g3, g4, g5, g6⟩ := hs
    simp only at g1 g2 g3 g4 g5 g6
    subst g1; subst g2
    show xok (fX6_comeToRest_b22 _ (j32 (8 : Nat)) σ R1 _ _) _
    unfold fX6_comeToRest_b22
    simp (disch := omega) only [Bool.false_eq_true, lits, jj, jc, jm, Int.cast_ofNat_Int, j_bi0, j_bi1, not_true, not_false_eq_true, if_true, if_false, xe, xok_some, Sum.elim_inl, Sum.elim_inr, Int.reduceEq, Int.reduceLT, Int.reduceLE, Int.reduceAdd, Int.reduceSub, Int.reduceMul, show ((8 : Nat) : Int) = 8 from rfl]
    exact ⟨by first | rfl | trivial, g3, g4, g5, g6⟩
/-- when they are at rest -/
def atR (A : xAs) (m t : Int) (N : Nat) : Prop := (∀ k, k < N → fTp A m t (rUp A m t k) 8 ≠ 0) ∧ ((N < 30 ∧ fTp A m t (rUp A m t N) 8 = 0) ∨ N = 30)
theorem atR_ex {A : xAs} {m t : Int} : ∃ N, atR A m t N := by
  have key : ∀ n, n ≤ 30 → (∃ N, atR A m t N) ∨ ∀ k, k < n → fTp A m t (rUp A m t k) 8 ≠ 0 := by
    intro n
    induction n with
    | zero => intro _; exact Or.inr (fun k hk => by omega)
    | succ n ih =>
      intro hn
      rcases ih (by omega) with h | h
      · exact Or.inl h
      · by_cases c : fTp A m t (rUp A m t n) 8 = 0
        · exact Or.inl ⟨n, h, Or.inl ⟨by omega, c⟩⟩
        · refine Or.inr (fun k hk => ?_)
          by_cases e : k = n
          · rw [e]; exact c
          · exact h k (by omega)
  rcases key 30 (Nat.le_refl _) with h | h
  · exact h
  · exact ⟨30, h, Or.inr rfl⟩
theorem crest_ok {A : xAs} {ν : xm} {R : xr} {n : Nat} (hC : CH A ν R n) (hI : Inv A) {m t : Int} (hm : 0 ≤ m ∧ m < A iM 1) (h4 : pc (A iM_peopleOf m) ≤ 4) (ht : 0 ≤ t ∧ t ≤ 99) {N : Nat} (hN : atR A m t N) : ∃ ν' R', fX6_comeToRest (oM m) (j32 t) ν R = some (j32 (if N < 30 then (N : Int) + 1 else -2), ν', R') ∧ (N < 30 → ∀ z, P8 z → gi ν' iC_rest_aheads z = rUp A m t (N + 1) z) ∧ (∃ a' c', RRl R R' a' c') ∧ CH A ν' R' n ∧ frD ν ν' := by
  obtain ⟨a, c, hR⟩ := pl_of hC
  obtain ⟨n1, n2⟩ := hN
  obtain ⟨ν0, hν0⟩ : ∃ ν0, ν0 = fw ν iC_rest_aheads 0 8 := ⟨_, rfl⟩
  have f1 : fJ7_fill_53178 iC_rest_aheads (j32 0) ν = some ν0 := by rw [hν0]; exact eJ7_fill (len := 8) (by decide +kernel) (by omega)
  have f2 : ∀ z, P8 z → gi ν0 iC_rest_aheads z = 0 := fun z hz => by rw [hν0]; exact fw_in (by omega) 8 z hz.1 hz.2
  have f3 : frD ν ν0 := fun a q => by rw [hν0]; exact fw_o (by show a ≠ 50; omega) 8
  have hC0 : CH A ν0 R n := hC.scr (fun o ho => by rw [hν0]; exact fw_o (by rintro rfl; exact absurd ho (by decide)) 8) (by rw [hν0, fw_o (by decide)]) (by rw [hν0, fw_o (by decide)])
  have key : xok (xloop xfu (fun v => fX6_comeToRest_b10 v.1 v.2.1 v.2.2 (oM m) (j32 t)) (j32 1, ν0, R)) (fun r => ∃ ν' R', r = (if N < 30 then .inr (j32 ((N : Int) + 1), ν', R') else .inl (ν', R')) ∧ (N < 30 → ∀ z, P8 z → gi ν' iC_rest_aheads z = rUp A m t (N + 1) z) ∧ (∃ a' c', RRl R R' a' c') ∧ CH A ν' R' n ∧ frD ν ν') := by
    refine xok_for (fun k s => s.1 = j32 ((k : Int) + 1) ∧ (∀ z, P8 z → gi s.2.1 iC_rest_aheads z = rUp A m t k z) ∧ (∃ a' c', RRl R s.2.2 a' c') ∧ CH A s.2.1 s.2.2 n ∧ frD ν s.2.1) N (by omega) ⟨rfl, f2, ⟨a, c, hR⟩, hC0, f3⟩ ?_ ?_
    · intro k s hk hs
      obtain ⟨s1, σ, R1⟩ := s
      obtain ⟨g1, g2, ⟨a1, c1, g3⟩, g4, g5⟩ := hs
      simp only at g1 g2 g3 g4 g5
      subst g1
      have hR1 : RRl R1 R1 a1 c1 := ⟨g3.1, g3.2.1, g3.2.2.1, fun _ _ _ => rfl⟩
      obtain ⟨q, q1, q2, q3, ⟨a2, c2, q4⟩, q5, q6⟩ := cr22 g4 hI hm h4 ht (rUp_b k) g2 hR1
      have hf := fTp_01 (A := A) (m := m) (t := t) (ah := rUp A m t k) 8
      have hne := n1 k hk
      have hRf : RRl R q.2.2 a2 c2 := ⟨q4.1, q4.2.1, q4.2.2.1, fun i j h => (q4.2.2.2 i j h).trans (g3.2.2.2 i j h)⟩
      show xok (fX6_comeToRest_b10 (j32 ((k : Int) + 1)) σ R1 _ _) _
      unfold fX6_comeToRest_b10
      simp only [lits] at q1 ⊢
      rw [if_neg (by rw [j_lt (by omega) (by omega)]; omega), q1, xbd_e, q2, if_neg (by rw [j_eq (by omega) (by omega)]; exact hne), xlt_e, j_add, xok_some]
      exact ⟨rfl, q3, ⟨a2, c2, hRf⟩, q5, g5.tr q6⟩
    · intro s hs
      obtain ⟨s1, σ, R1⟩ := s
      obtain ⟨g1, g2, ⟨a1, c1, g3⟩, g4, g5⟩ := hs
      simp only at g1 g2 g3 g4 g5
      subst g1
      show xok (fX6_comeToRest_b10 (j32 ((N : Int) + 1)) σ R1 _ _) _
      rcases n2 with ⟨n3, n4⟩ | rfl
      · have hR1 : RRl R1 R1 a1 c1 := ⟨g3.1, g3.2.1, g3.2.2.1, fun _ _ _ => rfl⟩
        obtain ⟨q, q1, q2, q3, ⟨a2, c2, q4⟩, q5, q6⟩ := cr22 g4 hI hm h4 ht (rUp_b N) g2 hR1
        have hRf : RRl R q.2.2 a2 c2 := ⟨q4.1, q4.2.1, q4.2.2.1, fun i j h => (q4.2.2.2 i j h).trans (g3.2.2.2 i j h)⟩
        unfold fX6_comeToRest_b10
        simp only [lits] at q1 ⊢
        rw [if_neg (by rw [j_lt (by omega) (by omega)]; omega), q1, xbd_e, q2, if_pos (by rw [n4]), xok_some]
        exact ⟨q.2.1, q.2.2, by rw [if_pos n3], fun _ => q3, ⟨a2, c2, hRf⟩, q5, g5.tr q6⟩
      · unfold fX6_comeToRest_b10
        simp only [lits]
        rw [if_pos (by rw [j_lt (by omega) (by omega)]; omega), xok_some]
        exact ⟨σ, R1, by rw [if_neg (by omega)], fun h => by omega, ⟨a1, c1, g3⟩, g4, g5⟩
  obtain ⟨r, r1, ν', R', r2, r3, r4, r5, r6⟩ := key
  refine ⟨ν', R', ?_, r3, r4, r5, r6⟩
  unfold fX6_comeToRest
  simp only [lits] at r1 ⊢
  rw [f1, xbd_e, r1, xbd_e, r2]
  by_cases c : N < 30
  · rw [if_pos c, if_pos c, xsm_e1]
  · rw [if_neg c, if_neg c, xsm_e0]
    rfl
