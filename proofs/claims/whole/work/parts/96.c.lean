/-! how the plain model reads a sum -/
abbrev bdT (x1 : Int) (μ : xm) : Option (xm ⊕ (Int32 × xm)) := fX12_readsSum_b14 μ (j32 x1)
abbrev bdF (μ : xm) : Option (xm ⊕ (xm ⊕ (Int32 × xm))) := fX12_readsFactor_b0 μ
abbrev rFac (m : Nat) (μ : xm) : Option (Int32 × xm) := xbd (xloop m bdF μ) fun q5 => xsm q5 (fun q6 => xbd (fX12_isDigit q6) fun q8 => if q8 = 0 then (xbd (fX12_here q6) fun q9 => xbd (fX12_factOf q9) fun q10 => if q10 = (-1) then (xbd (fX12_wrongAt 1 (q6.1 iM 12) q6) fun q13 => xbd (xz q13.1) fun z14 => some (z14, q13.2)) else (xbd (fX12_notes 1 q10 q6) fun q11 => xlt (xpI q11 iM 12 ((q11.1 iM 12) + 1)) fun μ12 => some (1, μ12))) else (xbd (fX12_readsNumber q6) fun q15 => if q15.1 = 0 then (some (0, q15.2)) else (xbd (fX12_notes 0 (q15.2.1 iM 19) q15.2) fun q16 => some (1, q16)))) (fun q7 => some q7)
def FK (m n : Nat) (x1 : Int) (μ : xm) (P : Int32 × xm → Prop) : Prop := xok (xbd (rFac m μ) fun q => if q.1 = 0 then some (0, q.2) else xloop n (bdT x1) q.2) P
def LKs (n : Nat) (x1 : Int) (μ : xm) (P : Int32 × xm → Prop) : Prop := xok (xloop n (bdT x1) μ) P
theorem LKs.step {n : Nat} {x1 : Int} {μ ν : xm} {P : Int32 × xm → Prop} (e : bdT x1 μ = some (.inl ν)) (h : LKs n x1 ν P) : LKs (n + 1) x1 μ P := by
  unfold LKs
  unfold xloop
  rw [e]
  exact h
theorem LKs.stop {n : Nat} {x1 : Int} {μ : xm} {r : Int32 × xm} {P : Int32 × xm → Prop} (e : bdT x1 μ = some (.inr r)) (h : P r) : LKs (n + 1) x1 μ P := by
  unfold LKs
  unfold xloop
  rw [e]
  exact xok_some.mpr h
theorem LKs.fac {n : Nat} {x1 : Int} {μ ν : xm} {P : Int32 × xm → Prop} (e : bdT x1 μ = xbd (fX12_readsFactor ν) fun q22 => if q22.1 = 0 then (some (.inr (0, q22.2))) else (some (.inl q22.2))) (h : FK xfu n x1 ν P) : LKs (n + 1) x1 μ P := by
  unfold FK at h
  unfold LKs
  unfold xloop
  rw [e]
  have hh : fX12_readsFactor ν = rFac xfu ν := rfl
  rw [hh]
  obtain ⟨v, h1, h2⟩ := h
  obtain ⟨q, e1, e2⟩ := xbd_some h1
  rw [e1, xbd_e]
  by_cases c : q.1 = 0
  · rw [if_pos c] at e2 ⊢
    exact ⟨v, e2, h2⟩
  · rw [if_neg c] at e2 ⊢
    exact ⟨v, e2, h2⟩
theorem has_yes {x1 z0 t : Int} {μ : xm} (h17 : gi μ iM 17 = t) (hx : 0 ≤ x1 ∧ x1 ≤ z0 ∧ z0 < t ∧ t ≤ 220) (hz : gi μ iM_waits z0 = wd 14 0) : fX12_hasOpenSum (j32 x1) μ = some (j32 1) := by
  have h : xok (fX12_hasOpenSum (j32 x1) μ) (fun v => v = j32 1) := by
    unfold fX12_hasOpenSum
    rw [xok_bd]
    refine xok_while (fun a => ∃ x : Int, a = j32 x ∧ x1 ≤ x ∧ x ≤ z0) (fun a => (t - a.toInt).toNat) ?_ ⟨x1, rfl, by omega, by omega⟩ ?_
    · show (t - (j32 x1).toInt).toNat < 1000000
      rw [toInt_j32 (by omega) (by omega)]; omega
    · rintro a ⟨x, rfl, b1, b2⟩
      have c1 : ¬ t ≤ x := by omega
      have ee : fX12_hasOpenSum_b2 (j32 x) μ = if j32 (gi μ iM_waits x) / 1048576 = 14 then (some (.inr (.inr 1))) else (some (.inl (j32 (x + 1)))) := by
        unfold fX12_hasOpenSum_b2
        rw [j_rd, show gi μ iM ((17 : Nat) : Int) = t from h17, if_neg (fun d => by have := (j_le (by omega) (by omega)).mp d; omega), j_gI (by omega), xbd_e, show (1 : Int32) = j32 1 from rfl, j_add, xlt_e]
      rw [ee]
      by_cases c : j32 (gi μ iM_waits x) / 1048576 = 14
      · rw [if_pos c, xok_some]
        exact xok_some.mpr rfl
      · rw [if_neg c, xok_some]
        have xz : x ≠ z0 := by
          rintro rfl
          apply c
          rw [hz, dK (by omega) (by omega)]; rfl
        refine ⟨⟨x + 1, rfl, by omega, by omega⟩, ?_⟩
        show (t - (j32 (x + 1)).toInt).toNat < (t - (j32 x).toInt).toNat
        rw [toInt_j32 (by omega) (by omega), toInt_j32 (by omega) (by omega)]; omega
  obtain ⟨v, e, rfl⟩ := h
  exact e
theorem has_no {x1 t : Int} {μ : xm} (h17 : gi μ iM 17 = t) (hx : 0 ≤ x1 ∧ x1 ≤ t ∧ t ≤ 220) (hz : ∀ z, x1 ≤ z → z < t → ∃ K, 0 ≤ K ∧ K ≤ 13 ∧ gi μ iM_waits z = wd K 0) : fX12_hasOpenSum (j32 x1) μ = some (j32 0) := by
  have h : xok (fX12_hasOpenSum (j32 x1) μ) (fun v => v = j32 0) := by
    unfold fX12_hasOpenSum
    rw [xok_bd]
    refine xok_while (fun a => ∃ x : Int, a = j32 x ∧ x1 ≤ x ∧ x ≤ t) (fun a => (t - a.toInt).toNat) ?_ ⟨x1, rfl, by omega, by omega⟩ ?_
    · show (t - (j32 x1).toInt).toNat < 1000000
      rw [toInt_j32 (by omega) (by omega)]; omega
    · rintro a ⟨x, rfl, b1, b2⟩
      by_cases c1 : t ≤ x
      · have ee : fX12_hasOpenSum_b2 (j32 x) μ = some (.inr (.inl ())) := by
          unfold fX12_hasOpenSum_b2
          rw [j_rd, show gi μ iM ((17 : Nat) : Int) = t from h17, if_pos ((j_le (by omega) (by omega)).mpr c1)]
        rw [ee, xok_some]
        exact xok_some.mpr rfl
      · obtain ⟨K, k1, k2, k3⟩ := hz x b1 (by omega)
        have ee : fX12_hasOpenSum_b2 (j32 x) μ = some (.inl (j32 (x + 1))) := by
          unfold fX12_hasOpenSum_b2
          rw [j_rd, show gi μ iM ((17 : Nat) : Int) = t from h17, if_neg (fun d => by have := (j_le (by omega) (by omega)).mp d; omega), j_gI (by omega), xbd_e, k3, dK (by omega) (by omega), if_neg (show ¬ j32 K = 14 from fun d => by have := (j_eq (b := 14) (by omega) (by omega)).mp d; omega), show (1 : Int32) = j32 1 from rfl, j_add, xlt_e]
        rw [ee, xok_some]
        refine ⟨⟨x + 1, rfl, by omega, by omega⟩, ?_⟩
        show (t - (j32 (x + 1)).toInt).toNat < (t - (j32 x).toInt).toNat
        rw [toInt_j32 (by omega) (by omega), toInt_j32 (by omega) (by omega)]; omega
  obtain ⟨v, e, rfl⟩ := h
  exact e
def EndS (B : xm) (sg : Int → Int) (N p0 op t s : Int) (φ : Ph) (μ : xm) (q : Int) (ν : xm) : Prop := ¬ isOp (sg q) ∧ q ≤ N ∧ ∃ pd ψ s1 t1, RgS B q op t1 s1 ν ∧ SumQ (gi ν iM_said) (gi ν iM_waits) s s1 t t1 pd ψ ∧ fin pd ψ = φ ∧ Kp t s μ ν ∧ s1 - s + (t1 - t) ≤ q - p0 ∧ (t ≤ t1 ∧ t1 ≤ t + 2) ∧ s < s1
def FacP (B : xm) (T : Int → Int) (N : Int) (Fc : Int → Int → Rs Ph) (op x1 : Int) : Prop := ∀ (m n : Nat) (p t s : Int) (μ : xm) (P : Int32 × xm → Prop), RgS B p op t s μ → (0 ≤ s ∧ s ≤ p) → (0 ≤ t ∧ t ≤ p) → p ≤ N → (0 ≤ x1 ∧ x1 ≤ t) → 300 < m + p → 300 < n + p → (match Fc op p with
  | .inl e => ∀ ν, RW B e.1 e.2 ν → P (j32 0, ν)
  | .inr x => ∀ ν s' n', RgS B x.1 op t s' ν → Kp t s μ ν → s < s' → s' - s ≤ x.1 - p → x.1 ≤ N → SegR (gi ν iM_said) s s' x.2 → 300 < (n' : Nat) + x.1 → LKs n' x1 ν P) → FK m n x1 μ P
def SumP (B : xm) (T : Int → Int) (N : Int) (Sp : Int → Int → Rs Ph) (op x1 : Int) : Prop := ∀ (m n : Nat) (p t s : Int) (μ : xm) (P : Int32 × xm → Prop), RgS B p op t s μ → (0 ≤ s ∧ s ≤ p) → (0 ≤ t ∧ t ≤ p) → p ≤ N → (0 ≤ x1 ∧ x1 ≤ t) → Bar (gi μ iM_waits) t → 300 < m + p → 300 < n + p → (match Sp op p with
  | .inl e => ∀ ν, RW B e.1 e.2 ν → P (j32 0, ν)
  | .inr x => ∀ ν n', EndS B (sgT T N) N p op t s x.2 μ x.1 ν → 300 < (n' : Nat) + x.1 → LKs n' x1 ν P) → FK m n x1 μ P
