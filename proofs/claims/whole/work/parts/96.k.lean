/-! pieces, the plain model -/
theorem BK.of {n : Nat} {μ : xm} {P : Int32 × xm → Prop} (h : xok (xbd (bdB μ) (cnt n)) P) : BK (n + 1) μ P := by
  obtain ⟨v, h1, h2⟩ := h
  obtain ⟨r, e1, e2⟩ := xbd_some h1
  unfold BK
  unfold xloop
  rw [e1]
  cases r with
  | inl x => exact ⟨v, e2, h2⟩
  | inr x => exact ⟨v, e2, h2⟩
def PieP (B : xm) (N : Int) (Pi : Int → Int → Rs Pc) (op : Int) : Prop := ∀ (n : Nat) (p t s : Int) (μ : xm) (P : Int32 × xm → Prop), RgS B p op t s μ → (0 ≤ s ∧ s ≤ p) → (0 ≤ t ∧ t ≤ p) → p ≤ N → Bar (gi μ iM_waits) t → 300 < n + p → (match Pi op p with
  | .inl e => ∀ ν, RW B e.1 e.2 ν → P (j32 0, ν)
  | .inr x => ∀ ν s' n' m', RgS B x.1 op t s' ν → Kp t s μ ν → s < s' → s' - s ≤ x.1 - p → x.1 ≤ N → SegR (gi ν iM_said) s s' (bo x.2) → 300 < (n' : Nat) + x.1 → 300 < (m' : Nat) + x.1 → EK n' m' ν P) → BK n μ P
theorem r_pieC {B : xm} {T : Int → Int} {N op : Int} (hB : ROK B T N) (hop : 0 ≤ op ∧ op ≤ 6) {n : Nat} {p t s : Int} {μ : xm} {P : Int32 × xm → Prop} (hr : RgS B p op t s μ) (hs : 0 ≤ s ∧ s ≤ p) (ht : 0 ≤ t ∧ t ≤ p) (hpN : p ≤ N) (hbar : Bar (gi μ iM_waits) t) (hn : 300 < n + p) (h33 : sgT T N p ≠ 33) (h40 : sgT T N p ≠ 40) (hP : match pCmp (sgT T N) op p with
  | .inl e => ∀ ν, RW B e.1 e.2 ν → P (j32 0, ν)
  | .inr x => ∀ ν s' n' m', RgS B x.1 op t s' ν → Kp t s μ ν → s < s' → s' - s ≤ x.1 - p → x.1 ≤ N → SegR (gi ν iM_said) s s' (bo x.2) → 300 < (n' : Nat) + x.1 → 300 < (m' : Nat) + x.1 → EK n' m' ν P) : BK n μ P := by
  have hN := hB.2.1
  have hsg := sgR_b hB p
  have ihere := r_here hB hr.1 hr.2.1 (by omega)
  obtain ⟨n', rfl⟩ : ∃ n', n = n' + 1 := ⟨n - 1, by omega⟩
  refine BK.of ?_
  show xok (xbd (fX12_readsCondition_b40 μ) (cnt n')) P
  unfold fX12_readsCondition_b40
  rw [ihere, xbd_e, if_neg (show ¬ j32 (sgT T N p) = 33 from fun d => h33 ((j_eq (b := 33) (by omega) (by omega)).mp d)), xbd_e, if_neg (show ¬ j32 (sgT T N p) = 40 from fun d => h40 ((j_eq (b := 40) (by omega) (by omega)).mp d)), xok_bd, xok_bd]
  refine r_cmp hB hr hop hs ht hpN hbar _ ?_
  cases h1 : pCmp (sgT T N) op p with
  | inl ev =>
    rw [h1] at hP
    intro ν hν
    show xok (if j32 0 = 0 then _ else _) _
    rw [if_pos (show j32 0 = 0 from rfl), xok_some]
    exact xok_some.mpr (hP ν hν)
  | inr ev =>
    rw [h1] at hP
    intro ν s' g1 g2 g3 g4 g5 g6
    obtain ⟨k, ρ, k1, k2, k3, k4⟩ := hP ν s' n' xfu g1 g2 g3 g4 g5 g6 (by omega) (by unfold xfu; omega)
    refine ⟨ρ, ends_ok k2 k1 k3, ?_⟩
    show xok (if j32 1 = 0 then _ else _) _
    rw [if_neg (show ¬ j32 1 = 0 from by decide)]
    unfold AK at k4
    exact xok_bd.mp k4
