/-! pieces, the plain model -/
theorem BK.of {n : Nat} {μ : xm} {P : Int32 × xm → Prop} (h : xok (xbd (bdB μ) (cnt n)) P) : BK (n + 1) μ P := by
  obtain ⟨v, h1, h2⟩ := h
  obtain ⟨r, e1, e2⟩ := xbd_some h1
  unfold BK
  unfold xloop
  rw [e1]
  cases r with
  | inl x => exact ⟨v, e2, h2⟩
  | inr x => exact ⟨v, e2, h2⟩
def PieP (B : xm) (N : Int) (Pi : Int → Int → Rs Pc) (op : Int) : Prop := ∀ (n : Nat) (p t s : Int) (μ : xm) (P : Int32 × xm → Prop), RgS B p op t s μ → (0 ≤ s ∧ s ≤ p) → (1 ≤ t ∧ t ≤ p) → p ≤ N → Bar (gi μ iM_waits) t → 300 < n + p → (match Pi op p with
  | .inl e => ∀ ν, RW B e.1 e.2 ν → P (j32 0, ν)
  | .inr x => ∀ ν s' n' m', RgS B x.1 op t s' ν → Kp t s μ ν → s < s' → s' - s ≤ x.1 - p → x.1 ≤ N → SegR (gi ν iM_said) s s' (bo x.2) → 300 < (n' : Nat) + x.1 → 300 < (m' : Nat) + x.1 → EK n' m' ν P) → BK n μ P
theorem r_pieC {B : xm} {T : Int → Int} {N op : Int} (hB : ROK B T N) (hop : 0 ≤ op ∧ op ≤ 6) {n : Nat} {p t s : Int} {μ : xm} {P : Int32 × xm → Prop} (hr : RgS B p op t s μ) (hs : 0 ≤ s ∧ s ≤ p) (ht : 0 ≤ t ∧ t ≤ p) (hpN : p ≤ N) (hbar : Bar (gi μ iM_waits) t) (hn : 300 < n + p) (h33 : sgT T N p ≠ 33) (h40 : sgT T N p ≠ 40) (hP : match pCmp (sgT T N) op p with
  | .inl e => ∀ ν, RW B e.1 e.2 ν → P (j32 0, ν)
  | .inr x => ∀ ν s' n' m', RgS B x.1 op t s' ν → Kp t s μ ν → s < s' → s' - s ≤ x.1 - p → x.1 ≤ N → SegR (gi ν iM_said) s s' (bo x.2) → 300 < (n' : Nat) + x.1 → 300 < (m' : Nat) + x.1 → EK n' m' ν P) : BK n μ P := by
  have hN := hB.2.1
  have hsg := sgR_b hB p
  have ihere := r_here hB hr.1 hr.2.1 (by omega)
  obtain ⟨n', rfl⟩ : ∃ n', n = n' + 1 := ⟨n - 1, by omega⟩
  refine BK.of ?_
  show xok (xbd (fX12_readsCondition_b40 μ) (cnt n')) P
  unfold fX12_readsCondition_b40
  rw [ihere, xbd_e, if_neg (show ¬ j32 (sgT T N p) = 33 from fun d => h33 ((j_eq (b := 33) (by omega) (by omega)).mp d)), xbd_e, if_neg (show ¬ j32 (sgT T N p) = 40 from fun d => h40 ((j_eq (b := 40) (by omega) (by omega)).mp d)), xok_bd, xok_bd]
  refine r_cmp hB hr hop hs ht hpN hbar _ ?_
  cases h1 : pCmp (sgT T N) op p with
  | inl ev =>
    rw [h1] at hP
    intro ν hν
    show xok (if j32 0 = 0 then _ else _) _
    rw [if_pos (show j32 0 = 0 from rfl), xok_some]
    exact xok_some.mpr (hP ν hν)
  | inr ev =>
    rw [h1] at hP
    intro ν s' g1 g2 g3 g4 g5 g6
    obtain ⟨k, ρ, k1, k2, k3, k4⟩ := hP ν s' n' xfu g1 g2 g3 g4 g5 g6 (by omega) (by unfold xfu; omega)
    refine ⟨ρ, ends_ok k2 (by have := g1.2.2.2.1; omega) k3, ?_⟩
    show xok (if j32 1 = 0 then _ else _) _
    rw [if_neg (show ¬ j32 1 = 0 from by decide)]
    unfold AK at k4
    exact xok_bd.mp k4
theorem r_pieN {B : xm} {T : Int → Int} {N op : Int} (hB : ROK B T N) (hop : 0 ≤ op ∧ op < 6) {Pi : Int → Int → Rs Pc} (hI : PieP B N Pi (op + 1)) {n : Nat} {p t s : Int} {μ : xm} {P : Int32 × xm → Prop} (hr : RgS B p op t s μ) (hs : 0 ≤ s ∧ s ≤ p) (ht : 0 ≤ t ∧ t ≤ p) (hpN : p ≤ N) (hn : 300 < n + p) (h33 : sgT T N p = 33) (hP : match Pi (op + 1) (p + 1) with
  | .inl e => ∀ ν, RW B e.1 e.2 ν → P (j32 0, ν)
  | .inr x => ∀ ν s' n' m', RgS B x.1 op t s' ν → Kp t s μ ν → s < s' → s' - s ≤ x.1 - p → x.1 ≤ N → SegR (gi ν iM_said) s s' (bo (phNot x.2)) → 300 < (n' : Nat) + x.1 → 300 < (m' : Nat) + x.1 → EK n' m' ν P) : BK n μ P := by
  have hN := hB.2.1
  have hp := (sgR_b hB p).2.2 (by omega)
  have ihere := r_here hB hr.1 hr.2.1 (by omega)
  obtain ⟨n', rfl⟩ : ∃ n', n = n' + 1 := ⟨n - 1, by omega⟩
  have e : bdB μ = some (.inl (opn μ op t 10 p)) := by
    show fX12_readsCondition_b40 μ = _
    unfold fX12_readsCondition_b40 fX12_readsCondition_j58 fX12_readsCondition_j75
    rw [ihere, xbd_e, h33, if_pos (by decide), xbd_e, if_pos (by decide), show (10 : Int32) = j32 10 from rfl, r_opens hr hop (by omega) (by omega), xbd_e, if_neg (show ¬ (j32 1, opn μ op t 10 p).1 = 0 from (by decide : ¬ j32 1 = 0))]
  obtain ⟨w1, w2, w3, w4⟩ := hr.opn (K := 10) hop (by omega) (by omega) (by omega)
  refine BK.step e ?_
  refine hI n' (p + 1) (t + 1) s _ P w1 (by omega) (by omega) (by omega) (fun _ => by rw [show t + 1 - 1 = t by omega, w3]; decide) (by omega) ?_
  cases h1 : Pi (op + 1) (p + 1) with
  | inl ev => rw [h1] at hP; exact hP
  | inr ev =>
    rw [h1] at hP
    intro ν s' n2 m2 g1 g2 g3 g4 g5 g6 g7 g8
    obtain ⟨a1, a2, a3, a4⟩ := en_pop g1 (by omega) (by omega) (by omega) (by rw [show t + 1 - 1 = t by omega, g2.1 t (by omega) (by omega)]; exact w3)
    have a2' : RgS B ev.1 op t (s' + 1) (nod ν s' (t + 1) (op + 1)) := by
      rw [show t + 1 - 1 = t by omega, show op + 1 - 1 = op by omega] at a2; exact a2
    obtain ⟨k, ρ, k1, k2, k3, k4⟩ := hP _ (s' + 1) n2 m2 a2' ⟨fun z z0 z1 => by rw [a3.1 z z0 (by omega), g2.1 z z0 (by omega), w2 z z0 (by omega)], fun z z0 z1 => by rw [a3.2 z z0 (by omega), g2.2 z z0 z1, w4]⟩ (by omega) (by omega) g5 ((g6.keep a3.2 (by omega)).not a4) g7 g8
    have h17 := g1.2.2.2.1
    have h17' := a2'.2.2.2.1
    exact ⟨1 + k, ρ, by omega, (St.one a1).trans k2, k3, k4⟩
