/-! a choice whole, the plain model -/
theorem r_cho {B : xm} {T : Int → Int} {N op : Int} (hB : ROK B T N) {Pi : Int → Int → Rs Pc} (hI : PieP B N Pi op) {n : Nat} {p t s : Int} {μ : xm} {P : Int32 × xm → Prop} (hr : RgS B p op t s μ) (hs : 0 ≤ s ∧ s ≤ p) (ht : 1 ≤ t ∧ t ≤ p) (hpN : p ≤ N) (hbar : BarC (gi μ iM_waits) t) (hn : 300 < n + p) (hP : match pCho (sgT T N) Pi op p with
  | .inl e => ∀ ν, RW B e.1 e.2 ν → P (j32 0, ν)
  | .inr x => ∀ ν n' m', EndH B (sgT T N) N p op t s x.2 μ x.1 ν → 300 < (n' : Nat) + x.1 → 300 < (m' : Nat) + x.1 → AK n' m' ν P) : BK n μ P := by
  have hN := hB.2.1
  unfold pCho at hP
  refine hI n p t s μ P hr hs ht hpN (fun c => by rw [hbar c]; decide) hn ?_
  cases h1 : Pi op p with
  | inl ev => rw [h1] at hP; exact hP
  | inr ev =>
    rw [h1] at hP
    intro ν s' n' m' g1 g2 g3 g4 g5 g6 g7 g8
    have hb2 : BarC (gi ν iM_waits) t := fun c => by rw [g2.1 (t - 1) (by omega) (by omega)]; exact hbar c
    obtain ⟨b1, b2⟩ := hb2.k (by omega)
    refine ⟨0, ν, by have := g1.2.2.2.1; omega, St.refl, en_end g1.2.2.2.1 (by omega) b1 (by omega), ?_⟩
    exact r_loopH hB hI hs (by omega) hbar P 200 ev.1 t s' none ev.2 ν n' m' (by omega) g1 (Or.inl ⟨rfl, g6⟩) g2 (by omega) (by omega) g5 g7 g8 hP
theorem aft_bad {B : xm} {T : Int → Int} {N p : Int} {μ : xm} (hB : ROK B T N) (h : RB B μ) (h12 : gi μ iM 12 = p) (hp : 0 ≤ p ∧ p ≤ N) (hc : ¬ (sgT T N p = 124 ∨ sgT T N p = 38)) : ∃ ν, aft (.inl μ) = some (.inr (j32 0, ν)) ∧ RW B 1 p ν := by
  have hN := hB.2.1
  have hs := sgR_b hB p
  have e := r_here hB h h12 hp
  obtain ⟨ν, u1, u2⟩ := r_wrong h (f := 1) (p := p) (by omega) (by omega)
  refine ⟨ν, ?_, u2⟩
  unfold aft
  rw [xsm_e0, e, xbd_e, if_neg (show ¬ j32 (sgT T N p) = 38 from fun d => hc (Or.inr ((j_eq (b := 38) (by omega) (by omega)).mp d))), xbd_e, if_neg (show ¬ j32 (sgT T N p) = 124 from fun d => hc (Or.inl ((j_eq (b := 124) (by omega) (by omega)).mp d))), j_rd, show gi μ iM ((12 : Nat) : Int) = p from h12, show (1 : Int32) = j32 1 from rfl, u1, xbd_e, xz0, xbd_e]
