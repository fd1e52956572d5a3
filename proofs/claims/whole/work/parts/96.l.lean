/-! a choice, the plain model -/
def EndH (B : xm) (sg : Int → Int) (N p0 op t s : Int) (φ : Pc) (μ : xm) (q : Int) (ν : xm) : Prop := ¬ (sg q = 124 ∨ sg q = 38) ∧ q ≤ N ∧ ∃ pd ψ s1 t1, RgS B q op t1 s1 ν ∧ ChoR (gi ν iM_said) (gi ν iM_waits) s s1 t t1 pd ψ ∧ fio pd ψ = φ ∧ Kp t s μ ν ∧ s1 - s ≤ q - p0 ∧ t1 ≤ q
theorem bdV_no {B : xm} {T : Int → Int} {N p : Int} {μ : xm} (hB : ROK B T N) (h : RB B μ) (h12 : gi μ iM 12 = p) (hp : 0 ≤ p ∧ p ≤ N) (hc : sgT T N p ≠ 41) : bdV μ = some (.inr (.inl μ)) := by
  have hs := sgR_b hB p
  show fX12_readsCondition_b92 μ = _
  unfold fX12_readsCondition_b92
  rw [r_here hB h h12 hp, xbd_e, if_neg (show ¬ j32 (sgT T N p) = 41 from fun d => hc ((j_eq (b := 41) (by omega) (by omega)).mp d))]
theorem aft_and {B : xm} {T : Int → Int} {N p op tb s : Int} {μ ν : xm} (hB : ROK B T N) (h : RB B μ) (h12 : gi μ iM 12 = p) (hp : 0 ≤ p ∧ p < N) (hc : sgT T N p = 38) (hl : fX12_lands (j32 0) μ = some ν) (hr : RgS B p op tb s ν) (hs : 0 ≤ s ∧ s < 220) (ht : 0 ≤ tb ∧ tb < 220) : aft (.inl μ) = some (.inl (jpd ν 11 s tb p)) := by
  have hN := hB.2.1
  have e := r_here hB h h12 (by omega)
  have e2 := r_here hB hr.1 hr.2.1 (by omega)
  rw [hc] at e e2
  have el : fX12_lands 0 μ = some ν := hl
  unfold aft
  rw [xsm_e0, e, xbd_e, if_pos (by decide)]
  unfold fX12_readsCondition_j180 fX12_readsCondition_j195
  rw [e, xbd_e, if_neg (by decide), el, xbd_e, e2, xbd_e, if_pos (by decide), show (11 : Int32) = j32 11 from rfl, (r_jumps hr hs ht (by omega) (by omega)).1, xbd_e]
theorem aft_or {B : xm} {T : Int → Int} {N p op tb s : Int} {μ ν : xm} (hB : ROK B T N) (h : RB B μ) (h12 : gi μ iM 12 = p) (hp : 0 ≤ p ∧ p < N) (hc : sgT T N p = 124) (hl : fX12_lands (j32 1) μ = some ν) (hr : RgS B p op tb s ν) (hs : 0 ≤ s ∧ s < 220) (ht : 0 ≤ tb ∧ tb < 220) : aft (.inl μ) = some (.inl (jpd ν 12 s tb p)) := by
  have hN := hB.2.1
  have e := r_here hB h h12 (by omega)
  have e2 := r_here hB hr.1 hr.2.1 (by omega)
  rw [hc] at e e2
  have el : fX12_lands 1 μ = some ν := hl
  unfold aft
  rw [xsm_e0, e, xbd_e, if_neg (by decide), xbd_e, if_pos (by decide)]
  unfold fX12_readsCondition_j180 fX12_readsCondition_j195
  rw [e, xbd_e, if_pos (by decide), el, xbd_e, e2, xbd_e, if_neg (by decide), show (12 : Int32) = j32 12 from rfl, (r_jumps hr hs ht (by omega) (by omega)).1, xbd_e]
