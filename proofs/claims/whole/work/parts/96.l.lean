/-! a choice, the plain model -/
def EndH (B : xm) (sg : Int → Int) (N p0 op t s : Int) (φ : Pc) (μ : xm) (q : Int) (ν : xm) : Prop := ¬ (sg q = 124 ∨ sg q = 38) ∧ q ≤ N ∧ ∃ pd ψ s1 t1, RgS B q op t1 s1 ν ∧ ChoR (gi ν iM_said) (gi ν iM_waits) s s1 t t1 pd ψ ∧ fio pd ψ = φ ∧ Kp t s μ ν ∧ s1 - s ≤ q - p0 ∧ t1 ≤ q
theorem bdV_no {B : xm} {T : Int → Int} {N p : Int} {μ : xm} (hB : ROK B T N) (h : RB B μ) (h12 : gi μ iM 12 = p) (hp : 0 ≤ p ∧ p ≤ N) (hc : sgT T N p ≠ 41) : bdV μ = some (.inr (.inl μ)) := by
  have hs := sgR_b hB p
  show fX12_readsCondition_b92 μ = _
  unfold fX12_readsCondition_b92
  rw [r_here hB h h12 hp, xbd_e, if_neg (show ¬ j32 (sgT T N p) = 41 from fun d => hc ((j_eq (b := 41) (by omega) (by omega)).mp d))]
theorem aft_and {B : xm} {T : Int → Int} {N p op tb s : Int} {μ ν : xm} (hB : ROK B T N) (h : RB B μ) (h12 : gi μ iM 12 = p) (hp : 0 ≤ p ∧ p < N) (hc : sgT T N p = 38) (hl : fX12_lands (j32 0) μ = some ν) (hr : RgS B p op tb s ν) (hs : 0 ≤ s ∧ s < 220) (ht : 0 ≤ tb ∧ tb < 220) : aft (.inl μ) = some (.inl (jpd ν 11 s tb p)) := by
  have hN := hB.2.1
  have e := r_here hB h h12 (by omega)
  have e2 := r_here hB hr.1 hr.2.1 (by omega)
  rw [hc] at e e2
  have el : fX12_lands 0 μ = some ν := hl
  unfold aft
  rw [xsm_e0, e, xbd_e, if_pos (by decide)]
  unfold fX12_readsCondition_j180 fX12_readsCondition_j195
  rw [e, xbd_e, if_neg (by decide), el, xbd_e, e2, xbd_e, if_pos (by decide), show (11 : Int32) = j32 11 from rfl, (r_jumps hr hs ht (by omega) (by omega)).1, xbd_e]
theorem aft_or {B : xm} {T : Int → Int} {N p op tb s : Int} {μ ν : xm} (hB : ROK B T N) (h : RB B μ) (h12 : gi μ iM 12 = p) (hp : 0 ≤ p ∧ p < N) (hc : sgT T N p = 124) (hl : fX12_lands (j32 1) μ = some ν) (hr : RgS B p op tb s ν) (hs : 0 ≤ s ∧ s < 220) (ht : 0 ≤ tb ∧ tb < 220) : aft (.inl μ) = some (.inl (jpd ν 12 s tb p)) := by
  have hN := hB.2.1
  have e := r_here hB h h12 (by omega)
  have e2 := r_here hB hr.1 hr.2.1 (by omega)
  rw [hc] at e e2
  have el : fX12_lands 1 μ = some ν := hl
  unfold aft
  rw [xsm_e0, e, xbd_e, if_neg (by decide), xbd_e, if_pos (by decide)]
  unfold fX12_readsCondition_j180 fX12_readsCondition_j195
  rw [e, xbd_e, if_pos (by decide), el, xbd_e, e2, xbd_e, if_neg (by decide), show (12 : Int32) = j32 12 from rfl, (r_jumps hr hs ht (by omega) (by omega)).1, xbd_e]
theorem r_loopH {B : xm} {T : Int → Int} {N op p0 t s : Int} {μ0 : xm} {Pi : Int → Int → Rs Pc} (hB : ROK B T N) (hI : PieP B N Pi op) (hs0 : 0 ≤ s ∧ s ≤ p0) (ht0 : 0 ≤ t ∧ t ≤ p0) (hbar : BarC (gi μ0 iM_waits) t) (P : Int32 × xm → Prop) : ∀ (k : Nat) (p t1 s1 : Int) (pd : Option Pc) (ψ : Pc) (ν : xm) (n m : Nat), 200 ≤ k + p → RgS B p op t1 s1 ν → ChoR (gi ν iM_said) (gi ν iM_waits) s s1 t t1 pd ψ → Kp t s μ0 ν → s1 - s ≤ p - p0 → t1 ≤ p → p ≤ N → 300 < n + p → 300 < m + p → (match pChoL (sgT T N) Pi op k p pd ψ with
    | .inl e => ∀ ν, RW B e.1 e.2 ν → P (j32 0, ν)
    | .inr x => ∀ ν n' m', EndH B (sgT T N) N p0 op t s x.2 μ0 x.1 ν → 300 < (n' : Nat) + x.1 → 300 < (m' : Nat) + x.1 → AK n' m' ν P) → AK n m ν P := by
  intro k
  induction k with
  | zero =>
    intro p t1 s1 pd ψ ν n m hk hr hq hkp hb htp hpN hn hm hP
    have hN := hB.2.1
    have nop : ¬ (sgT T N p = 124 ∨ sgT T N p = 38) := by
      unfold sgT
      rw [if_neg (by omega)]
      decide
    exact hP ν n m ⟨nop, hpN, pd, ψ, s1, t1, hr, hq, rfl, hkp, hb, htp⟩ hn hm
  | succ k ih =>
    intro p t1 s1 pd ψ ν n m hk hr hq hkp hb htp hpN hn hm hP
    have hN := hB.2.1
    have hsg := sgR_b hB p
    have htt := hq.t
    have hbar' : BarC (gi ν iM_waits) t := fun c => by rw [hkp.1 (t - 1) (by omega) (by omega)]; exact hbar c
    unfold pChoL at hP
    by_cases io : sgT T N p = 124 ∨ sgT T N p = 38
    · have hp := hsg.2.2 (by omega)
      rw [if_pos io] at hP
      obtain ⟨m', rfl⟩ : ∃ m', m = m' + 1 := ⟨m - 1, by omega⟩
      by_cases ad : sgT T N p = 124
      · obtain ⟨ρ, e1, e2, e3, e4, e5⟩ := lands1 hr hq (by omega) (by omega) hbar'
        refine AK.stop (bdV_no hB hr.1 hr.2.1 (by omega) (by omega)) ?_
        rw [aft_or hB hr.1 hr.2.1 hp ad e1 e2 (by omega) (by omega), xbd_e]
        show BK n (jpd ρ 12 s1 t p) P
        obtain ⟨_, w1, w2, w3, w4, w5⟩ := r_jumps (K := 12) e2 (by omega) (by omega) (by omega) (by omega)
        refine hI n (p + 1) (t + 1) (s1 + 1) _ P w1 (by omega) (by omega) (by omega) (fun _ => by rw [show t + 1 - 1 = t by omega, w3]; show 7340032 ≤ 1048576 * 12 + s1 ∧ 1048576 * 12 + s1 < 20971520; omega) (by omega) ?_
        cases hr2 : Pi op (p + 1) with
        | inl ev => rw [hr2] at hP; exact hP
        | inr ev =>
          rw [hr2] at hP
          dsimp only at hP
          rw [if_pos ad] at hP
          intro τ s2 n2 m2 g1 g2 g3 g4 g5 g6 g7 g8
          have kw : gi τ iM_waits t = wd 12 s1 := by rw [g2.1 t (by omega) (by omega)]; exact w3
          have ks : ∀ z, 0 ≤ z → z < s1 → gi τ iM_said z = gi ρ iM_said z := fun z z0 z1 => by rw [g2.2 z z0 (by omega), w4 z z0 (by omega)]
          refine ⟨0, τ, by have := g1.2.2.2.1; omega, St.refl, en_end g1.2.2.2.1 (by omega) (fun _ => by rw [show t + 1 - 1 = t by omega, kw]; show 0 ≤ 1048576 * 12 + s1; omega) ?_, ?_⟩
          · unfold kdW
            rw [if_neg (by omega), show t + 1 - 1 = t by omega, kw]; show ¬ (1048576 * 12 + s1) / 1048576 = 10; omega
          · refine ih ev.1 (t + 1) s2 (some (fio pd ψ)) ev.2 τ n2 m2 (by omega) g1 ⟨s1, kw, ?_, e5.keep ks (by omega), Or.inl ⟨rfl, g6⟩⟩ ⟨fun z z0 z1 => ?_, fun z z0 z1 => ?_⟩ (by omega) (by omega) g5 g7 g8 hP
            · rw [g2.2 s1 (by omega) (by omega)]; exact w5
            · rw [g2.1 z z0 (by omega), w2 z z0 (by omega), e3, hkp.1 z z0 z1]
            · rw [ks z z0 (by omega), e4 z z0 z1, hkp.2 z z0 z1]
      · have h38 : sgT T N p = 38 := by omega
        have key : ∀ (tb sl : Int), AndR (gi ν iM_said) (gi ν iM_waits) sl s1 tb t1 ψ → t ≤ tb → tb ≤ t + 1 → s ≤ sl → (0 < tb → gi ν iM_waits (tb - 1) = wd 13 0 ∨ ∃ v, 0 ≤ v ∧ v < 220 ∧ gi ν iM_waits (tb - 1) = wd 12 v) → (∀ (τ : xm) (s2 : Int) (φ : Pc), (∀ z, 0 ≤ z → z < tb → gi τ iM_waits z = gi ν iM_waits z) → (∀ z, 0 ≤ z → z < sl → gi τ iM_said z = gi ν iM_said z) → AndR (gi τ iM_said) (gi τ iM_waits) sl s2 tb (tb + 1) (phAnd ψ φ) → ChoR (gi τ iM_said) (gi τ iM_waits) s s2 t (tb + 1) pd (phAnd ψ φ)) → AK n (m' + 1) ν P := by
          intro tb sl hM c1 c2 c4 c5 c6
          have tt := hM.t
          obtain ⟨ρ, e1, e2, e3, e4, e5⟩ := lands0 hr hM (by omega) (by omega) c5
          refine AK.stop (bdV_no hB hr.1 hr.2.1 (by omega) (by omega)) ?_
          rw [aft_and hB hr.1 hr.2.1 hp h38 e1 e2 (by omega) (by omega), xbd_e]
          show BK n (jpd ρ 11 s1 tb p) P
          obtain ⟨_, w1, w2, w3, w4, w5⟩ := r_jumps (K := 11) e2 (by omega) (by omega) (by omega) (by omega)
          refine hI n (p + 1) (tb + 1) (s1 + 1) _ P w1 (by omega) (by omega) (by omega) (fun _ => by rw [show tb + 1 - 1 = tb by omega, w3]; show 7340032 ≤ 1048576 * 11 + s1 ∧ 1048576 * 11 + s1 < 20971520; omega) (by omega) ?_
          cases hr2 : Pi op (p + 1) with
          | inl ev => rw [hr2] at hP; exact hP
          | inr ev =>
            rw [hr2] at hP
            dsimp only at hP
            rw [if_neg ad] at hP
            intro τ s2 n2 m2 g1 g2 g3 g4 g5 g6 g7 g8
            have kw : gi τ iM_waits tb = wd 11 s1 := by rw [g2.1 tb (by omega) (by omega)]; exact w3
            have ks : ∀ z, 0 ≤ z → z < s1 → gi τ iM_said z = gi ρ iM_said z := fun z z0 z1 => by rw [g2.2 z z0 (by omega), w4 z z0 (by omega)]
            have kws : ∀ z, 0 ≤ z → z < tb → gi τ iM_waits z = gi ν iM_waits z := fun z z0 z1 => by rw [g2.1 z z0 (by omega), w2 z z0 (by omega), e3]
            have kss : ∀ z, 0 ≤ z → z < sl → gi τ iM_said z = gi ν iM_said z := fun z z0 z1 => by rw [ks z z0 (by omega), e4 z z0 z1]
            refine ⟨0, τ, by have := g1.2.2.2.1; omega, St.refl, en_end g1.2.2.2.1 (by omega) (fun _ => by rw [show tb + 1 - 1 = tb by omega, kw]; show 0 ≤ 1048576 * 11 + s1; omega) ?_, ?_⟩
            · unfold kdW
              rw [if_neg (by omega), show tb + 1 - 1 = tb by omega, kw]; show ¬ (1048576 * 11 + s1) / 1048576 = 10; omega
            · refine ih ev.1 (tb + 1) s2 pd (phAnd ψ ev.2) τ n2 m2 (by omega) g1 (c6 τ s2 ev.2 kws kss (Or.inr ⟨ψ, ev.2, s1, rfl, kw, ?_, e5.keep ks (by omega), g6, rfl⟩)) ⟨fun z z0 z1 => ?_, fun z z0 z1 => ?_⟩ (by omega) (by omega) g5 g7 g8 hP
              · rw [g2.2 s1 (by omega) (by omega)]; exact w5
              · rw [kws z z0 (by omega), hkp.1 z z0 z1]
              · rw [kss z z0 (by omega), hkp.2 z z0 z1]
        cases pd with
        | none => exact key t s hq (by omega) (by omega) (by omega) (fun c => Or.inl (hbar' c)) (fun τ s2 φ _ _ q => q)
        | some l =>
          obtain ⟨j, hw, hj, q1, q2⟩ := hq
          have j1 := q1.1
          have j2 := q1.2.1
          have tt := q2.t
          refine key (t + 1) (j + 1) q2 (by omega) (by omega) (by omega) (fun _ => Or.inr ⟨j, by omega, by omega, by rw [show t + 1 - 1 = t by omega]; exact hw⟩) (fun τ s2 φ kw ks q => ⟨j, ?_, ?_, q1.keep ks (by omega), q⟩)
          · rw [kw t (by omega) (by omega)]; exact hw
          · rw [ks j (by omega) (by omega)]; exact hj
    · rw [if_neg io] at hP
      exact hP ν n m ⟨io, hpN, pd, ψ, s1, t1, hr, hq, rfl, hkp, hb, htp⟩ hn hm
