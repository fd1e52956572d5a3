/-! a piece in ( ), the plain model -/
theorem r_pieP {B : xm} {T : Int → Int} {N op : Int} (hB : ROK B T N) (hop : 0 ≤ op ∧ op < 6) {Pi : Int → Int → Rs Pc} (hI : PieP B N Pi (op + 1)) {n : Nat} {p t s : Int} {μ : xm} {P : Int32 × xm → Prop} (hr : RgS B p op t s μ) (hs : 0 ≤ s ∧ s ≤ p) (ht : 1 ≤ t ∧ t ≤ p) (hpN : p ≤ N) (hn : 300 < n + p) (h40 : sgT T N p = 40) (hP : match pCho (sgT T N) Pi (op + 1) (p + 1) with
  | .inl e => ∀ ν, RW B e.1 e.2 ν → P (j32 0, ν)
  | .inr x => if sgT T N x.1 = 41 then ∀ ν s' n' m', RgS B (x.1 + 1) op t s' ν → Kp t s μ ν → s < s' → s' - s ≤ x.1 + 1 - p → x.1 + 1 ≤ N → SegR (gi ν iM_said) s s' (bo x.2) → 300 < (n' : Nat) + (x.1 + 1) → 300 < (m' : Nat) + (x.1 + 1) → EK n' m' ν P else ∀ ν, RW B 1 x.1 ν → P (j32 0, ν)) : BK n μ P := by
  have hN := hB.2.1
  have hp := (sgR_b hB p).2.2 (by omega)
  have ihere := r_here hB hr.1 hr.2.1 (by omega)
  obtain ⟨n', rfl⟩ : ∃ n', n = n' + 1 := ⟨n - 1, by omega⟩
  have e : bdB μ = some (.inl (opn μ op t 13 p)) := by
    show fX12_readsCondition_b40 μ = _
    unfold fX12_readsCondition_b40 fX12_readsCondition_j58 fX12_readsCondition_j75
    rw [ihere, xbd_e, h40, if_neg (by decide), xbd_e, if_pos (by decide), xbd_e, if_neg (by decide), show (13 : Int32) = j32 13 from rfl, r_opens hr hop (by omega) (by omega), xbd_e, if_neg (show ¬ (j32 1, opn μ op t 13 p).1 = 0 from (by decide : ¬ j32 1 = 0))]
  obtain ⟨w1, w2, w3, w4⟩ := hr.opn (K := 13) hop (by omega) (by omega) (by omega)
  refine BK.step e ?_
  refine r_cho hB hI w1 (by omega) (by omega) (by omega) (fun _ => by rw [show t + 1 - 1 = t by omega]; exact w3) (by omega) ?_
  cases h1 : pCho (sgT T N) Pi (op + 1) (p + 1) with
  | inl ev => rw [h1] at hP; exact hP
  | inr ev =>
    obtain ⟨q, φ⟩ := ev
    rw [h1] at hP
    dsimp only at hP ⊢
    rintro ν n2 m2 ⟨g1, g2, pd, ψ, s1, t1, g3, g4, g5, g6, g7, g8⟩ hn2 hm2
    have tt := g4.t
    obtain ⟨m3, rfl⟩ : ∃ m3, m2 = m3 + 1 := ⟨m2 - 1, by omega⟩
    have hh := r_here hB g3.1 g3.2.1 (by omega)
    by_cases c41 : sgT T N q = 41
    · rw [if_pos c41] at hP
      have hq := (sgR_b hB q).2.2 (by omega)
      obtain ⟨ρ, e1, e2, e3, e4, e5⟩ := lands1 g3 g4 (by omega) (by omega) (fun _ => by rw [show t + 1 - 1 = t by omega, g6.1 t (by omega) (by omega)]; exact w3)
      obtain ⟨τ, hτ⟩ : ∃ τ, τ = wr (wr (wr ρ iM 17 t) iM 15 op) iM 12 (q + 1) := ⟨_, rfl⟩
      have f1 : gi τ iM_waits = gi ρ iM_waits := by rw [hτ, gi_wr_f (by decide), gi_wr_f (by decide), gi_wr_f (by decide)]
      have f2 : gi τ iM_said = gi ρ iM_said := by rw [hτ, gi_wr_f (by decide), gi_wr_f (by decide), gi_wr_f (by decide)]
      have hτR : RgS B (q + 1) op t s1 τ := by
        rw [hτ]
        refine ⟨((e2.1.wrs (by omega)).wrs (by omega)).wrs (by omega), gi_wr (by omega), ?_, ?_, ?_⟩
        · rw [gi_wr_z (by omega), gi_wr (by omega)]
        · rw [gi_wr_z (by omega), gi_wr_z (by omega), gi_wr (by omega)]
        · rw [gi_wr_z (by omega), gi_wr_z (by omega), gi_wr_z (by omega)]; exact e2.2.2.2.2
      obtain ⟨k, κ, k1, k2, k3, k4⟩ := hP τ s1 n2 m3 hτR ⟨fun z z0 z1 => by rw [f1, e3, g6.1 z z0 (by omega), w2 z z0 (by omega)], fun z z0 z1 => by rw [f2, e4 z z0 z1, g6.2 z z0 z1, w4]⟩ (by omega) (by omega) (by omega) (by rw [f2, ← g5]; exact e5) (by omega) (by omega)
      refine AK.step ?_ k4
      have ec : fX12_lands 1 ν = some ρ := e1
      have h17 := hτR.2.2.2.1
      show fX12_readsCondition_b92 ν = _
      unfold fX12_readsCondition_b92
      rw [hh, xbd_e, c41, if_pos (by decide), ec, xbd_e, j_rd, show gi ρ iM ((17 : Nat) : Int) = t + 1 from e2.2.2.2.1, show (1 : Int32) = j32 1 from rfl, j_sub, show t + 1 - 1 = t by omega]
      rw [show xpI ρ iM 17 (j32 t) = wr ρ iM 17 t from rfl, xlt_e, j_rd, show gi (wr ρ iM 17 t) iM ((15 : Nat) : Int) = op + 1 from by (show gi (wr ρ iM 17 t) iM 15 = op + 1; rw [gi_wr_z (by omega)]; exact e2.2.2.1), j_sub, show op + 1 - 1 = op by omega]
      rw [show xpI (wr ρ iM 17 t) iM 15 (j32 op) = wr (wr ρ iM 17 t) iM 15 op from rfl, xlt_e, j_rd, show gi (wr (wr ρ iM 17 t) iM 15 op) iM ((12 : Nat) : Int) = q from by (show gi (wr (wr ρ iM 17 t) iM 15 op) iM 12 = q; rw [gi_wr_z (by omega), gi_wr_z (by omega)]; exact e2.2.1), j_add, show xpI (wr (wr ρ iM 17 t) iM 15 op) iM 12 (j32 (q + 1)) = τ from hτ.symm, xlt_e, j_rd, show gi τ iM ((17 : Nat) : Int) = t from h17, if_neg (show ¬ j32 t = 0 from fun d => by have := (j_eq (b := 0) (by omega) (by omega)).mp d; omega), ends_ok k2 (by omega) k3, xbd_e]
    · rw [if_neg c41] at hP
      obtain ⟨κ, u1, u2⟩ := aft_bad hB g3.1 g3.2.1 (by omega) g1
      refine AK.stop (bdV_no hB g3.1 g3.2.1 (by omega) c41) ?_
      rw [u1, xbd_e]
      exact xok_some.mpr (hP κ u2)
