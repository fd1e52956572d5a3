/-! a clause's condition, the plain model -/
theorem r_cond {B : xm} {T : Int → Int} {N p op t s : Int} {μ : xm} {P : Int32 × xm → Prop} (hB : ROK B T N) (hr : RgS B p op t s μ) (hs : 0 ≤ s ∧ s ≤ p) (hpN : p ≤ N) (hP : if sgT T N p = 40 then (match pCho (sgT T N) (rPie (sgT T N) 8) 1 (p + 1) with
  | .inl e => ∀ ν, RW B e.1 e.2 ν → P (j32 0, ν)
  | .inr x => if sgT T N x.1 = 41 then ∀ ν s', RgS B (x.1 + 1) 0 0 s' ν → (∀ z, 0 ≤ z → z < s → gi ν iM_said z = gi μ iM_said z) → s < s' → s' - s ≤ x.1 + 1 - p → x.1 + 1 ≤ N → SegR (gi ν iM_said) s s' (bo x.2) → P (j32 1, ν) else ∀ ν, RW B 1 x.1 ν → P (j32 0, ν)) else ∀ ν, RW B 1 p ν → P (j32 0, ν)) : xok (fX12_readsCondition μ) P := by
  have hN := hB.2.1
  have hsg := sgR_b hB p
  have ihere := r_here hB hr.1 hr.2.1 (by omega)
  by_cases h40 : sgT T N p = 40
  · rw [if_pos h40] at hP
    have hp := hsg.2.2 (by omega)
    obtain ⟨μ3, hμ3⟩ : ∃ μ3, μ3 = wr (wr μ iM 15 0) iM 17 0 := ⟨_, rfl⟩
    have h3 : RgS B p 0 0 s μ3 := by
      rw [hμ3]
      refine ⟨(hr.1.wrs (by omega)).wrs (by omega), ?_, ?_, gi_wr (by omega), ?_⟩
      · rw [gi_wr_z (by omega), gi_wr_z (by omega)]; exact hr.2.1
      · rw [gi_wr_z (by omega), gi_wr (by omega)]
      · rw [gi_wr_z (by omega), gi_wr_z (by omega)]; exact hr.2.2.2.2
    have f3 : gi μ3 iM_said = gi μ iM_said := by rw [hμ3, gi_wr_f (by decide), gi_wr_f (by decide)]
    obtain ⟨w1, w2, w3, w4⟩ := h3.opn (K := 13) (by omega) (by omega) (by omega) (by omega)
    have w1' : RgS B (p + 1) 1 1 s (opn μ3 0 0 13 p) := w1
    have key : BK xfu (opn μ3 0 0 13 p) P := by
      refine r_cho hB (r_pies hB 8 1 (by omega) (by omega) (by omega)) w1' (by omega) (by omega) (by omega) (fun _ => w3) (by unfold xfu; omega) ?_
      cases h1 : pCho (sgT T N) (rPie (sgT T N) 8) 1 (p + 1) with
      | inl ev => rw [h1] at hP; exact hP
      | inr ev =>
        obtain ⟨q, φ⟩ := ev
        rw [h1] at hP
        dsimp only at hP ⊢
        rintro ν n2 m2 ⟨g1, g2, pd, ψ, s1, t1, g3, g4, g5, g6, g7, g8⟩ hn2 hm2
        have tt := g4.t
        obtain ⟨m3, rfl⟩ : ∃ m3, m2 = m3 + 1 := ⟨m2 - 1, by omega⟩
        have hh := r_here hB g3.1 g3.2.1 (by omega)
        by_cases c41 : sgT T N q = 41
        · rw [if_pos c41] at hP
          have hq := (sgR_b hB q).2.2 (by omega)
          obtain ⟨ρ, e1, e2, e3, e4, e5⟩ := lands1 g3 g4 (by omega) (by omega) (fun _ => by rw [show (1 : Int) - 1 = 0 by omega, g6.1 0 (by omega) (by omega)]; exact w3)
          obtain ⟨τ, hτ⟩ : ∃ τ, τ = wr (wr (wr ρ iM 17 0) iM 15 0) iM 12 (q + 1) := ⟨_, rfl⟩
          have f2 : gi τ iM_said = gi ρ iM_said := by rw [hτ, gi_wr_f (by decide), gi_wr_f (by decide), gi_wr_f (by decide)]
          have hτR : RgS B (q + 1) 0 0 s1 τ := by
            rw [hτ]
            refine ⟨((e2.1.wrs (by omega)).wrs (by omega)).wrs (by omega), gi_wr (by omega), ?_, ?_, ?_⟩
            · rw [gi_wr_z (by omega), gi_wr (by omega)]
            · rw [gi_wr_z (by omega), gi_wr_z (by omega), gi_wr (by omega)]
            · rw [gi_wr_z (by omega), gi_wr_z (by omega), gi_wr_z (by omega)]; exact e2.2.2.2.2
          have ec : fX12_lands 1 ν = some ρ := e1
          have h17 := hτR.2.2.2.1
          have eb : bdV ν = some (.inr (.inr (j32 1, τ))) := by
            show fX12_readsCondition_b92 ν = _
            unfold fX12_readsCondition_b92
            rw [hh, xbd_e, c41, if_pos (by decide), ec, xbd_e, j_rd, show gi ρ iM ((17 : Nat) : Int) = 1 from e2.2.2.2.1, show (1 : Int32) = j32 1 from rfl, j_sub, show (1 : Int) - 1 = 0 by omega]
            rw [show xpI ρ iM 17 (j32 0) = wr ρ iM 17 0 from rfl, xlt_e, j_rd, show gi (wr ρ iM 17 0) iM ((15 : Nat) : Int) = 1 from by (show gi (wr ρ iM 17 0) iM 15 = 1; rw [gi_wr_z (by omega)]; exact e2.2.2.1), j_sub, show (1 : Int) - 1 = 0 by omega]
            rw [show xpI (wr ρ iM 17 0) iM 15 (j32 0) = wr (wr ρ iM 17 0) iM 15 0 from rfl, xlt_e, j_rd, show gi (wr (wr ρ iM 17 0) iM 15 0) iM ((12 : Nat) : Int) = q from by (show gi (wr (wr ρ iM 17 0) iM 15 0) iM 12 = q; rw [gi_wr_z (by omega), gi_wr_z (by omega)]; exact e2.2.1), j_add, show xpI (wr (wr ρ iM 17 0) iM 15 0) iM 12 (j32 (q + 1)) = τ from hτ.symm, xlt_e, j_rd, show gi τ iM ((17 : Nat) : Int) = 0 from h17, if_pos (show j32 0 = 0 from rfl)]
          refine AK.stop eb ?_
          show xok (some (j32 1, τ)) P
          refine xok_some.mpr (hP τ s1 hτR (fun z z0 z1 => by rw [f2, e4 z z0 z1, g6.2 z z0 z1, w4, f3]) (by omega) (by omega) (by omega) ?_)
          rw [f2, ← g5]; exact e5
        · rw [if_neg c41] at hP
          obtain ⟨κ, u1, u2⟩ := aft_bad hB g3.1 g3.2.1 (by omega) g1
          refine AK.stop (bdV_no hB g3.1 g3.2.1 (by omega) c41) ?_
          rw [u1, xbd_e]
          exact xok_some.mpr (hP κ u2)
    unfold fX12_readsCondition
    rw [ihere, xbd_e, h40, if_pos (by decide), xlt_e, xlt_e, show xpI (xpI μ iM 15 0) iM 17 0 = μ3 from hμ3.symm, show (13 : Int32) = j32 13 from rfl, r_opens h3 (by omega) (by omega) (by omega), xbd_e, if_neg (show ¬ (j32 1, opn μ3 0 0 13 p).1 = 0 from (by decide : ¬ j32 1 = 0))]
    obtain ⟨v, k1, k2⟩ := key
    refine ⟨v, ?_, k2⟩
    show xbd (xloop xfu bdB (opn μ3 0 0 13 p)) (fun q34 => some q34) = some v
    rw [k1]; rfl
  · rw [if_neg h40] at hP
    obtain ⟨ν, e, hd⟩ := r_wrong hr.1 (f := 1) (p := p) (by omega) (by omega)
    unfold fX12_readsCondition
    rw [ihere, xbd_e, if_neg (show ¬ j32 (sgT T N p) = 40 from fun d => h40 ((j_eq (b := 40) (by omega) (by omega)).mp d)), j_rd, show gi μ iM ((12 : Nat) : Int) = p from hr.2.1, show (1 : Int32) = j32 1 from rfl, e, xbd_e, xz0, xbd_e]
    exact xok_some.mpr (hP ν hd)
