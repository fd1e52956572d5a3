/-! a comparison, the plain model -/
theorem r_cmp {B : xm} {T : Int → Int} {N p op t s : Int} {μ : xm} (hB : ROK B T N) (hr : RgS B p op t s μ) (hop : 0 ≤ op ∧ op ≤ 6) (hs : 0 ≤ s ∧ s ≤ p) (ht : 0 ≤ t ∧ t ≤ p) (hpN : p ≤ N) (hbar : Bar (gi μ iM_waits) t) (P : Int32 × xm → Prop) (hP : match pCmp (sgT T N) op p with
    | .inl e => ∀ ν, RW B e.1 e.2 ν → P (j32 0, ν)
    | .inr x => ∀ ν s', RgS B x.1 op t s' ν → Kp t s μ ν → s < s' → s' - s ≤ x.1 - p → x.1 ≤ N → SegR (gi ν iM_said) s s' (bo x.2) → ∃ ρ, fX12_endsPiece ν = some ρ ∧ P (j32 1, ρ)) : xok (fX12_readsCompared μ) P := by
  have hN := hB.2.1
  have hf : ∀ ν, P (j32 0, ν) → ∀ Q : Int32 × xm → Option (Int32 × xm), xok (if ((j32 0, ν) : Int32 × xm).1 = 0 then some (0, ((j32 0, ν) : Int32 × xm).2) else Q (j32 0, ν)) P := fun ν h Q => by
    rw [if_pos (show ((j32 0, ν) : Int32 × xm).1 = 0 from rfl)]; exact xok_some.mpr h
  unfold fX12_readsCompared
  rw [xok_bd]
  unfold pCmp at hP
  refine r_sumTop hB hr hop hs ht hpN hbar _ ?_
  cases h1 : rSum (sgT T N) 8 op p with
  | inl ev =>
    rw [h1] at hP
    intro ν hν
    exact hf ν (hP ν hν) (fun q1 => _)
  | inr ev =>
    obtain ⟨q, a⟩ := ev
    rw [h1] at hP
    dsimp only at hP ⊢
    intro ν s1 g1 g2 g3 g4 g5 g6
    have hq := sgR_b hB q
    have hh := r_here hB g1.1 g1.2.1 (by omega)
    rw [if_neg (show ¬ (j32 1 : Int32) = 0 from by decide), hh, xbd_e, xbd_e, xbd_e]
    by_cases cm : isCm (sgT T N q)
    · rw [if_pos cm] at hP
      have hqN := hq.2.2 (by unfold isCm at cm; omega)
      have e : (if j32 (sgT T N q) = 60 then (fX12_readsCompared_j52 7 (j32 1, ν)) else (if j32 (sgT T N q) = 62 then (fX12_readsCompared_j52 8 (j32 1, ν)) else (if j32 (sgT T N q) = 61 then (fX12_readsCompared_j52 9 (j32 1, ν)) else (fX12_readsCompared_j52 (-1) (j32 1, ν))))) = fX12_readsCompared_j52 (j32 (kQ (sgT T N q))) (j32 1, ν) := by
        rcases cm with c | c | c <;> rw [c]
        · rw [if_pos (by decide)]; rfl
        · rw [if_neg (by decide), if_pos (by decide)]; rfl
        · rw [if_neg (by decide), if_neg (by decide), if_pos (by decide)]; rfl
      rw [e]
      have hk : 7 ≤ kQ (sgT T N q) ∧ kQ (sgT T N q) ≤ 9 := by rcases cm with c | c | c <;> rw [c] <;> decide
      unfold fX12_readsCompared_j52
      have hR2 : RgS B (q + 1) op t s1 (wr ν iM 12 (q + 1)) := by
        refine ⟨g1.1.wrs (by omega), gi_wr (by omega), ?_, ?_, ?_⟩
        · rw [gi_wr_z (by omega)]; exact g1.2.2.1
        · rw [gi_wr_z (by omega)]; exact g1.2.2.2.1
        · rw [gi_wr_z (by omega)]; exact g1.2.2.2.2
      have f1 : gi (wr ν iM 12 (q + 1)) iM_waits = gi ν iM_waits := gi_wr_f (by decide)
      have f2 : gi (wr ν iM 12 (q + 1)) iM_said = gi ν iM_said := gi_wr_f (by decide)
      have hb2 : Bar (gi (wr ν iM 12 (q + 1)) iM_waits) t := fun c => by rw [f1, g2.1 (t - 1) (by omega) (by omega)]; exact hbar c
      rw [if_neg (show ¬ j32 (kQ (sgT T N q)) = -1 from fun d => by have := (j_eq (b := -1) (by omega) (by omega)).mp d; omega), j_rd, show gi ν iM ((12 : Nat) : Int) = q from g1.2.1, show (1 : Int32) = j32 1 from rfl, j_add, xlt_e, show xpI ν iM 12 (j32 (q + 1)) = wr ν iM 12 (q + 1) from rfl, xok_bd]
      refine r_sumTop hB hR2 hop (by omega) (by omega) (by omega) hb2 _ ?_
      cases h2 : rSum (sgT T N) 8 op (q + 1) with
      | inl ev =>
        rw [h2] at hP
        intro τ hτ
        exact hf τ (hP τ hτ) (fun q1 => _)
      | inr ev =>
        obtain ⟨r, b⟩ := ev
        rw [h2] at hP
        dsimp only at hP ⊢
        intro τ s2 k1 k2 k3 k4 k5 k6
        obtain ⟨a1, a2, a3, a4⟩ := k1.noted (K := kQ (sgT T N q)) (v := 0) (by omega) (by omega) (by omega)
        rw [if_neg (show ¬ (j32 1 : Int32) = 0 from by decide), show (0 : Int32) = j32 0 from rfl, r_notes k1 (by omega) (by omega) (by omega), xbd_e]
        have kk : ∀ z, 0 ≤ z → z < s1 → gi τ iM_said z = gi ν iM_said z := fun z z0 z1 => by rw [k2.2 z z0 z1, f2]
        obtain ⟨ρ, e1, e2⟩ := hP _ (s2 + 1) a1 ⟨fun z z0 z1 => by rw [a2, k2.1 z z0 z1, f1, g2.1 z z0 z1], fun z z0 z1 => by rw [a3 z z0 (by omega), kk z z0 (by omega), g2.2 z z0 z1]⟩ (by omega) (by omega) k5 (((g6.keep kk (by omega)).keep a3 (by omega)).cm (k6.keep a3 (by omega)) cm a4)
        rw [e1, xbd_e]
        exact xok_some.mpr e2
    · rw [if_neg cm] at hP
      have n1 : ¬ sgT T N q = 60 := fun c => cm (Or.inl c)
      have n2 : ¬ sgT T N q = 62 := fun c => cm (Or.inr (Or.inl c))
      have n3 : ¬ sgT T N q = 61 := fun c => cm (Or.inr (Or.inr c))
      obtain ⟨τ, e, hd⟩ := r_wrong g1.1 (f := 1) (p := q) (by omega) (by omega)
      rw [if_neg (show ¬ j32 (sgT T N q) = 60 from fun d => n1 ((j_eq (b := 60) (by omega) (by omega)).mp d)), if_neg (show ¬ j32 (sgT T N q) = 62 from fun d => n2 ((j_eq (b := 62) (by omega) (by omega)).mp d)), if_neg (show ¬ j32 (sgT T N q) = 61 from fun d => n3 ((j_eq (b := 61) (by omega) (by omega)).mp d))]
      unfold fX12_readsCompared_j52
      rw [if_pos (show (-1 : Int32) = -1 from rfl), j_rd, show gi ν iM ((12 : Nat) : Int) = q from g1.2.1, show (1 : Int32) = j32 1 from rfl, e, xbd_e, xz0, xbd_e]
      exact xok_some.mpr (hP τ hd)
