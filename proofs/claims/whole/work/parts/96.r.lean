/-! all clauses, the plain model -/
abbrev bdW (v : Int32 × xm) : Option ((Int32 × xm) ⊕ (Int32 × xm)) := fX12_law_b46 v.1 v.2
def KW (B : xm) (N : Int) (r : Rs (List Cl)) (v : Int32 × xm) : Prop := match r with
  | .inl e => v.1 = j32 0 ∧ RWL B e.1 e.2 v.2
  | .inr x => v.1 = j32 1 ∧ KRw B N x.1 x.2 v.2
theorem w_end {μ : xm} (n : Nat) : xloop (n + 1) bdW (j32 0, μ) = some (j32 0, μ) := by
  have e : bdW (j32 0, μ) = some (.inr (j32 0, μ)) := by
    show fX12_law_b46 (j32 0) μ = _
    unfold fX12_law_b46
    rw [if_pos (show j32 0 = 0 from rfl)]
  unfold xloop
  rw [e]
theorem w_endF {B : xm} {N f q : Int} {v : Int32 × xm} (h : v.1 = j32 0 ∧ RWL B f q v.2) (n : Nat) : xok (xloop (n + 1) bdW v) (KW B N (.inl (f, q))) := by
  obtain ⟨v1, v2⟩ := v
  have h1 : v1 = j32 0 := h.1
  subst h1
  rw [w_end]
  exact xok_some.mpr h
theorem r_loopW {B : xm} {T : Int → Int} {N : Int} (hB : ROK B T N) : ∀ (k : Nat) (p : Int) (ls : List Cl) (μ : xm), k + ls.length = 15 → KRw B N p ls μ → ∀ n, xok (xloop (n + k + 1) bdW (j32 1, μ)) (KW B N (pLaw (sgT T N) N k p ls)) := by
  intro k
  induction k with
  | zero =>
    intro p ls μ hk hK n
    obtain ⟨_, _, _, _, _, _, _, hln, _⟩ := hK
    omega
  | succ k ih =>
    intro p ls μ hk hK n
    obtain ⟨hL, h12, hp, s, h16, hs, h18, hln, hcl⟩ := id hK
    have hN := hB.2.1
    have hBμ := hB.rlw hL
    have h13 : gi μ iM 13 = N := hBμ.1
    rw [show n + (k + 1) + 1 = (n + k + 1) + 1 by omega]
    unfold xloop pLaw
    by_cases c : p < N
    · rw [if_pos c]
      have ihere := r_here hBμ RB.rf h12 (by omega)
      have hsg := sgR_b hB p
      by_cases c59 : sgT T N p = 59
      · rw [if_pos c59]
        have K2 : KRw B N (p + 1) ls (wr μ iM 12 (p + 1)) := by
          refine ⟨hL.wrs (by omega), gi_wr (by omega), by omega, s, ?_, by omega, ?_, hln, ?_⟩
          · rw [gi_wr_z (by omega)]; exact h16
          · rw [gi_wr_z (by omega)]; exact h18
          · rw [gi_wr_f (show iM_saidLetter ≠ iM by decide), gi_wr_f (show iM_saidFrom ≠ iM by decide), gi_wr_f (show iM_saidHalf ≠ iM by decide), gi_wr_f (show iM_saidTo ≠ iM by decide), gi_wr_f (show iM_said ≠ iM by decide)]; exact hcl
        obtain ⟨v, r1, r2⟩ := rcla hB K2
        have et : fX12_takes 59 μ = some (1, wr μ iM 12 (p + 1)) := by
          unfold fX12_takes
          rw [ihere, xbd_e, c59, if_pos (by decide), j_rd, show gi μ iM ((12 : Nat) : Int) = p from h12, show (1 : Int32) = j32 1 from rfl, j_add]; rfl
        have e : v.1 = j32 0 ∨ v.1 = j32 1 → bdW (j32 1, μ) = some (.inl v) := by
          intro hv
          show fX12_law_b46 (j32 1) μ = _
          unfold fX12_law_b46
          rw [if_neg (show ¬ j32 1 = 0 from by decide), j_rd μ iM 13, j_rd μ iM 12, show gi μ iM ((13 : Nat) : Int) = N from h13, show gi μ iM ((12 : Nat) : Int) = p from h12, if_neg (fun d => by have := (j_le (by omega) (by omega)).mp d; omega), et, xbd_e, if_neg (show ¬ ((1 : Int32), wr μ iM 12 (p + 1)).1 = 0 from (by decide : ¬ (1 : Int32) = 0)), r1, xbd_e]
          obtain ⟨v1, v2⟩ := v
          rcases hv with h | h
          · have h' : v1 = j32 0 := h
            subst h'
            rw [if_pos (show (j32 0, v2).1 = 0 from rfl)]; rfl
          · have h' : v1 = j32 1 := h
            subst h'
            rw [if_neg (show ¬ (j32 1, v2).1 = 0 from (by decide : ¬ j32 1 = 0))]; rfl
        cases hr : pCla (sgT T N) ls.length (p + 1) with
        | inl ev =>
          rw [hr] at r2
          rw [e (Or.inl r2.1)]
          exact w_endF r2 (n + k)
        | inr ev =>
          obtain ⟨q, cl⟩ := ev
          rw [hr] at r2
          obtain ⟨v1, v2⟩ := v
          obtain ⟨r3, r4, r5⟩ := r2
          have h' : v1 = j32 1 := r3
          subst h'
          rw [e (Or.inr rfl)]
          exact ih q (ls ++ [cl]) v2 (by rw [List.length_append]; show k + (ls.length + 1) = 15; omega) r5 n
      · rw [if_neg c59]
        obtain ⟨ν, e1, hd⟩ := r_wrong (B := μ) RB.rf (f := 1) (p := p) (by omega) (by omega)
        have et : fX12_takes 59 μ = some (j32 0, ν) := by
          unfold fX12_takes
          rw [ihere, xbd_e, if_neg (show ¬ j32 (sgT T N p) = 59 from fun d => c59 ((j_eq (b := 59) (by omega) (by omega)).mp d)), j_rd, show gi μ iM ((12 : Nat) : Int) = p from h12, show (1 : Int32) = j32 1 from rfl, e1, xbd_e, xz0, xbd_e]
        have e : bdW (j32 1, μ) = some (.inl (j32 0, ν)) := by
          show fX12_law_b46 (j32 1) μ = _
          unfold fX12_law_b46
          rw [if_neg (show ¬ j32 1 = 0 from by decide), j_rd μ iM 13, j_rd μ iM 12, show gi μ iM ((13 : Nat) : Int) = N from h13, show gi μ iM ((12 : Nat) : Int) = p from h12, if_neg (fun d => by have := (j_le (by omega) (by omega)).mp d; omega), et, xbd_e, if_pos (show (j32 0, ν).1 = 0 from rfl)]; rfl
        rw [e]
        exact w_endF (v := (j32 0, ν)) ⟨rfl, RWL.of hL hd⟩ (n + k)
    · rw [if_neg c]
      have e : bdW (j32 1, μ) = some (.inr (j32 1, μ)) := by
        show fX12_law_b46 (j32 1) μ = _
        unfold fX12_law_b46
        rw [if_neg (show ¬ j32 1 = 0 from by decide), j_rd μ iM 13, j_rd μ iM 12, show gi μ iM ((13 : Nat) : Int) = N from h13, show gi μ iM ((12 : Nat) : Int) = p from h12, if_pos ((j_le (by omega) (by omega)).mpr (by omega))]
      rw [e]
      exact xok_some.mpr ⟨rfl, hK⟩
