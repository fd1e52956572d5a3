/-! all pieces, the plain model -/
theorem r_pies {B : xm} {T : Int → Int} {N : Int} (hB : ROK B T N) : ∀ (D : Nat) (op : Int), 0 ≤ op → op ≤ 6 → 7 ≤ op + D → PieP B N (rPie (sgT T N) D) op := by
  intro D
  induction D with
  | zero => intro op h0 h6 h; omega
  | succ D ih =>
    intro op h0 h6 h n p t s μ P hr hs ht hpN hbar hn hP
    have hN := hB.2.1
    have hI : op < 6 → PieP B N (rPie (sgT T N) D) (op + 1) := fun c => ih (op + 1) (by omega) (by omega) (by omega)
    have ihere := r_here hB hr.1 hr.2.1 (by omega)
    have bad5 : op = 6 → ∀ K : Int, (∀ ν, fX12_opens (j32 K) μ = some (j32 0, ν) → bdB μ = some (.inr (j32 0, ν))) → (∀ ν, RW B 5 p ν → P (j32 0, ν)) → BK n μ P := fun c K hb hq => by
      subst c
      obtain ⟨n', rfl⟩ : ∃ n', n = n' + 1 := ⟨n - 1, by omega⟩
      obtain ⟨ν, e, hd⟩ := r_opens5 (K := K) hr (by omega)
      exact BK.stop (hb ν e) (hq ν hd)
    change (match pPie (sgT T N) (pCho (sgT T N) (rPie (sgT T N) D)) (rPie (sgT T N) D) op p with | .inl e => _ | .inr x => _) at hP
    unfold pPie at hP
    by_cases h33 : sgT T N p = 33
    · rw [if_pos h33] at hP
      by_cases c6 : op < 6
      · rw [if_pos c6] at hP
        refine r_pieN hB ⟨h0, c6⟩ (hI c6) hr hs (by omega) hpN hn h33 ?_
        cases h1 : rPie (sgT T N) D (op + 1) (p + 1) with
        | inl ev => rw [h1] at hP; exact hP
        | inr ev => rw [h1] at hP; exact hP
      · rw [if_neg c6] at hP
        refine bad5 (by omega) 10 (fun ν e => ?_) hP
        show fX12_readsCondition_b40 μ = _
        unfold fX12_readsCondition_b40 fX12_readsCondition_j58 fX12_readsCondition_j75
        rw [ihere, xbd_e, h33, if_pos (by decide), xbd_e, if_pos (by decide), show (10 : Int32) = j32 10 from rfl, e, xbd_e, if_pos (show (j32 0, ν).1 = 0 from rfl)]
        rfl
    · rw [if_neg h33] at hP
      by_cases h40 : sgT T N p = 40
      · rw [if_pos h40] at hP
        by_cases c6 : op < 6
        · rw [if_pos c6] at hP
          refine r_pieP hB ⟨h0, c6⟩ (hI c6) hr hs ht hpN hn h40 ?_
          cases h1 : pCho (sgT T N) (rPie (sgT T N) D) (op + 1) (p + 1) with
          | inl ev => rw [h1] at hP; exact hP
          | inr ev =>
            rw [h1] at hP
            dsimp only at hP ⊢
            by_cases c41 : sgT T N ev.1 = 41
            · rw [if_pos c41] at hP ⊢; exact hP
            · rw [if_neg c41] at hP ⊢; exact hP
        · rw [if_neg c6] at hP
          refine bad5 (by omega) 13 (fun ν e => ?_) hP
          show fX12_readsCondition_b40 μ = _
          unfold fX12_readsCondition_b40 fX12_readsCondition_j58 fX12_readsCondition_j75
          rw [ihere, xbd_e, h40, if_neg (by decide), xbd_e, if_pos (by decide), xbd_e, if_neg (by decide), show (13 : Int32) = j32 13 from rfl, e, xbd_e, if_pos (show (j32 0, ν).1 = 0 from rfl)]
          rfl
      · rw [if_neg h40] at hP
        exact r_pieC hB ⟨h0, h6⟩ hr hs (by omega) hpN hbar hn h33 h40 hP
