/-! any sum, the plain model -/
theorem r_sum {B : xm} {T : Int → Int} {N op x1 : Int} (hB : ROK B T N) {Fc : Int → Int → Rs Ph} (hF : FacP B T N Fc op x1) : SumP B T N (pSum (sgT T N) Fc) op x1 := by
  intro m n p t s μ P hr hs ht hpN hx hbar hm hn hP
  unfold pSum at hP
  refine hF m n p t s μ P hr hs ht hpN hx hm hn ?_
  cases hr2 : Fc op p with
  | inl ev => rw [hr2] at hP; exact hP
  | inr ev =>
    rw [hr2] at hP
    intro ν s' n' g1 g2 g3 g4 g5 g6 g7
    exact r_loopS hB hF hs ht hx hbar P 200 ev.1 t s' none ev.2 ν n' (by omega) g1 (Or.inl ⟨rfl, g6⟩) g2 (by omega) (by omega) g3 g5 g7 hP
theorem r_sums {B : xm} {T : Int → Int} {N : Int} (hB : ROK B T N) (x1 : Int) : ∀ (D : Nat) (op : Int), 0 ≤ op → op ≤ 6 → 7 ≤ op + D → SumP B T N (rSum (sgT T N) D) op x1 := by
  intro D
  induction D with
  | zero => intro op h0 h6 h; omega
  | succ D ih =>
    intro op h0 h6 h
    exact r_sum hB (r_fac hB ⟨h0, h6⟩ (fun c => ih (op + 1) (by omega) (by omega) (by omega)))
theorem ss_no {c : Int} (h : -1 ≤ c ∧ c ≤ 255) (hn : ¬ isOp c) : fX12_sumSign (j32 c) = some (-1) := by
  unfold fX12_sumSign
  unfold isOp at hn
  simp (disch := omega) only [Bool.false_eq_true, lits, jj, jc, jm, Int.cast_ofNat_Int, j_bi0, j_bi1, not_true, not_false_eq_true, if_true, if_false, xe, xok_some, Sum.elim_inl, Sum.elim_inr, Int.reduceEq, Int.reduceLT, Int.reduceLE, Int.reduceAdd, Int.reduceSub, Int.reduceMul]
  rw [if_neg (by omega), if_neg (by omega), if_neg (by omega), if_neg (by omega), if_neg (by omega)]
theorem r_sumTop {B : xm} {T : Int → Int} {N p op t s : Int} {μ : xm} (hB : ROK B T N) (hr : RgS B p op t s μ) (hop : 0 ≤ op ∧ op ≤ 6) (hs : 0 ≤ s ∧ s ≤ p) (ht : 0 ≤ t ∧ t ≤ p) (hpN : p ≤ N) (hbar : Bar (gi μ iM_waits) t) (P : Int32 × xm → Prop) (hP : match rSum (sgT T N) 8 op p with
    | .inl e => ∀ ν, RW B e.1 e.2 ν → P (j32 0, ν)
    | .inr x => ∀ ν s', RgS B x.1 op t s' ν → Kp t s μ ν → s < s' → s' - s ≤ x.1 - p → x.1 ≤ N → SegR (gi ν iM_said) s s' x.2 → P (j32 1, ν)) : xok (fX12_readsSum μ) P := by
  have hN := hB.2.1
  have hFK : FK xfu xfu t μ P := by
    refine r_sums hB t 8 op hop.1 hop.2 (by omega) xfu xfu p t s μ P hr hs ht hpN (by omega) hbar (by unfold xfu; omega) (by unfold xfu; omega) ?_
    cases hr2 : rSum (sgT T N) 8 op p with
    | inl ev => rw [hr2] at hP; exact hP
    | inr ev =>
      obtain ⟨q, a⟩ := ev
      rw [hr2] at hP
      dsimp only at hP ⊢
      rintro ν n' ⟨g1, g2, pd, ψ, s1, t1, g3, g4, g5, g6, g7, g8, g9⟩ hn'
      obtain ⟨n2, rfl⟩ : ∃ n2, n' = n2 + 1 := ⟨n' - 1, by omega⟩
      have hbar2 : Bar (gi ν iM_waits) t := fun c => by rw [g6.1 (t - 1) (by omega) (by omega)]; exact hbar c
      obtain ⟨ρ, s', e1, e2, e3, e4, e5, e6⟩ := closes1 g3 g4 (by omega) (by omega) hbar2
      have hq := sgR_b hB q
      have hno : fX12_hasOpenSum (j32 t) ν = some (j32 0) := by
        refine has_no g3.2.2.2.1 (by omega) (fun z z0 z1 => ?_)
        have hk : ∀ o : Int, 0 ≤ kO o ∧ kO o ≤ 13 := fun o => by unfold kO; repeat' split <;> omega
        have hm : ∀ tb sl, MulR (gi ν iM_said) (gi ν iM_waits) sl s1 tb t1 ψ → tb ≤ z → ∃ K, 0 ≤ K ∧ K ≤ 13 ∧ gi ν iM_waits z = wd K 0 := by
          intro tb sl h hz
          rcases h with ⟨e, _⟩ | ⟨o, _, _, _, e, _, hw, _⟩
          · omega
          · exact ⟨kO o, (hk o).1, (hk o).2, by rw [show z = tb by omega]; exact hw⟩
        cases pd with
        | none => exact hm t s g4 z0
        | some y =>
          obtain ⟨hy, hw, sl, q1, q2⟩ := g4
          by_cases c : z = t
          · exact ⟨kO y.1, (hk _).1, (hk _).2, by rw [c]; exact hw⟩
          · exact hm (t + 1) sl q2 (by omega)
      have ec : fX12_closesSums 1 ν = some ρ := e1
      have e138 : fX12_readsSum_j138 (j32 t) ν = some (.inr (1, ρ)) := by
        unfold fX12_readsSum_j138
        rw [hno, xbd_e, if_pos (show j32 0 = 0 from rfl), ec, xbd_e]
      refine LKs.stop (r := (j32 1, ρ)) ?_ (hP ρ s' e2 ⟨fun z z0 z1 => ?_, fun z z0 z1 => ?_⟩ (by omega) (by omega) g2 ?_)
      · show fX12_readsSum_b14 ν (j32 t) = _
        unfold fX12_readsSum_b14
        rw [r_here hB g3.1 g3.2.1 (by omega), xbd_e, ss_no (by omega) g1, xbd_e, if_pos rfl, xbd_e, e138]
        by_cases c93 : j32 (sgT T N q) = 93
        · rw [if_pos c93, hno, xbd_e, if_pos (show j32 0 = 0 from rfl)]; rfl
        · rw [if_neg c93]; rfl
      · rw [e3.1 z z0 (by omega), g6.1 z z0 z1]
      · rw [e3.2 z z0 (by omega), g6.2 z z0 z1]
      · rw [g5] at e6; exact e6
  unfold fX12_readsSum
  rw [xlt_e, j_rd, show gi μ iM ((17 : Nat) : Int) = t from hr.2.2.2.1]
  obtain ⟨v, h1, h2⟩ := hFK
  refine ⟨v, ?_, h2⟩
  rw [← h1]
  have hh : fX12_readsFactor μ = rFac xfu μ := rfl
  rw [hh]
  congr 1
  funext q
  by_cases c : q.1 = 0
  · rw [if_pos c, if_pos c]
  · rw [if_neg c, if_neg c]
    cases xloop xfu (bdT t) q.2 <;> rfl
