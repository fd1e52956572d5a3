/-! a factor, and so any sum, the plain model -/
abbrev opn (μ : xm) (op t K p : Int) : xm := psh (wr μ iM 15 (op + 1)) t K p
theorem RgS.w15 {B : xm} {p op t s v : Int} {μ : xm} (h : RgS B p op t s μ) (hv : 0 ≤ v ∧ v ≤ 100) : RgS B p v t s (wr μ iM 15 v) := by
  refine ⟨h.1.wrs (by omega), ?_, gi_wr (by omega), ?_, ?_⟩
  · rw [gi_wr_z (by omega)]; exact h.2.1
  · rw [gi_wr_z (by omega)]; exact h.2.2.2.1
  · rw [gi_wr_z (by omega)]; exact h.2.2.2.2
theorem r_opens {B : xm} {p op t s K : Int} {μ : xm} (h : RgS B p op t s μ) (hop : 0 ≤ op ∧ op < 6) (ht : 0 ≤ t ∧ t < 220) (hp : 0 ≤ p ∧ p ≤ 200) : fX12_opens (j32 K) μ = some (j32 1, opn μ op t K p) := by
  have h1 := h.w15 (v := op + 1) (by omega)
  unfold fX12_opens
  rw [j_rd, show gi μ iM ((15 : Nat) : Int) = op from h.2.2.1, if_neg (show ¬ j32 op = 6 from fun d => by have := (j_eq (b := 6) (by omega) (by omega)).mp d; omega), show (1 : Int32) = j32 1 from rfl, j_add, xlt_e]
  exact e_push h1 ht hp (fun μ4 => some (j32 1, μ4))
theorem r_opens5 {B : xm} {p t s K : Int} {μ : xm} (h : RgS B p 6 t s μ) (hp : 0 ≤ p ∧ p ≤ 200) : ∃ ν, fX12_opens (j32 K) μ = some (j32 0, ν) ∧ RW B 5 p ν := by
  obtain ⟨ν, e, hw⟩ := r_wrong h.1 (f := 5) (by omega) hp
  refine ⟨ν, ?_, hw⟩
  unfold fX12_opens
  rw [j_rd, show gi μ iM ((15 : Nat) : Int) = 6 from h.2.2.1, if_pos (show j32 6 = 6 from rfl), j_rd, show gi μ iM ((12 : Nat) : Int) = p from h.2.1, show (5 : Int32) = j32 5 from rfl, e, xbd_e]
  rfl
theorem RgS.opn {B : xm} {p op t s K : Int} {μ : xm} (h : RgS B p op t s μ) (hop : 0 ≤ op ∧ op < 6) (ht : 0 ≤ t ∧ t < 220) (hp : 0 ≤ p ∧ p ≤ 200) (hK : 0 ≤ K ∧ K ≤ 20) : RgS B (p + 1) (op + 1) (t + 1) s (opn μ op t K p) ∧ (∀ z, 0 ≤ z → z ≠ t → gi (opn μ op t K p) iM_waits z = gi μ iM_waits z) ∧ gi (opn μ op t K p) iM_waits t = wd K 0 ∧ gi (opn μ op t K p) iM_said = gi μ iM_said := by
  obtain ⟨a, b, c, d⟩ := (h.w15 (v := op + 1) (by omega)).push (K := K) ht hp hK
  refine ⟨a, fun z z0 z1 => (b z z0 z1).trans (gi_wr_o (by decide)), c, d.trans (gi_wr_f (by decide))⟩
theorem r_isDg {B : xm} {T : Int → Int} {N p : Int} {μ : xm} (hB : ROK B T N) (h : RB B μ) (h12 : gi μ iM 12 = p) (hp : 0 ≤ p ∧ p ≤ N) : fX12_isDigit μ = some (j32 (bi (isDg (sgT T N p)))) := by
  have hs := sgR_b hB p
  have e := r_here hB h h12 hp
  unfold fX12_isDigit bi isDg
  rw [e, xbd_e, xbd_e]
  by_cases h1 : sgT T N p < 48
  · rw [if_pos (show j32 (sgT T N p) < 48 from (j_lt (b := 48) (by omega) (by omega)).mpr h1), if_neg (by omega)]; rfl
  · rw [if_neg (show ¬ j32 (sgT T N p) < 48 from fun d => h1 ((j_lt (b := 48) (by omega) (by omega)).mp d))]
    by_cases h2 : 57 < sgT T N p
    · rw [if_pos (show 57 < j32 (sgT T N p) from (j_lt (a := 57) (by omega) (by omega)).mpr h2), if_neg (by omega)]; rfl
    · rw [if_neg (show ¬ 57 < j32 (sgT T N p) from fun d => h2 ((j_lt (a := 57) (by omega) (by omega)).mp d)), if_pos (by omega)]; rfl
abbrev bdM (x1 : Int) (μ : xm) : Option (xm ⊕ (xm ⊕ (Int32 × xm))) := fX12_readsNumber_b10 μ (j32 x1)
theorem r_numL {B : xm} {T : Int → Int} {N op t s x1 : Int} (hB : ROK B T N) (hx : 0 ≤ x1 ∧ x1 ≤ 200) : ∀ (k : Nat) (v p : Int) (μ ν0 : xm), k ≤ 5 → p = x1 + 5 - k → RgS B p op t s μ → gi μ iM_waits = gi ν0 iM_waits → gi μ iM_said = gi ν0 iM_said → gi μ iM 19 = v → p ≤ N → 0 ≤ v → (v + 1) * 10 ^ k ≤ 100000 → ∀ n, xok (xloop (n + k + 1) (bdM x1) μ) (fun r => match r with
    | .inl ν => ¬ isDg (sgT T N (numV (sgT T N) k v p).2) ∧ RgS B (numV (sgT T N) k v p).2 op t s ν ∧ gi ν iM_waits = gi ν0 iM_waits ∧ gi ν iM_said = gi ν0 iM_said ∧ gi ν iM 19 = (numV (sgT T N) k v p).1 ∧ (numV (sgT T N) k v p).2 ≤ N ∧ 0 ≤ (numV (sgT T N) k v p).1 ∧ (numV (sgT T N) k v p).1 ≤ 99999
    | .inr x => isDg (sgT T N (numV (sgT T N) k v p).2) ∧ x.1 = j32 0 ∧ RW B 2 (numV (sgT T N) k v p).2 x.2) := by
  intro k
  induction k with
  | zero =>
    intro v p μ ν0 hk hpx h hw hsd h19 hp hv hl n
    have hN := hB.2.1
    unfold xloop numV
    have e : bdM x1 μ = if bi (isDg (sgT T N p)) = 0 then some (.inr (.inl μ)) else (xbd (fX12_wrongAt 2 (j32 p) μ) fun q9 => xbd (xz q9.1) fun z10 => some (.inr (.inr (z10, q9.2)))) := by
      show fX12_readsNumber_b10 μ (j32 x1) = _
      unfold fX12_readsNumber_b10
      rw [r_isDg hB h.1 h.2.1 (by omega), xbd_e, j_rd, show gi μ iM ((12 : Nat) : Int) = p from h.2.1, show (5 : Int32) = j32 5 from rfl, j_add]
      unfold bi
      by_cases d : isDg (sgT T N p)
      · rw [if_pos d, if_neg (show ¬ j32 1 = 0 from by decide), if_pos (show j32 p = j32 (x1 + 5) from by rw [show p = x1 + 5 by omega]), if_neg (show ¬ (1 : Int) = 0 from by decide)]
      · rw [if_neg d, if_pos (by rfl), if_pos rfl]
    rw [e]
    unfold bi
    by_cases d : isDg (sgT T N p)
    · rw [if_pos d, if_neg (by decide)]
      obtain ⟨ν, e1, e2⟩ := r_wrong h.1 (f := 2) (p := p) (by omega) (by omega)
      rw [show (2 : Int32) = j32 2 from rfl, e1, xbd_e]
      exact xok_some.mpr ⟨d, rfl, e2⟩
    · rw [if_neg d, if_pos rfl]
      exact xok_some.mpr ⟨d, h, hw, hsd, h19, hp, hv, by show v ≤ 99999; omega⟩
  | succ k ih =>
    intro v p μ ν0 hk hpx h hw hsd h19 hp hv hl n
    have hN := hB.2.1
    have hsg := sgR_b hB p
    have h10 : (10 : Int) ^ (k + 1) = 10 ^ k * 10 := Int.pow_succ _ _
    have hm : (0 : Int) < 10 ^ k := Int.pow_pos (by omega)
    have hvv : v + 1 ≤ 100000 := by
      have h1 : (v + 1) * 1 ≤ (v + 1) * 10 ^ (k + 1) := Int.mul_le_mul_of_nonneg_left (by omega) (by omega)
      omega
    rw [show n + (k + 1) + 1 = (n + k + 1) + 1 by omega]
    unfold xloop numV
    by_cases d : isDg (sgT T N p)
    · have hpN := hsg.2.2 (by unfold isDg at d; omega)
      have d2 : 48 ≤ sgT T N p ∧ sgT T N p ≤ 57 := d
      have e : bdM x1 μ = some (.inl (wr (wr μ iM 19 (10 * v + sgT T N p - 48)) iM 12 (p + 1))) := by
        show fX12_readsNumber_b10 μ (j32 x1) = _
        unfold fX12_readsNumber_b10
        rw [r_isDg hB h.1 h.2.1 (by omega), xbd_e, j_rd, show gi μ iM ((12 : Nat) : Int) = p from h.2.1, show (5 : Int32) = j32 5 from rfl, j_add]
        unfold bi
        rw [if_pos d, if_neg (by decide), if_neg (fun c => by have := (j_eq (by omega) (by omega)).mp c; omega), r_here hB h.1 h.2.1 (by omega), xbd_e, j_rd, show gi μ iM ((19 : Nat) : Int) = v from h19]
        rw [show (10 : Int32) = j32 10 from rfl, j_mul, j_add, show (48 : Int32) = j32 48 from rfl, j_sub, xlt_e, j_rd]
        rw [show gi (xpI μ iM 19 (j32 (10 * v + sgT T N p - 48))) iM ((12 : Nat) : Int) = p from ?_, show (1 : Int32) = j32 1 from rfl, j_add]
        · rfl
        · show gi (wr μ iM 19 _) iM 12 = p
          rw [gi_wr_z (by omega)]; exact h.2.1
      rw [e]
      simp only [if_pos d]
      rw [show v * 10 + sgT T N p - 48 = 10 * v + sgT T N p - 48 by omega]
      have hR : RgS B (p + 1) op t s (wr (wr μ iM 19 (10 * v + sgT T N p - 48)) iM 12 (p + 1)) := by
        refine ⟨(h.1.wrs (by omega)).wrs (by omega), gi_wr (by omega), ?_, ?_, ?_⟩
        · rw [gi_wr_z (by omega), gi_wr_z (by omega)]; exact h.2.2.1
        · rw [gi_wr_z (by omega), gi_wr_z (by omega)]; exact h.2.2.2.1
        · rw [gi_wr_z (by omega), gi_wr_z (by omega)]; exact h.2.2.2.2
      refine ih (10 * v + sgT T N p - 48) (p + 1) _ ν0 (by omega) (by omega) hR ?_ ?_ ?_ (by omega) (by omega) ?_ n
      · rw [gi_wr_f (by decide), gi_wr_f (by decide)]; exact hw
      · rw [gi_wr_f (by decide), gi_wr_f (by decide)]; exact hsd
      · rw [gi_wr_z (by omega), gi_wr (by omega)]
      · have h1 : (10 * v + sgT T N p - 48 + 1) * 10 ^ k ≤ ((v + 1) * 10) * 10 ^ k := Int.mul_le_mul_of_nonneg_right (by omega) (by omega)
        have h2 : ((v + 1) * 10) * 10 ^ k = (v + 1) * (10 ^ k * 10) := by rw [Int.mul_assoc, Int.mul_comm 10]
        rw [h10] at hl
        omega
    · have e : bdM x1 μ = some (.inr (.inl μ)) := by
        show fX12_readsNumber_b10 μ (j32 x1) = _
        unfold fX12_readsNumber_b10
        rw [r_isDg hB h.1 h.2.1 (by omega), xbd_e]
        unfold bi
        rw [if_neg d, if_pos (by rfl)]
      rw [e]
      simp only [if_neg d]
      exact xok_some.mpr ⟨d, h, hw, hsd, h19, hp, hv, by show v ≤ 99999; omega⟩
theorem r_fact {c : Int} (h : -1 ≤ c ∧ c ≤ 255) : (∀ i, fcI c = some i → i < 12 ∧ fX12_factOf (j32 c) = some (j32 i)) ∧ (fcI c = none → fX12_factOf (j32 c) = some (j32 (-1))) := by
  by_cases hc : c = 97 ∨ c = 98 ∨ c = 100 ∨ c = 103 ∨ c = 104 ∨ c = 107 ∨ c = 110 ∨ c = 114 ∨ c = 118 ∨ c = 119 ∨ c = 120 ∨ c = 121
  · rcases hc with rfl | rfl | rfl | rfl | rfl | rfl | rfl | rfl | rfl | rfl | rfl | rfl <;> exact ⟨fun i e => by cases e; exact ⟨by decide, by decide⟩, fun e => by cases e⟩
  · have hn : fcI c = none := by
      unfold fcI
      rw [if_neg (by omega), if_neg (by omega), if_neg (by omega), if_neg (by omega), if_neg (by omega), if_neg (by omega), if_neg (by omega), if_neg (by omega), if_neg (by omega), if_neg (by omega), if_neg (by omega), if_neg (by omega)]
    have ne : ∀ j : Int, (0 ≤ j ∧ j ≤ 200) → c ≠ j → ¬ j32 c = j32 j := fun j hj hd e => hd ((j_eq (by omega) (by omega)).mp e)
    refine ⟨fun i e => absurd (hn.symm.trans e) (by intro h; cases h), fun _ => ?_⟩
    unfold fX12_factOf
    rw [if_neg (show ¬ j32 c = 97 from ne 97 (by omega) (by omega)), if_neg (show ¬ j32 c = 98 from ne 98 (by omega) (by omega)), if_neg (show ¬ j32 c = 100 from ne 100 (by omega) (by omega)), if_neg (show ¬ j32 c = 103 from ne 103 (by omega) (by omega)), if_neg (show ¬ j32 c = 104 from ne 104 (by omega) (by omega)), if_neg (show ¬ j32 c = 107 from ne 107 (by omega) (by omega)), if_neg (show ¬ j32 c = 110 from ne 110 (by omega) (by omega)), if_neg (show ¬ j32 c = 114 from ne 114 (by omega) (by omega)), if_neg (show ¬ j32 c = 118 from ne 118 (by omega) (by omega)), if_neg (show ¬ j32 c = 119 from ne 119 (by omega) (by omega)), if_neg (show ¬ j32 c = 120 from ne 120 (by omega) (by omega)), if_neg (show ¬ j32 c = 121 from ne 121 (by omega) (by omega))]
    rfl
theorem xz0 : xz (j32 0) = some (j32 0) := rfl
theorem FK.opened {m n : Nat} {x1 : Int} {μ ν : xm} {P : Int32 × xm → Prop} (e : bdF μ = some (.inl ν)) (h : FK m n x1 ν P) : FK (m + 1) n x1 μ P := by
  have hh : rFac (m + 1) μ = rFac m ν := by
    unfold rFac
    conv => lhs; unfold xloop
    rw [e]
  unfold FK
  rw [hh]
  exact h
theorem r_fac {B : xm} {T : Int → Int} {N op x1 : Int} (hB : ROK B T N) (hop : 0 ≤ op ∧ op ≤ 6) {S : Int → Int → Rs Ph} (hS : op < 6 → SumP B T N S (op + 1) x1) : FacP B T N (pFac (sgT T N) S) op x1 := by
  intro m n p t s μ P hr hs ht hpN hx hm hn hP
  have hN := hB.2.1
  have hsg := sgR_b hB p
  have ihere := r_here hB hr.1 hr.2.1 (by omega)
  obtain ⟨m', rfl⟩ : ∃ m', m = m' + 1 := ⟨m - 1, by omega⟩
  unfold pFac at hP
  by_cases c91 : sgT T N p = 91
  · have hp := hsg.2.2 (by omega)
    rw [if_pos c91] at hP
    by_cases c6 : op < 6
    · rw [if_pos c6] at hP
      have e : bdF μ = some (.inl (opn μ op t 14 p)) := by
        show fX12_readsFactor_b0 μ = _
        unfold fX12_readsFactor_b0
        rw [ihere, xbd_e, c91, if_pos (by decide), show (14 : Int32) = j32 14 from rfl, r_opens hr ⟨hop.1, c6⟩ (by omega) (by omega), xbd_e, if_neg (show ¬ (j32 1, opn μ op t 14 p).1 = 0 from (by decide : ¬ j32 1 = 0))]
      refine FK.opened e ?_
      obtain ⟨w1, w2, w3, w4⟩ := hr.opn (K := 14) ⟨hop.1, c6⟩ (by omega) (by omega) (by omega)
      refine hS c6 m' n (p + 1) (t + 1) s _ P w1 (by omega) (by omega) (by omega) (by omega) (fun _ => by rw [show t + 1 - 1 = t by omega, w3]; decide) (by omega) (by omega) ?_
      cases hr2 : S (op + 1) (p + 1) with
      | inl ev => rw [hr2] at hP; exact hP
      | inr ev =>
        obtain ⟨q, a⟩ := ev
        rw [hr2] at hP
        dsimp only at hP ⊢
        rintro ν n' ⟨g1, g2, pd, ψ, s1, t1, g3, g4, g5, g6, g7, g8, g9⟩ hn'
        obtain ⟨n2, rfl⟩ : ∃ n2, n' = n2 + 1 := ⟨n' - 1, by omega⟩
        have hbar : Bar (gi ν iM_waits) (t + 1) := fun _ => by
          rw [show t + 1 - 1 = t by omega, g6.1 t (by omega) (by omega), w3]; decide
        obtain ⟨ρ, s', e1, e2, e3, e4, e5, e6⟩ := closes1 g3 g4 (by omega) (by omega) hbar
        have hq := sgR_b hB q
        have hyes : fX12_hasOpenSum (j32 x1) ν = some (j32 1) := has_yes g3.2.2.2.1 (z0 := t) (by omega) (by rw [g6.1 t (by omega) (by omega), w3])
        have hss : fX12_sumSign (j32 (sgT T N q)) = some (-1) := by
          unfold fX12_sumSign
          unfold isOp at g1
          simp (disch := omega) only [Bool.false_eq_true, lits, jj, jc, jm, Int.cast_ofNat_Int, j_bi0, j_bi1, not_true, not_false_eq_true, if_true, if_false, xe, xok_some, Sum.elim_inl, Sum.elim_inr, Int.reduceEq, Int.reduceLT, Int.reduceLE, Int.reduceAdd, Int.reduceSub, Int.reduceMul]
          rw [if_neg (by omega), if_neg (by omega), if_neg (by omega), if_neg (by omega), if_neg (by omega)]
        have hh := r_here hB g3.1 g3.2.1 (by omega)
        by_cases c93 : sgT T N q = 93
        · have hq2 := hq.2.2 (by omega)
          rw [if_pos c93] at hP
          obtain ⟨τ, hτ⟩ : ∃ τ, τ = wr (wr (wr ρ iM 17 t) iM 15 op) iM 12 (q + 1) := ⟨_, rfl⟩
          have ec : fX12_closesSums 1 ν = some ρ := e1
          have eb : bdT x1 ν = some (.inl τ) := by
            show fX12_readsSum_b14 ν (j32 x1) = _
            unfold fX12_readsSum_b14
            rw [hh, xbd_e, hss, xbd_e, if_pos rfl, xbd_e, c93, if_pos (by decide), hyes, xbd_e, if_neg (by decide), ec, xbd_e, xlt_e, j_rd, show gi ρ iM ((17 : Nat) : Int) = t + 1 from e2.2.2.2.1, show (1 : Int32) = j32 1 from rfl, j_sub, show t + 1 - 1 = t by omega]
            rw [show xpI ρ iM 17 (j32 t) = wr ρ iM 17 t from rfl, xlt_e, j_rd, show gi (wr ρ iM 17 t) iM ((15 : Nat) : Int) = op + 1 from by (show gi (wr ρ iM 17 t) iM 15 = op + 1; rw [gi_wr_z (by omega)]; exact e2.2.2.1), j_sub, show op + 1 - 1 = op by omega]
            rw [show xpI (wr ρ iM 17 t) iM 15 (j32 op) = wr (wr ρ iM 17 t) iM 15 op from rfl, xlt_e, j_rd, show gi (wr (wr ρ iM 17 t) iM 15 op) iM ((12 : Nat) : Int) = q from by (show gi (wr (wr ρ iM 17 t) iM 15 op) iM 12 = q; rw [gi_wr_z (by omega), gi_wr_z (by omega)]; exact e2.2.1), j_add, hτ]
            rfl
          refine LKs.step eb ?_
          have f1 : gi τ iM_waits = gi ρ iM_waits := by rw [hτ, gi_wr_f (by decide), gi_wr_f (by decide), gi_wr_f (by decide)]
          have f2 : gi τ iM_said = gi ρ iM_said := by rw [hτ, gi_wr_f (by decide), gi_wr_f (by decide), gi_wr_f (by decide)]
          refine hP τ s' n2 ?_ ⟨fun z z0 z1 => ?_, fun z z0 z1 => ?_⟩ (by omega) (by show s' - s ≤ q + 1 - p; omega) (by show q + 1 ≤ N; omega) ?_ (by show 300 < (n2 : Int) + (q + 1); omega)
          · rw [hτ]
            refine ⟨((e2.1.wrs (by omega)).wrs (by omega)).wrs (by omega), gi_wr (by omega), ?_, ?_, ?_⟩
            · rw [gi_wr_z (by omega), gi_wr (by omega)]
            · rw [gi_wr_z (by omega), gi_wr_z (by omega), gi_wr (by omega)]
            · rw [gi_wr_z (by omega), gi_wr_z (by omega), gi_wr_z (by omega)]; exact e2.2.2.2.2
          · rw [f1, e3.1 z z0 (by omega), g6.1 z z0 (by omega), w2 z z0 (by omega)]
          · rw [f2, e3.2 z z0 (by omega), g6.2 z z0 (by omega), w4]
          · rw [f2]; rw [g5] at e6; exact e6
        · rw [if_neg c93] at hP
          obtain ⟨τ, u1, u2⟩ := r_wrong g3.1 (f := 1) (p := q) (by omega) (by omega)
          refine LKs.stop (r := (j32 0, τ)) ?_ (hP τ u2)
          show fX12_readsSum_b14 ν (j32 x1) = _
          unfold fX12_readsSum_b14 fX12_readsSum_j138
          rw [hh, xbd_e, hss, xbd_e, if_pos rfl, xbd_e, if_neg (show ¬ j32 (sgT T N q) = 93 from fun d => c93 ((j_eq (b := 93) (by omega) (by omega)).mp d)), hyes, xbd_e, if_neg (by decide), j_rd, show gi ν iM ((12 : Nat) : Int) = q from g3.2.1, show (1 : Int32) = j32 1 from rfl, u1, xbd_e, xz0, xbd_e]
    · rw [if_neg c6] at hP
      have hop6 : op = 6 := by omega
      subst hop6
      obtain ⟨ν, e, hd⟩ := r_opens5 (K := 14) hr (by omega)
      have eb : bdF μ = some (.inr (.inr (j32 0, ν))) := by
        show fX12_readsFactor_b0 μ = _
        unfold fX12_readsFactor_b0
        rw [ihere, xbd_e, c91, if_pos (by decide), show (14 : Int32) = j32 14 from rfl, e, xbd_e, if_pos (show (j32 0, ν).1 = 0 from rfl)]
        rfl
      unfold FK rFac
      unfold xloop
      rw [eb]
      exact xok_some.mpr (hP ν hd)
  · rw [if_neg c91] at hP
    have eb : bdF μ = some (.inr (.inl μ)) := by
      show fX12_readsFactor_b0 μ = _
      unfold fX12_readsFactor_b0
      rw [ihere, xbd_e, if_neg (show ¬ j32 (sgT T N p) = 91 from fun d => c91 ((j_eq (b := 91) (by omega) (by omega)).mp d))]
    have e1 : xloop (m' + 1) bdF μ = some (.inl μ) := by
      unfold xloop
      rw [eb]
    unfold FK rFac
    rw [e1, xbd_e, xsm_e0, r_isDg hB hr.1 hr.2.1 (by omega), xbd_e]
    unfold bi
    by_cases d : isDg (sgT T N p)
    · rw [if_pos d] at hP
      rw [if_pos d, if_neg (show ¬ j32 1 = 0 from by decide)]
      have d2 : 48 ≤ sgT T N p ∧ sgT T N p ≤ 57 := d
      have hgt : p + 1 ≤ (numV (sgT T N) 5 0 p).2 := by
        have e : numV (sgT T N) 5 0 p = numV (sgT T N) 4 (0 * 10 + sgT T N p - 48) (p + 1) := by
          conv => lhs; unfold numV
          rw [if_pos d]
        rw [e]; exact numV_ge _ _ _ _
      have hR0 : RgS B p op t s (wr μ iM 19 0) := by
        refine ⟨hr.1.wrs (by omega), ?_, ?_, ?_, ?_⟩
        · rw [gi_wr_z (by omega)]; exact hr.2.1
        · rw [gi_wr_z (by omega)]; exact hr.2.2.1
        · rw [gi_wr_z (by omega)]; exact hr.2.2.2.1
        · rw [gi_wr_z (by omega)]; exact hr.2.2.2.2
      obtain ⟨r, r1, r2⟩ := r_numL (x1 := p) hB (by omega) 5 0 p _ μ (by omega) (by omega) hR0 (gi_wr_f (by decide)) (gi_wr_f (by decide)) (gi_wr (by omega)) (by omega) (by omega) (by omega) 999994
      have eN : fX12_readsNumber μ = xsm r (fun q12 => some (1, q12)) (fun q13 => some q13) := by
        unfold fX12_readsNumber
        rw [xlt_e, j_rd, show gi μ iM ((12 : Nat) : Int) = p from hr.2.1, xlt_e]
        rw [show xloop xfu (fun v => fX12_readsNumber_b10 v (j32 p)) (xpI μ iM 19 0) = some r from r1, xbd_e]
      rw [eN]
      unfold pNum at hP
      generalize numV (sgT T N) 5 0 p = nv at r2 hgt hP
      obtain ⟨v, q⟩ := nv
      dsimp only at r2 hgt hP
      cases r with
      | inl ν =>
        obtain ⟨g0, g1, g2, g3, g4, g5, g6, g7⟩ := r2
        rw [if_neg g0] at hP
        dsimp only at hP
        obtain ⟨a1, a2, a3, a4⟩ := g1.noted (K := 0) (v := v) (by omega) (by omega) (by omega)
        rw [xsm_e0, xbd_e, if_neg (show ¬ ((1 : Int32), ν).1 = 0 from (by decide : ¬ (1 : Int32) = 0)), j_rd, show gi ((1 : Int32), ν).2 iM ((19 : Nat) : Int) = v from g4, show (0 : Int32) = j32 0 from rfl, r_notes g1 (by omega) (by omega) (by omega), xbd_e, xbd_e]
        rw [if_neg (show ¬ ((1 : Int32), _).1 = j32 0 from (by decide : ¬ (1 : Int32) = 0))]
        refine hP _ (s + 1) n a1 ⟨fun z z0 z1 => by rw [a2, g2], fun z z0 z1 => by rw [a3 z z0 z1, g3]⟩ (by omega) (by omega) g5 (SegR.num hs.1 ⟨g6, g7⟩ a4) (by omega)
      | inr x =>
        obtain ⟨g0, g1, g2⟩ := r2
        rw [if_pos g0] at hP
        dsimp only at hP
        obtain ⟨x1', x2'⟩ := x
        dsimp only at g1 g2
        subst g1
        rw [xsm_e1, xbd_e, if_pos (show (j32 0, x2').1 = 0 from rfl), xbd_e, if_pos (show ((0 : Int32), x2').1 = 0 from rfl)]
        exact xok_some.mpr (hP x2' g2)
    · rw [if_neg d] at hP
      rw [if_neg d, if_pos (show j32 0 = 0 from rfl), ihere, xbd_e]
      obtain ⟨f1, f2⟩ := r_fact (c := sgT T N p) (by omega)
      cases hf : fcI (sgT T N p) with
      | none =>
        rw [hf] at hP
        obtain ⟨ν, e, hd⟩ := r_wrong hr.1 (f := 1) (p := p) (by omega) (by omega)
        rw [f2 hf, xbd_e, if_pos (show j32 (-1) = -1 from rfl), j_rd, show gi μ iM ((12 : Nat) : Int) = p from hr.2.1, show (1 : Int32) = j32 1 from rfl, e, xbd_e, xz0, xbd_e, xbd_e, if_pos (show (j32 0, ν).1 = 0 from rfl)]
        exact xok_some.mpr (hP ν hd)
      | some i =>
        rw [hf] at hP
        dsimp only at hP
        obtain ⟨hi, hfa⟩ := f1 i hf
        have hp := hsg.2.2 (by intro h; rw [h] at hf; cases hf)
        obtain ⟨a1, a2, a3, a4⟩ := hr.noted (K := 1) (v := i) (by omega) (by omega) (by omega)
        rw [hfa, xbd_e, if_neg (show ¬ j32 (i : Int) = -1 from fun d => by have := (j_eq (b := -1) (by omega) (by omega)).mp d; omega), show (1 : Int32) = j32 1 from rfl, r_notes hr (by omega) (by omega) (by omega), xbd_e]
        obtain ⟨κ, hκ⟩ : ∃ κ, κ = wr (wr μ iM_said s (wd 1 i)) iM 16 (s + 1) := ⟨_, rfl⟩
        rw [← hκ] at a1 a2 a3 a4 ⊢
        rw [j_rd κ iM 12, show gi κ iM ((12 : Nat) : Int) = p from a1.2.1, j_add, xlt_e, xbd_e, if_neg (show ¬ (j32 1, _).1 = 0 from (by decide : ¬ j32 1 = 0))]
        refine hP (wr κ iM 12 (p + 1)) (s + 1) n ?_ ⟨fun z z0 z1 => by rw [gi_wr_o (by decide), a2], fun z z0 z1 => by rw [gi_wr_o (by decide), a3 z z0 z1]⟩ (by omega) (by show s + 1 - s ≤ p + 1 - p; omega) (by show p + 1 ≤ N; omega) ?_ (by show 300 < (n : Int) + (p + 1); omega)
        · refine ⟨a1.1.wrs (by omega), gi_wr (by omega), ?_, ?_, ?_⟩
          · rw [gi_wr_z (by omega)]; exact a1.2.2.1
          · rw [gi_wr_z (by omega)]; exact a1.2.2.2.1
          · rw [gi_wr_z (by omega)]; exact a1.2.2.2.2
        · rw [gi_wr_f (show iM_said ≠ iM by decide)]
          exact SegR.fact hs.1 hi a4
