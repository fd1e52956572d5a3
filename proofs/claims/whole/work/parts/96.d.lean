/-! the loop of a sum, the plain model -/
def psh (μ : xm) (t K p : Int) : xm := wr (wr (wr μ iM_waits t (wd K 0)) iM 17 (t + 1)) iM 12 (p + 1)
theorem RgS.push {B : xm} {p op t s K : Int} {μ : xm} (h : RgS B p op t s μ) (ht : 0 ≤ t ∧ t < 220) (hp : 0 ≤ p ∧ p ≤ 200) (hK : 0 ≤ K ∧ K ≤ 20) : RgS B (p + 1) op (t + 1) s (psh μ t K p) ∧ (∀ z, 0 ≤ z → z ≠ t → gi (psh μ t K p) iM_waits z = gi μ iM_waits z) ∧ gi (psh μ t K p) iM_waits t = wd K 0 ∧ gi (psh μ t K p) iM_said = gi μ iM_said := by
  have hw : wd K 0 = 1048576 * K + 0 := rfl
  unfold psh
  refine ⟨⟨((h.1.wra (Or.inr rfl)).wrs (by omega)).wrs (by omega), gi_wr (by omega), ?_, ?_, ?_⟩, fun z z0 z1 => ?_, ?_, ?_⟩
  · rw [gi_wr_z (by omega), gi_wr_z (by omega), gi_wr_o (by decide)]; exact h.2.2.1
  · rw [gi_wr_z (by omega), gi_wr (by omega)]
  · rw [gi_wr_z (by omega), gi_wr_z (by omega), gi_wr_o (by decide)]; exact h.2.2.2.2
  · rw [gi_wr_o (by decide), gi_wr_o (by decide), gi_wr_z ⟨ht.1, z0, z1⟩]
  · rw [gi_wr_o (by decide), gi_wr_o (by decide), gi_wr (by omega)]
  · rw [gi_wr_f (by decide), gi_wr_f (by decide), gi_wr_f (by decide)]
theorem e_push {B : xm} {p op t s K : Int} {μ : xm} (h : RgS B p op t s μ) (ht : 0 ≤ t ∧ t < 220) (hp : 0 ≤ p ∧ p ≤ 200) {α : Type} (f : xm → Option α) : (xbd (xsI μ iM_waits 220 (μ.1 iM 17) (1048576 * j32 K)) fun μ19 => xlt (xpI μ19 iM 17 ((μ19.1 iM 17) + 1)) fun μ20 => xlt (xpI μ20 iM 12 ((μ20.1 iM 12) + 1)) fun μ21 => f μ21) = f (psh μ t K p) := by
  have a1 : gi (wr μ iM_waits t (1048576 * K)) iM 17 = t := by rw [gi_wr_o (by decide)]; exact h.2.2.2.1
  have a2 : gi (wr (wr μ iM_waits t (1048576 * K)) iM 17 (t + 1)) iM 12 = p := by rw [gi_wr_z (by omega), gi_wr_o (by decide)]; exact h.2.1
  rw [show (1048576 : Int32) = j32 1048576 from rfl, j_mul, j_rd, show gi μ iM ((17 : Nat) : Int) = t from h.2.2.2.1, j_sI (by omega), xbd_e, xlt_e, j_rd, show gi (wr μ iM_waits t (1048576 * K)) iM ((17 : Nat) : Int) = t from a1, show (1 : Int32) = j32 1 from rfl, j_add, show xpI (wr μ iM_waits t (1048576 * K)) iM 17 (j32 (t + 1)) = wr (wr μ iM_waits t (1048576 * K)) iM 17 (t + 1) from rfl, xlt_e, j_rd, show gi (wr (wr μ iM_waits t (1048576 * K)) iM 17 (t + 1)) iM ((12 : Nat) : Int) = p from a2, j_add, show xpI (wr (wr μ iM_waits t (1048576 * K)) iM 17 (t + 1)) iM 12 (j32 (p + 1)) = wr (wr (wr μ iM_waits t (1048576 * K)) iM 17 (t + 1)) iM 12 (p + 1) from rfl]
  unfold psh
  rw [show wd K 0 = 1048576 * K from by show 1048576 * K + 0 = _; omega]
theorem kO_ss {c : Int} (h : isOp c) : fX12_sumSign (j32 c) = some (j32 (kO c)) ∧ 2 ≤ kO c ∧ kO c ≤ 6 ∧ (4 ≤ kO c ↔ ¬(c = 43 ∨ c = 45)) := by
  rcases h with rfl | rfl | rfl | rfl | rfl <;> exact ⟨by decide, by decide, by decide, by decide⟩
theorem bdT_op {B : xm} {T : Int → Int} {N p op t1 t s1 s' x1 c : Int} {μ ν : xm} (hB : ROK B T N) (h : RgS B p op t1 s1 μ) (hp : 0 ≤ p ∧ p < N) (hc : sgT T N p = c) (io : isOp c) (he : fX12_closesSums (j32 (if c = 43 ∨ c = 45 then 1 else 0)) μ = some ν) (hr : RgS B p op t s' ν) (ht : 0 ≤ t ∧ t < 220) : bdT x1 μ = xbd (fX12_readsFactor (psh ν t (kO c) p)) fun q22 => if q22.1 = 0 then (some (.inr (0, q22.2))) else (some (.inl q22.2)) := by
  have hN := hB.2.1
  obtain ⟨k1, k2, k3, k4⟩ := kO_ss io
  show fX12_readsSum_b14 μ (j32 x1) = _
  unfold fX12_readsSum_b14
  rw [r_here hB h.1 h.2.1 (by omega), xbd_e, hc, k1, xbd_e, if_neg (show ¬ j32 (kO c) = -1 from fun d => by have := (j_eq (b := -1) (by omega) (by omega)).mp d; omega)]
  have j38 : ∀ x : Int, fX12_closesSums (j32 x) μ = some ν → fX12_readsSum_j38 (j32 x) μ (j32 (kO c)) = xbd (fX12_readsFactor (psh ν t (kO c) p)) fun q22 => if q22.1 = 0 then (some (.inr (0, q22.2))) else (some (.inl q22.2)) := fun x hx => by
    unfold fX12_readsSum_j38
    rw [hx, xbd_e]
    exact e_push hr ht (by omega) _
  by_cases ad : c = 43 ∨ c = 45
  · rw [if_pos ad] at he
    rw [if_neg (show ¬ (4 : Int32) ≤ j32 (kO c) from fun d => (k4.mp ((j_le (a := 4) (by omega) (by omega)).mp d)) ad)]
    exact j38 1 he
  · rw [if_neg ad] at he
    rw [if_pos (show (4 : Int32) ≤ j32 (kO c) from (j_le (a := 4) (by omega) (by omega)).mpr (k4.mpr ad))]
    exact j38 0 he
theorem r_loopS {B : xm} {T : Int → Int} {N op x1 p0 t s : Int} {μ0 : xm} {Fc : Int → Int → Rs Ph} (hB : ROK B T N) (hF : FacP B T N Fc op x1) (hs0 : 0 ≤ s ∧ s ≤ p0) (ht0 : 0 ≤ t ∧ t ≤ p0) (hx : 0 ≤ x1 ∧ x1 ≤ t) (hbar : Bar (gi μ0 iM_waits) t) (P : Int32 × xm → Prop) : ∀ (k : Nat) (p t1 s1 : Int) (pd : Option (Int × Ph)) (ψ : Ph) (ν : xm) (n : Nat), 200 ≤ k + p → RgS B p op t1 s1 ν → SumQ (gi ν iM_said) (gi ν iM_waits) s s1 t t1 pd ψ → Kp t s μ0 ν → s1 - s + (t1 - t) ≤ p - p0 → (t ≤ t1 ∧ t1 ≤ t + 2) → s < s1 → p ≤ N → 300 < n + p → (match pSumL (sgT T N) Fc op k p pd ψ with
    | .inl e => ∀ ν, RW B e.1 e.2 ν → P (j32 0, ν)
    | .inr x => ∀ ν n', EndS B (sgT T N) N p0 op t s x.2 μ0 x.1 ν → 300 < (n' : Nat) + x.1 → LKs n' x1 ν P) → LKs n x1 ν P := by
  intro k
  induction k with
  | zero =>
    intro p t1 s1 pd ψ ν n hk hr hq hkp hb htt hss hpN hn hP
    have hN := hB.2.1
    have nop : ¬ isOp (sgT T N p) := by
      unfold sgT
      rw [if_neg (by omega)]
      decide
    exact hP ν n ⟨nop, hpN, pd, ψ, s1, t1, hr, hq, rfl, hkp, hb, htt, hss⟩ hn
  | succ k ih =>
    intro p t1 s1 pd ψ ν n hk hr hq hkp hb htt hss hpN hn hP
    have hN := hB.2.1
    have hsg := sgR_b hB p
    have hbar' : Bar (gi ν iM_waits) t := fun c => by rw [hkp.1 (t - 1) (by omega) (by omega)]; exact hbar c
    unfold pSumL at hP
    by_cases io : isOp (sgT T N p)
    · have hp := hsg.2.2 (by unfold isOp at io; omega)
      rw [if_pos io] at hP
      obtain ⟨n', rfl⟩ : ∃ n', n = n' + 1 := ⟨n - 1, by omega⟩
      by_cases ad : sgT T N p = 43 ∨ sgT T N p = 45
      · obtain ⟨ρ, s', e1, e2, e3, e4, e5, e6⟩ := closes1 hr hq (by omega) (by omega) hbar'
        refine LKs.fac (bdT_op (x1 := x1) hB hr hp rfl io (by rw [if_pos ad]; exact e1) e2 (by omega)) ?_
        obtain ⟨w1, w2, w3, w4⟩ := e2.push (K := kO (sgT T N p)) (by omega) (by omega) (by have := kO_ss io; omega)
        refine hF xfu n' (p + 1) (t + 1) s' _ P w1 (by omega) (by omega) (by omega) (by omega) (by unfold xfu; omega) (by omega) ?_
        cases hr2 : Fc op (p + 1) with
        | inl ev => rw [hr2] at hP; exact hP
        | inr ev =>
          rw [hr2] at hP
          dsimp only at hP
          rw [if_pos ad] at hP
          intro τ s2 n2 g1 g2 g3 g4 g5 g6 g7
          have kk : ∀ z, 0 ≤ z → z < s' → gi τ iM_said z = gi ρ iM_said z := fun z z0 z1 => by rw [g2.2 z z0 z1, w4]
          refine ih ev.1 (t + 1) s2 (some (sgT T N p, fin pd ψ)) ev.2 τ n2 (by omega) g1 ⟨ad, ?_, s', e6.keep kk (by omega), Or.inl ⟨rfl, g6⟩⟩ ⟨fun z z0 z1 => ?_, fun z z0 z1 => ?_⟩ (by omega) (by omega) (by omega) g5 g7 hP
          · rw [g2.1 t (by omega) (by omega)]; exact w3
          · rw [g2.1 z z0 (by omega), w2 z z0 (by omega), e3.1 z z0 z1, hkp.1 z z0 z1]
          · rw [kk z z0 (by omega), e3.2 z z0 (by omega), hkp.2 z z0 z1]
      · have mu : sgT T N p = 42 ∨ sgT T N p = 47 ∨ sgT T N p = 37 := by unfold isOp at io; omega
        have key : ∀ (tb sl : Int), MulR (gi ν iM_said) (gi ν iM_waits) sl s1 tb t1 ψ → t ≤ tb → tb ≤ t + 1 → t1 ≤ tb + 1 → tb ≤ t1 → s ≤ sl → (0 < tb → 7340032 ≤ gi ν iM_waits (tb - 1) ∧ gi ν iM_waits (tb - 1) < 20971520 ∨ 0 ≤ gi ν iM_waits (tb - 1) ∧ gi ν iM_waits (tb - 1) < 4194304) → (∀ (τ : xm) (s2 : Int) (φ : Ph), Kp tb s1 ν τ → MulR (gi τ iM_said) (gi τ iM_waits) sl s2 tb (tb + 1) (ph2 (sgT T N p) ψ φ) → SumQ (gi τ iM_said) (gi τ iM_waits) s s2 t (tb + 1) pd (ph2 (sgT T N p) ψ φ)) → tb + 1 ≤ p + 1 → LKs (n' + 1) x1 ν P := by
          intro tb sl hM c1 c2 c3 c3' c4 c5 c6 c7
          obtain ⟨ρ, s', e1, e2, e3, e4, e5, e6⟩ := closes0 hr hM (by omega) (by omega) c5
          refine LKs.fac (bdT_op (x1 := x1) hB hr hp rfl io (by rw [if_neg ad]; exact e1) e2 (by omega)) ?_
          obtain ⟨w1, w2, w3, w4⟩ := e2.push (K := kO (sgT T N p)) (by omega) (by omega) (by have := kO_ss io; omega)
          refine hF xfu n' (p + 1) (tb + 1) s' _ P w1 (by omega) (by omega) (by omega) (by omega) (by unfold xfu; omega) (by omega) ?_
          cases hr2 : Fc op (p + 1) with
          | inl ev => rw [hr2] at hP; exact hP
          | inr ev =>
            rw [hr2] at hP
            dsimp only at hP
            rw [if_neg ad] at hP
            intro τ s2 n2 g1 g2 g3 g4 g5 g6 g7
            have kk : ∀ z, 0 ≤ z → z < s' → gi τ iM_said z = gi ρ iM_said z := fun z z0 z1 => by rw [g2.2 z z0 z1, w4]
            have kw : Kp tb s1 ν τ := ⟨fun z z0 z1 => by rw [g2.1 z z0 (by omega), w2 z z0 (by omega), e3.1 z z0 z1], fun z z0 z1 => by rw [kk z z0 (by omega), e3.2 z z0 z1]⟩
            refine ih ev.1 (tb + 1) s2 pd (ph2 (sgT T N p) ψ ev.2) τ n2 (by omega) g1 (c6 τ s2 ev.2 kw (Or.inr ⟨_, ψ, ev.2, s', rfl, mu, ?_, e6.keep kk (by omega), g6, rfl⟩)) ⟨fun z z0 z1 => ?_, fun z z0 z1 => ?_⟩ (by omega) (by omega) (by omega) g5 g7 hP
            · rw [g2.1 tb (by omega) (by omega)]; exact w3
            · rw [kw.1 z z0 (by omega), hkp.1 z z0 z1]
            · rw [kw.2 z z0 (by omega), hkp.2 z z0 z1]
        cases pd with
        | none =>
          have hh : t ≤ t1 ∧ t1 ≤ t + 1 := by rcases hq with ⟨e, _⟩ | ⟨_, _, _, _, e, _⟩ <;> omega
          exact key t s hq (by omega) (by omega) (by omega) (by omega) (by omega) (fun c => Or.inl (hbar' c)) (fun τ s2 φ _ q => q) (by omega)
        | some y =>
          obtain ⟨hy, hw, sl, q1, q2⟩ := hq
          have hh : t + 1 ≤ t1 ∧ t1 ≤ t + 1 + 1 := by rcases q2 with ⟨e, _⟩ | ⟨_, _, _, _, e, _⟩ <;> omega
          have hsl : sl ≤ s1 := by
            rcases q2 with ⟨_, q⟩ | ⟨_, _, _, sm, _, _, _, q1, q2, _⟩
            · exact Int.le_of_lt q.2.1
            · have := q1.2.1; have := q2.2.1; omega
          have hk2 : 2 ≤ kO y.1 ∧ kO y.1 ≤ 3 := by rcases hy with h | h <;> rw [h] <;> decide
          refine key (t + 1) sl q2 (by omega) (by omega) (by omega) (by omega) (Int.le_of_lt q1.2.1) (fun c => Or.inr ?_) (fun τ s2 φ kw q => ⟨hy, ?_, sl, q1.keep kw.2 hsl, q⟩) (by omega)
          · rw [show t + 1 - 1 = t by omega, hw]
            show 0 ≤ 1048576 * kO y.1 + 0 ∧ 1048576 * kO y.1 + 0 < 4194304
            omega
          · rw [kw.1 t (by omega) (by omega)]; exact hw
    · rw [if_neg io] at hP
      exact hP ν n ⟨io, hpN, pd, ψ, s1, t1, hr, hq, rfl, hkp, hb, htt, hss⟩ hn
