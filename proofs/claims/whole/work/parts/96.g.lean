/-! jumps that wait, and where they land -/
abbrev bdJ (c : Int) (μ : xm) : Option (xm ⊕ xm) := fX12_lands_b0 μ (j32 c)
/-- the jump said at place v lands at s -/
def lnd (μ : xm) (K v s t : Int) : xm := wr (wr μ iM_said v (wd K s)) iM 17 (t - 1)
theorem la_pop {B : xm} {p op t s K v c : Int} {μ : xm} (h : RgS B p op t s μ) (hs : 0 ≤ s ∧ s < 220) (ht : 0 < t ∧ t ≤ 220) (hv : 0 ≤ v ∧ v < 220) (hw : gi μ iM_waits (t - 1) = wd K v) (hsd : gi μ iM_said v = wd K 0) (hK : K = 11 ∨ c = 1 ∧ K = 12) : bdJ c μ = some (.inl (lnd μ K v s t)) := by
  have ew : wd K v = 1048576 * K + v := rfl
  have hk : kdW μ t = K := by unfold kdW; rw [if_neg (by omega), hw]; omega
  have et : fX12_top μ = some (j32 K) := by rw [r_top h.2.2.2.1 (by omega) (fun _ => by omega), hk]
  have e22 : fX12_lands_j22 μ = some (.inl (lnd μ K v s t)) := by
    have h16 : gi μ iM 16 = s := h.2.2.2.2
    have a1 : gi (wr μ iM_said v (1048576 * K + s)) iM 17 = t := by rw [gi_wr_o (by decide)]; exact h.2.2.2.1
    unfold fX12_lands_j22
    rw [j_rd, show gi μ iM ((17 : Nat) : Int) = t from h.2.2.2.1, show (1 : Int32) = j32 1 from rfl, j_sub, j_gI (by omega), xbd_e, hw, mV (by omega) (by omega), xlt_e, j_gI (by omega), xbd_e, hsd, dK (by omega) (by omega), show (1048576 : Int32) = j32 1048576 from rfl, j_mul, j_rd, show gi μ iM ((16 : Nat) : Int) = s from h16, j_add, j_sI (by omega), xbd_e, j_rd, show gi (wr μ iM_said v (1048576 * K + s)) iM ((17 : Nat) : Int) = t from a1, j_sub]
    rfl
  show fX12_lands_b0 μ (j32 c) = _
  unfold fX12_lands_b0
  rw [et, xbd_e]
  rcases hK with rfl | ⟨rfl, rfl⟩
  · rw [if_pos (by decide), e22]
  · rw [if_neg (by decide), if_neg (by decide), xbd_e, if_pos (by decide), e22]
theorem la_end {t c : Int} {μ : xm} (h17 : gi μ iM 17 = t) (ht : 0 ≤ t ∧ t ≤ 220) (hw : 0 < t → 0 ≤ gi μ iM_waits (t - 1)) (hK : kdW μ t ≠ 11 ∧ (c = 0 ∨ kdW μ t ≠ 12)) : bdJ c μ = some (.inr μ) := by
  have et := r_top h17 ht hw
  have hb := kdW_b hw ht.1
  show fX12_lands_b0 μ (j32 c) = _
  unfold fX12_lands_b0
  rw [et, xbd_e, if_neg (show ¬ j32 (kdW μ t) = 11 from fun d => hK.1 ((j_eq (b := 11) (by omega) (by omega)).mp d))]
  by_cases c0 : j32 c = 0
  · rw [if_pos c0]
  · have hc : ¬ c = 0 := fun e => c0 (by rw [e]; rfl)
    rw [if_neg c0, xbd_e, if_neg (show ¬ j32 (kdW μ t) = 12 from fun d => by have := (j_eq (b := 12) (by omega) (by omega)).mp d; omega)]
theorem la_run {c : Int} {μ ν : xm} {m : Nat} (h : St (bdJ c) m μ ν) (hm : m ≤ 10) (he : bdJ c ν = some (.inr ν)) : fX12_lands (j32 c) μ = some ν := by
  have e := h (xfu - m)
  rw [show xfu - m + m = xfu by unfold xfu; omega] at e
  unfold fX12_lands
  rw [show xloop xfu (fun v => fX12_lands_b0 v (j32 c)) μ = some ν from ?_, xbd_e]
  show xloop xfu (bdJ c) μ = _
  rw [e, show xfu - m = (xfu - m - 1) + 1 by unfold xfu; omega]
  unfold xloop
  rw [he]
theorem RgS.lands {B : xm} {p op t s K v : Int} {μ : xm} (h : RgS B p op t s μ) (hs : 0 ≤ s ∧ s < 220) (hv : 0 ≤ v ∧ v < 220) (hK : 0 ≤ K ∧ K ≤ 20) (ht : 0 < t ∧ t ≤ 220) : RgS B p op (t - 1) s (lnd μ K v s t) ∧ gi (lnd μ K v s t) iM_waits = gi μ iM_waits ∧ (∀ z, 0 ≤ z → z ≠ v → gi (lnd μ K v s t) iM_said z = gi μ iM_said z) ∧ gi (lnd μ K v s t) iM_said v = wd K s := by
  have ew : wd K s = 1048576 * K + s := rfl
  unfold lnd
  refine ⟨⟨(h.1.wra (Or.inl rfl)).wrs (by omega), ?_, ?_, gi_wr (by omega), ?_⟩, ?_, fun z z0 z1 => ?_, ?_⟩
  · rw [gi_wr_z (by omega), gi_wr_o (by decide)]; exact h.2.1
  · rw [gi_wr_z (by omega), gi_wr_o (by decide)]; exact h.2.2.1
  · rw [gi_wr_z (by omega), gi_wr_o (by decide)]; exact h.2.2.2.2
  · rw [gi_wr_f (by decide), gi_wr_f (by decide)]
  · rw [gi_wr_o (by decide), gi_wr_z ⟨hv.1, z0, z1⟩]
  · rw [gi_wr_o (by decide), gi_wr (by omega)]
/-- what may wait behind a piece: an & -/
def AndR (cS w : Int → Int) (sl s1 tb t1 : Int) (φ : Pc) : Prop := (t1 = tb ∧ SegR cS sl s1 (bo φ)) ∨ ∃ φ1 φ2 j, t1 = tb + 1 ∧ w tb = wd 11 j ∧ cS j = wd 11 0 ∧ SegR cS sl j (bo φ1) ∧ SegR cS (j + 1) s1 (bo φ2) ∧ φ = phAnd φ1 φ2
/-- and ahead of it a | -/
def ChoR (cS w : Int → Int) (s s1 t t1 : Int) (pd : Option Pc) (φ : Pc) : Prop := match pd with
  | none => AndR cS w s s1 t t1 φ
  | some l => ∃ j, w t = wd 12 j ∧ cS j = wd 12 0 ∧ SegR cS s j (bo l) ∧ AndR cS w (j + 1) s1 (t + 1) t1 φ
theorem AndR.shut {B : xm} {p op tb t1 sl s1 : Int} {μ : xm} {φ : Pc} (c : Int) (h : RgS B p op t1 s1 μ) (hM : AndR (gi μ iM_said) (gi μ iM_waits) sl s1 tb t1 φ) (hb : 0 ≤ tb ∧ t1 ≤ 220) (hs : 0 ≤ s1 ∧ s1 < 220) : ∃ m ν, m ≤ 1 ∧ St (bdJ c) m μ ν ∧ RgS B p op tb s1 ν ∧ gi ν iM_waits = gi μ iM_waits ∧ (∀ z, 0 ≤ z → z < sl → gi ν iM_said z = gi μ iM_said z) ∧ SegR (gi ν iM_said) sl s1 (bo φ) := by
  rcases hM with ⟨e, h1⟩ | ⟨φ1, φ2, j, e, hw, hj, h1, h2, h3⟩
  · subst e
    exact ⟨0, μ, by omega, St.refl, h, rfl, fun _ _ _ => rfl, h1⟩
  · have hjb : 0 ≤ j ∧ j < 220 ∧ sl < j := by have := h2.1; have := h2.2.1; have := h1.1; have := h1.2.1; omega
    obtain ⟨a1, a2, a3, a4⟩ := h.lands (K := 11) (v := j) hs (by omega) (by omega) (by omega)
    refine ⟨1, _, by omega, St.one (la_pop h hs (by omega) (by omega) (by rw [show t1 - 1 = tb by omega]; exact hw) hj (Or.inl rfl)), ?_, a2, fun z z0 z1 => a3 z z0 (by omega), ?_⟩
    · rw [show tb = t1 - 1 by omega]; exact a1
    · subst h3
      exact (h1.congr fun z z0 z1 => a3 z (by have := h1.1; omega) (by omega)).and (h2.congr fun z z0 z1 => a3 z (by omega) (by omega)) a4
theorem AndR.t {cS w : Int → Int} {sl s1 tb t1 : Int} {φ : Pc} (h : AndR cS w sl s1 tb t1 φ) : tb ≤ t1 ∧ t1 ≤ tb + 1 ∧ sl < s1 ∧ 0 ≤ sl := by
  rcases h with ⟨e, h1⟩ | ⟨_, _, j, e, _, _, h1, h2, _⟩
  · have := h1.1; have := h1.2.1; omega
  · have := h1.1; have := h1.2.1; have := h2.2.1; omega
theorem ChoR.t {cS w : Int → Int} {s s1 t t1 : Int} {pd : Option Pc} {φ : Pc} (h : ChoR cS w s s1 t t1 pd φ) : t ≤ t1 ∧ t1 ≤ t + 2 ∧ s < s1 ∧ 0 ≤ s := by
  cases pd with
  | none => have := AndR.t h; omega
  | some l => obtain ⟨j, _, _, h1, h2⟩ := h; have := h2.t; have := h1.1; have := h1.2.1; omega
/-- under what is read there stands neither an & nor a | -/
def BarC (w : Int → Int) (t : Int) : Prop := 0 < t → w (t - 1) = wd 13 0
theorem BarC.k {μ : xm} {t : Int} (h : BarC (gi μ iM_waits) t) (ht : 0 ≤ t) : (0 < t → 0 ≤ gi μ iM_waits (t - 1)) ∧ (kdW μ t = 13 ∨ kdW μ t = -1) := by
  refine ⟨fun c => by rw [h c]; decide, ?_⟩
  unfold kdW
  by_cases c : t = 0
  · rw [if_pos c]; exact Or.inr rfl
  · rw [if_neg c, h (by omega)]; exact Or.inl (by decide)
/-- all jumps land -/
theorem lands1 {B : xm} {p op t t1 s s1 : Int} {μ : xm} {pd : Option Pc} {φ : Pc} (h : RgS B p op t1 s1 μ) (hM : ChoR (gi μ iM_said) (gi μ iM_waits) s s1 t t1 pd φ) (hb : 0 ≤ t ∧ t1 ≤ 220) (hs : 0 ≤ s1 ∧ s1 < 220) (hbar : BarC (gi μ iM_waits) t) : ∃ ν, fX12_lands (j32 1) μ = some ν ∧ RgS B p op t s1 ν ∧ gi ν iM_waits = gi μ iM_waits ∧ (∀ z, 0 ≤ z → z < s → gi ν iM_said z = gi μ iM_said z) ∧ SegR (gi ν iM_said) s s1 (bo (fio pd φ)) := by
  have fin_end : ∀ ν, RgS B p op t s1 ν → gi ν iM_waits = gi μ iM_waits → bdJ 1 ν = some (.inr ν) := fun ν r k => by
    have hb' : BarC (gi ν iM_waits) t := by rw [k]; exact hbar
    obtain ⟨b1, b2⟩ := hb'.k hb.1
    have := hM.t
    exact la_end r.2.2.2.1 (by omega) b1 (by omega)
  cases pd with
  | none =>
    obtain ⟨m, ν, hm, st, r, k, e1, sg⟩ := AndR.shut 1 h hM hb hs
    exact ⟨ν, la_run st (by omega) (fin_end ν r k), r, k, e1, sg⟩
  | some l =>
    have htt := hM.t
    obtain ⟨j, hw, hj, g1, g2⟩ := hM
    have tt := g2.t
    have j1 := g1.1
    have j2 := g1.2.1
    obtain ⟨m, ν, hm, st, r, k, e1, sg⟩ := AndR.shut 1 h g2 (by omega) hs
    obtain ⟨a1, a2, a3, a4⟩ := r.lands (K := 12) (v := j) hs (by omega) (by omega) (by omega)
    have a1' : RgS B p op t s1 (lnd ν 12 j s1 (t + 1)) := by rw [show t + 1 - 1 = t by omega] at a1; exact a1
    have st2 : bdJ 1 ν = some (.inl (lnd ν 12 j s1 (t + 1))) := la_pop r hs (by omega) (by omega) (by rw [show t + 1 - 1 = t by omega, k]; exact hw) (by rw [e1 j (by omega) (by omega)]; exact hj) (Or.inr ⟨rfl, rfl⟩)
    refine ⟨_, la_run (st.trans (St.one st2)) (by omega) (fin_end _ a1' (a2.trans k)), a1', a2.trans k, fun z z0 z1 => (a3 z z0 (by omega)).trans (e1 z z0 (by omega)), ?_⟩
    exact (g1.congr fun z z0 z1 => (a3 z (by omega) (by omega)).trans (e1 z (by omega) (by omega))).or (sg.congr fun z z0 z1 => a3 z (by omega) (by omega)) a4
