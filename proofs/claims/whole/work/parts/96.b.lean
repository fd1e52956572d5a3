/-! operators that wait, and how they go -/
abbrev bdX (c : Int) (μ : xm) : Option (xm ⊕ xm) := fX12_closesSums_b0 μ (j32 c)
theorem cl_pop {B : xm} {p op t s K c : Int} {μ : xm} (h : RgS B p op t s μ) (hs : 0 ≤ s ∧ s < 220) (ht : 0 < t ∧ t ≤ 220) (hw : gi μ iM_waits (t - 1) = wd K 0) (hK : 4 ≤ K ∧ K ≤ 6 ∨ c = 1 ∧ 2 ≤ K ∧ K ≤ 3) : bdX c μ = some (.inl (popo μ K s t)) := by
  have ew : wd K 0 = 1048576 * K + 0 := rfl
  have hk : kdW μ t = K := by unfold kdW; rw [if_neg (by omega), hw]; omega
  have et : fX12_top μ = some (j32 K) := by rw [r_top h.2.2.2.1 (by omega) (fun _ => by omega), hk]
  have e37 : fX12_closesSums_j37 μ = some (.inl (popo μ K s t)) := by
    obtain ⟨a1, a2, a3, a4⟩ := h.noted hs (K := K) (v := 0) (by omega) (by omega)
    unfold fX12_closesSums_j37
    rw [et, xbd_e, show (0 : Int32) = j32 0 from rfl, r_notes h hs (by omega) (by omega), xbd_e, j_rd, show gi _ iM ((17 : Nat) : Int) = t from a1.2.2.2.1, show (1 : Int32) = j32 1 from rfl, j_sub]
    rfl
  show fX12_closesSums_b0 μ (j32 c) = _
  unfold fX12_closesSums_b0
  rw [et, xbd_e, xbd_e]
  rcases hK with hK | ⟨hc, hK⟩
  · rw [if_neg (show ¬ j32 K < 4 from fun d => by have := (j_lt (b := 4) (by omega) (by omega)).mp d; omega), if_pos (show j32 K ≤ 6 from (j_le (b := 6) (by omega) (by omega)).mpr hK.2), e37]
  · rw [if_pos (show j32 K < 4 from (j_lt (b := 4) (by omega) (by omega)).mpr (by omega))]
    unfold fX12_closesSums_j17
    rw [hc, if_neg (show ¬ j32 1 = 0 from by decide), et, xbd_e, xbd_e, e37]
    by_cases c2 : K = 2
    · rw [if_pos (by rw [c2]; rfl)]
    · rw [if_neg (show ¬ j32 K = 2 from fun d => c2 ((j_eq (b := 2) (by omega) (by omega)).mp d)), if_pos (by rw [show K = 3 by omega]; rfl)]
theorem cl_end {t c : Int} {μ : xm} (h17 : gi μ iM 17 = t) (ht : 0 ≤ t ∧ t ≤ 220) (hw : 0 < t → 0 ≤ gi μ iM_waits (t - 1)) (hK : 7 ≤ kdW μ t ∨ kdW μ t < 2 ∨ c = 0 ∧ kdW μ t < 4) : bdX c μ = some (.inr μ) := by
  have et := r_top h17 ht hw
  have hb := kdW_b hw ht.1
  have e17 : (7 ≤ kdW μ t ∨ kdW μ t < 2 ∨ c = 0) → fX12_closesSums_j17 (j32 c) μ = some (.inr μ) := fun hh => by
    unfold fX12_closesSums_j17
    by_cases c0 : j32 c = 0
    · rw [if_pos c0]
    · have hc : ¬ c = 0 := fun e => c0 (by rw [e]; rfl)
      rw [if_neg c0, et, xbd_e, xbd_e, if_neg (show ¬ j32 (kdW μ t) = 2 from fun d => by have := (j_eq (b := 2) (by omega) (by omega)).mp d; omega), if_neg (show ¬ j32 (kdW μ t) = 3 from fun d => by have := (j_eq (b := 3) (by omega) (by omega)).mp d; omega)]
  show fX12_closesSums_b0 μ (j32 c) = _
  unfold fX12_closesSums_b0
  rw [et, xbd_e, xbd_e]
  by_cases c4 : kdW μ t < 4
  · rw [if_pos (show j32 (kdW μ t) < 4 from (j_lt (b := 4) (by omega) (by omega)).mpr c4), e17 (by omega)]
  · rw [if_neg (show ¬ j32 (kdW μ t) < 4 from fun d => by have := (j_lt (b := 4) (by omega) (by omega)).mp d; omega), if_neg (show ¬ j32 (kdW μ t) ≤ 6 from fun d => by have := (j_le (b := 6) (by omega) (by omega)).mp d; omega), e17 (by omega)]
theorem cl_run {c : Int} {μ ν : xm} {m : Nat} (h : St (bdX c) m μ ν) (hm : m ≤ 10) (he : bdX c ν = some (.inr ν)) : fX12_closesSums (j32 c) μ = some ν := by
  have e := h (xfu - m)
  rw [show xfu - m + m = xfu by unfold xfu; omega] at e
  unfold fX12_closesSums
  rw [show xloop xfu (fun v => fX12_closesSums_b0 v (j32 c)) μ = some ν from ?_, xbd_e]
  show xloop xfu (bdX c) μ = _
  rw [e, show xfu - m = (xfu - m - 1) + 1 by unfold xfu; omega]
  unfold xloop
  rw [he]
def MulR (cS w : Int → Int) (sl s1 tb t1 : Int) (φ : Ph) : Prop := (t1 = tb ∧ SegR cS sl s1 φ) ∨ ∃ op φ1 φ2 sm, t1 = tb + 1 ∧ (op = 42 ∨ op = 47 ∨ op = 37) ∧ w tb = wd (kO op) 0 ∧ SegR cS sl sm φ1 ∧ SegR cS sm s1 φ2 ∧ φ = ph2 op φ1 φ2
def SumQ (cS w : Int → Int) (s s1 t t1 : Int) (pd : Option (Int × Ph)) (φ : Ph) : Prop := match pd with
  | none => MulR cS w s s1 t t1 φ
  | some y => (y.1 = 43 ∨ y.1 = 45) ∧ w t = wd (kO y.1) 0 ∧ ∃ sl, SegR cS s sl y.2 ∧ MulR cS w sl s1 (t + 1) t1 φ
/-- no operator stands under what is read -/
def Bar (w : Int → Int) (t : Int) : Prop := 0 < t → 7340032 ≤ w (t - 1) ∧ w (t - 1) < 20971520
theorem MulR.shut {B : xm} {p op tb t1 sl s1 : Int} {μ : xm} {φ : Ph} (c : Int) (h : RgS B p op t1 s1 μ) (hM : MulR (gi μ iM_said) (gi μ iM_waits) sl s1 tb t1 φ) (hb : 0 ≤ tb ∧ t1 ≤ 220) (hs : 0 ≤ s1 ∧ s1 < 220) : ∃ m ν s', m ≤ 1 ∧ St (bdX c) m μ ν ∧ RgS B p op tb s' ν ∧ Kp tb s1 μ ν ∧ s1 ≤ s' ∧ s' ≤ s1 + (t1 - tb) ∧ SegR (gi ν iM_said) sl s' φ := by
  rcases hM with ⟨e, h1⟩ | ⟨o, φ1, φ2, sm, e, ho, hw, h1, h2, h3⟩
  · subst e
    exact ⟨0, μ, s1, by omega, St.refl, h, Kp.rf, by omega, by omega, h1⟩
  · have hk : 4 ≤ kO o ∧ kO o ≤ 6 := by rcases ho with rfl | rfl | rfl <;> decide
    have hio : isOp o := by unfold isOp; omega
    obtain ⟨a1, a2, a3⟩ := h.pop hs (K := kO o) (by omega) (by omega)
    refine ⟨1, _, s1 + 1, by omega, St.one (cl_pop h hs (by omega) (by rw [show t1 - 1 = tb by omega]; exact hw) (Or.inl hk)), ?_, ⟨fun z z0 z1 => a2.1 z z0 (by omega), a2.2⟩, by omega, by omega, ?_⟩
    · rw [show tb = t1 - 1 by omega]; exact a1
    · subst h3
      exact (h1.keep a2.2 (by have := h2.2.1; omega)).op (h2.keep a2.2 (by omega)) hio a3
theorem closes0 {B : xm} {p op tb t1 sl s1 : Int} {μ : xm} {φ : Ph} (h : RgS B p op t1 s1 μ) (hM : MulR (gi μ iM_said) (gi μ iM_waits) sl s1 tb t1 φ) (hb : 0 ≤ tb ∧ t1 ≤ 220) (hs : 0 ≤ s1 ∧ s1 < 220) (hbar : 0 < tb → 7340032 ≤ gi μ iM_waits (tb - 1) ∧ gi μ iM_waits (tb - 1) < 20971520 ∨ 0 ≤ gi μ iM_waits (tb - 1) ∧ gi μ iM_waits (tb - 1) < 4194304) : ∃ ν s', fX12_closesSums (j32 0) μ = some ν ∧ RgS B p op tb s' ν ∧ Kp tb s1 μ ν ∧ s1 ≤ s' ∧ s' ≤ s1 + (t1 - tb) ∧ SegR (gi ν iM_said) sl s' φ := by
  obtain ⟨m, ν, s', hm, st, r, k, e1, e2, sg⟩ := hM.shut 0 h hb hs
  have tt : tb ≤ t1 := by rcases hM with ⟨e, _⟩ | ⟨_, _, _, _, e, _⟩ <;> omega
  have kw : 0 < tb → gi ν iM_waits (tb - 1) = gi μ iM_waits (tb - 1) := fun c => k.1 _ (by omega) (by omega)
  refine ⟨ν, s', cl_run st (by omega) (cl_end r.2.2.2.1 (by omega) (fun c => ?_) ?_), r, k, e1, e2, sg⟩
  · rw [kw c]; have := hbar c; omega
  · unfold kdW
    by_cases c : tb = 0
    · rw [if_pos c]; omega
    · rw [if_neg c, kw (by omega)]; have := hbar (by omega); omega
theorem closes1 {B : xm} {p op t t1 s s1 : Int} {μ : xm} {pd : Option (Int × Ph)} {φ : Ph} (h : RgS B p op t1 s1 μ) (hM : SumQ (gi μ iM_said) (gi μ iM_waits) s s1 t t1 pd φ) (hb : 0 ≤ t ∧ t1 ≤ 220) (hs : 0 ≤ s1 ∧ s1 + (t1 - t) < 220) (hbar : Bar (gi μ iM_waits) t) : ∃ ν s', fX12_closesSums (j32 1) μ = some ν ∧ RgS B p op t s' ν ∧ Kp t s1 μ ν ∧ s1 ≤ s' ∧ s' ≤ s1 + (t1 - t) ∧ SegR (gi ν iM_said) s s' (fin pd φ) := by
  have fin_end : ∀ (ν : xm) (s' : Int), RgS B p op t s' ν → Kp t s1 μ ν → bdX 1 ν = some (.inr ν) := fun ν s' r k => by
    have kw : 0 < t → gi ν iM_waits (t - 1) = gi μ iM_waits (t - 1) := fun c => k.1 _ (by omega) (by omega)
    have tt : t ≤ 220 := by
      cases pd with
      | none => rcases hM with ⟨e, _⟩ | ⟨_, _, _, _, e, _⟩ <;> omega
      | some y => obtain ⟨_, _, _, _, hm⟩ := hM; rcases hm with ⟨e, _⟩ | ⟨_, _, _, _, e, _⟩ <;> omega
    refine cl_end r.2.2.2.1 (by omega) (fun c => ?_) ?_
    · rw [kw c]; have := hbar c; omega
    · unfold kdW
      by_cases c : t = 0
      · rw [if_pos c]; omega
      · rw [if_neg c, kw (by omega)]; have := hbar (by omega); omega
  cases pd with
  | none =>
    have tt : t ≤ t1 := by rcases hM with ⟨e, _⟩ | ⟨_, _, _, _, e, _⟩ <;> omega
    obtain ⟨m, ν, s', hm, st, r, k, e1, e2, sg⟩ := MulR.shut 1 h hM hb (by omega)
    exact ⟨ν, s', cl_run st (by omega) (fin_end ν s' r k), r, k, e1, e2, sg⟩
  | some y =>
    obtain ⟨hy, hw, sl, g1, g2⟩ := hM
    have tt : t + 1 ≤ t1 := by rcases g2 with ⟨e, _⟩ | ⟨_, _, _, _, e, _⟩ <;> omega
    obtain ⟨m, ν, s', hm, st, r, k, e1, e2, sg⟩ := MulR.shut 1 h g2 (by omega) (by omega)
    have hk : 2 ≤ kO y.1 ∧ kO y.1 ≤ 3 := by rcases hy with h | h <;> rw [h] <;> decide
    have hio : isOp y.1 := by unfold isOp; omega
    obtain ⟨a1, a2, a3⟩ := r.pop (K := kO y.1) (by omega) (by omega) (by omega)
    have a1' : RgS B p op t (s' + 1) (popo ν (kO y.1) s' (t + 1)) := by rw [show t + 1 - 1 = t by omega] at a1; exact a1
    have kk : Kp t s1 μ (popo ν (kO y.1) s' (t + 1)) := k.tr ⟨fun z z0 z1 => a2.1 z z0 (by omega), fun z z0 z1 => a2.2 z z0 (by omega)⟩ (by omega) e1 |> fun q => ⟨fun z z0 z1 => q.1 z z0 (by omega), q.2⟩
    have sle : sl ≤ s1 := by
      rcases g2 with ⟨_, q⟩ | ⟨_, _, _, sm, _, _, _, q1, q2, _⟩
      · exact Int.le_of_lt q.2.1
      · have := q1.2.1; have := q2.2.1; omega
    refine ⟨_, s' + 1, cl_run (st.trans (St.one (cl_pop r (by omega) (by omega) (by rw [show t + 1 - 1 = t by omega, k.1 t (by omega) (by omega)]; exact hw) (Or.inr ⟨rfl, hk⟩)))) (by omega) (fin_end _ _ a1' kk), a1', kk, by omega, by omega, ?_⟩
    exact ((g1.keep k.2 sle).keep a2.2 (by omega)).op (sg.keep a2.2 (by omega)) hio a3
