/-! how the plain model reads: its state -/
def RB (B μ : xm) : Prop := ∀ (a : Nat) (z : Int), 0 ≤ z → ¬(a = iM ∧ (z = 12 ∨ 14 ≤ z ∧ z ≤ 17 ∨ z = 19)) → a ≠ iM_said → a ≠ iM_waits → gi μ a z = gi B a z
def ROK (B : xm) (T : Int → Int) (N : Int) : Prop := gi B iM 13 = N ∧ (0 ≤ N ∧ N ≤ 200) ∧ ∀ z, 0 ≤ z → z < N → j32 (gi B iM_tape z) &&& j32 255 = j32 (T z) ∧ 0 ≤ T z ∧ T z ≤ 255
def RgS (B : xm) (p op t s : Int) (μ : xm) : Prop := RB B μ ∧ gi μ iM 12 = p ∧ gi μ iM 15 = op ∧ gi μ iM 17 = t ∧ gi μ iM 16 = s
def RW (B : xm) (f q : Int) (μ : xm) : Prop := RB B μ ∧ gi μ iM 14 = -1000 * f - q
theorem RB.wrs {B μ : xm} (h : RB B μ) {z v : Int} (hz : z = 12 ∨ 14 ≤ z ∧ z ≤ 17 ∨ z = 19) : RB B (wr μ iM z v) := by
  intro a y h0 h1 h2 h3
  by_cases c : a = iM
  · subst c
    rw [gi_wr_z ⟨by omega, h0, fun e => h1 ⟨rfl, by omega⟩⟩]; exact h _ y h0 h1 h2 h3
  · rw [gi_wr_o c]; exact h _ y h0 h1 h2 h3
theorem RB.wra {B μ : xm} (h : RB B μ) {b : Nat} (hb : b = iM_said ∨ b = iM_waits) {z v : Int} : RB B (wr μ b z v) := by
  intro a y h0 h1 h2 h3
  rw [gi_wr_o (by rintro rfl; rcases hb with h | h <;> contradiction)]; exact h _ y h0 h1 h2 h3
theorem RB.rf {μ : xm} : RB μ μ := fun _ _ _ _ _ _ => rfl
theorem sgR_b {B : xm} {T : Int → Int} {N : Int} (hB : ROK B T N) (p : Int) : -1 ≤ sgT T N p ∧ sgT T N p ≤ 255 ∧ (sgT T N p ≠ -1 → 0 ≤ p ∧ p < N) := by
  unfold sgT
  by_cases h : 0 ≤ p ∧ p < N
  · rw [if_pos h]
    obtain ⟨a, b, c⟩ := hB.2.2 p h.1 h.2
    exact ⟨by omega, c, fun _ => h⟩
  · rw [if_neg h]; exact ⟨by omega, by omega, fun c => absurd rfl c⟩
theorem r_here {B : xm} {T : Int → Int} {N p : Int} {μ : xm} (hB : ROK B T N) (h : RB B μ) (h12 : gi μ iM 12 = p) (hp : 0 ≤ p ∧ p ≤ N) : fX12_here μ = some (j32 (sgT T N p)) := by
  have hN := hB.2.1
  have e3 : gi μ iM 13 = N := (h _ 13 (by omega) (by omega) (by decide) (by decide)).trans hB.1
  unfold fX12_here sgT
  by_cases c : p < N
  · have c' : ¬ N ≤ p := by omega
    rw [if_pos (show 0 ≤ p ∧ p < N from ⟨hp.1, c⟩)]
    have e4 : gi μ iM_tape p = gi B iM_tape p := h _ p hp.1 (by rintro ⟨h1, h2⟩; exact absurd h1 (by decide)) (by decide) (by decide)
    simp (disch := omega) only [Bool.false_eq_true, lits, jj, jc, jm, Int.cast_ofNat_Int, j_bi0, j_bi1, not_true, not_false_eq_true, if_true, if_false, xe, xok_some, Sum.elim_inl, Sum.elim_inr, Int.reduceEq, Int.reduceLT, Int.reduceLE, Int.reduceAdd, Int.reduceSub, Int.reduceMul, h12, e3, c', e4, (hB.2.2 p hp.1 c).1]
  · have c' : N ≤ p := by omega
    rw [if_neg (show ¬ (0 ≤ p ∧ p < N) from fun e => c e.2)]
    simp (disch := omega) only [Bool.false_eq_true, lits, jj, jc, jm, Int.cast_ofNat_Int, j_bi0, j_bi1, not_true, not_false_eq_true, if_true, if_false, xe, xok_some, Sum.elim_inl, Sum.elim_inr, Int.reduceEq, Int.reduceLT, Int.reduceLE, Int.reduceAdd, Int.reduceSub, Int.reduceMul, h12, e3, c']
    try rfl
theorem r_wrong {B : xm} {p f : Int} {μ : xm} (h : RB B μ) (hf : 0 ≤ f ∧ f ≤ 10) (hp : 0 ≤ p ∧ p ≤ 200) : ∃ ν, fX12_wrongAt (j32 f) (j32 p) μ = some (j32 0, ν) ∧ RW B f p ν := by
  refine ⟨wr μ iM 14 (-1000 * f - p), ?_, h.wrs (by omega), gi_wr (by omega)⟩
  unfold fX12_wrongAt
  rw [show (-1000 : Int32) = j32 (-1000) from rfl, j_mul, j_sub]
  rfl
/-- the frame on top -/
def kdW (μ : xm) (t : Int) : Int := if t = 0 then -1 else gi μ iM_waits (t - 1) / 1048576
theorem r_top {t : Int} {μ : xm} (h17 : gi μ iM 17 = t) (ht : 0 ≤ t ∧ t ≤ 220) (hw : 0 < t → 0 ≤ gi μ iM_waits (t - 1)) : fX12_top μ = some (j32 (kdW μ t)) := by
  unfold fX12_top kdW
  by_cases c : t = 0
  · rw [if_pos c]
    simp (disch := omega) only [Bool.false_eq_true, lits, jj, jc, jm, Int.cast_ofNat_Int, j_bi0, j_bi1, not_true, not_false_eq_true, if_true, if_false, xe, xok_some, Sum.elim_inl, Sum.elim_inr, Int.reduceEq, Int.reduceLT, Int.reduceLE, Int.reduceAdd, Int.reduceSub, Int.reduceMul, h17, c]
    try rfl
  · rw [if_neg c]
    have hh := gi_hi μ iM_waits (t - 1)
    have hw' := hw (by omega)
    simp (disch := omega) only [Bool.false_eq_true, lits, jj, jc, jm, Int.cast_ofNat_Int, j_bi0, j_bi1, not_true, not_false_eq_true, if_true, if_false, xe, xok_some, Sum.elim_inl, Sum.elim_inr, Int.reduceEq, Int.reduceLT, Int.reduceLE, Int.reduceAdd, Int.reduceSub, Int.reduceMul, h17, c]
    rw [j_div (by omega) (by omega), Int.tdiv_eq_ediv_of_nonneg hw']
theorem kdW_b {t : Int} {μ : xm} (hw : 0 < t → 0 ≤ gi μ iM_waits (t - 1)) (ht : 0 ≤ t) : -1 ≤ kdW μ t ∧ kdW μ t ≤ 2048 := by
  unfold kdW
  have hh := gi_hi μ iM_waits (t - 1)
  by_cases c : t = 0
  · rw [if_pos c]; omega
  · have := hw (by omega)
    rw [if_neg c]; omega
/-- an operator goes from the waiting to the said -/
def popo (μ : xm) (K s t : Int) : xm := wr (wr (wr μ iM_said s (wd K 0)) iM 16 (s + 1)) iM 17 (t - 1)
theorem r_notes {B : xm} {p op t s K v : Int} {μ : xm} (h : RgS B p op t s μ) (hs : 0 ≤ s ∧ s < 220) (hK : 0 ≤ K ∧ K ≤ 20) (hv : 0 ≤ v ∧ v ≤ 1048575) : fX12_notes (j32 K) (j32 v) μ = some (wr (wr μ iM_said s (wd K v)) iM 16 (s + 1)) := by
  have hw : wd K v = 1048576 * K + v := rfl
  unfold fX12_notes
  rw [show (1048576 : Int32) = j32 1048576 from rfl, j_mul, j_add, j_rd, show gi μ iM ((16 : Nat) : Int) = s from h.2.2.2.2, j_sI (by omega), xbd_e, j_rd, show gi (wr μ iM_said s (1048576 * K + v)) iM ((16 : Nat) : Int) = s from ?_, show (1 : Int32) = j32 1 from rfl, j_add]
  · rfl
  · rw [gi_wr_o (by decide)]; exact h.2.2.2.2
theorem RgS.noted {B : xm} {p op t s K v : Int} {μ : xm} (h : RgS B p op t s μ) (hs : 0 ≤ s ∧ s < 220) (hK : 0 ≤ K ∧ K ≤ 20) (hv : 0 ≤ v ∧ v ≤ 1048575) : RgS B p op t (s + 1) (wr (wr μ iM_said s (wd K v)) iM 16 (s + 1)) ∧ gi (wr (wr μ iM_said s (wd K v)) iM 16 (s + 1)) iM_waits = gi μ iM_waits ∧ (∀ z, 0 ≤ z → z < s → gi (wr (wr μ iM_said s (wd K v)) iM 16 (s + 1)) iM_said z = gi μ iM_said z) ∧ gi (wr (wr μ iM_said s (wd K v)) iM 16 (s + 1)) iM_said s = wd K v := by
  have hw : wd K v = 1048576 * K + v := rfl
  refine ⟨⟨(h.1.wra (Or.inl rfl)).wrs (by omega), ?_, ?_, ?_, gi_wr (by omega)⟩, ?_, fun z z0 z1 => ?_, ?_⟩
  · rw [gi_wr_z (by omega), gi_wr_o (by decide)]; exact h.2.1
  · rw [gi_wr_z (by omega), gi_wr_o (by decide)]; exact h.2.2.1
  · rw [gi_wr_z (by omega), gi_wr_o (by decide)]; exact h.2.2.2.1
  · rw [gi_wr_f (by decide), gi_wr_f (by decide)]
  · rw [gi_wr_o (by decide), gi_wr_z ⟨hs.1, z0, by omega⟩]
  · rw [gi_wr_o (by decide), gi_wr (by omega)]
/-- what stays of the waiting and the said -/
def Kp (t s : Int) (μ ν : xm) : Prop := (∀ z, 0 ≤ z → z < t → gi ν iM_waits z = gi μ iM_waits z) ∧ ∀ z, 0 ≤ z → z < s → gi ν iM_said z = gi μ iM_said z
theorem Kp.rf {t s : Int} {μ : xm} : Kp t s μ μ := ⟨fun _ _ _ => rfl, fun _ _ _ => rfl⟩
theorem Kp.tr {t s t' s' : Int} {μ ν ρ : xm} (h1 : Kp t s μ ν) (h2 : Kp t' s' ν ρ) (ht : t ≤ t') (hs : s ≤ s') : Kp t s μ ρ := ⟨fun z a b => (h2.1 z a (by omega)).trans (h1.1 z a b), fun z a b => (h2.2 z a (by omega)).trans (h1.2 z a b)⟩
theorem RgS.pop {B : xm} {p op t s K : Int} {μ : xm} (h : RgS B p op t s μ) (hs : 0 ≤ s ∧ s < 220) (hK : 0 ≤ K ∧ K ≤ 20) (ht : 0 < t ∧ t ≤ 220) : RgS B p op (t - 1) (s + 1) (popo μ K s t) ∧ Kp t s μ (popo μ K s t) ∧ gi (popo μ K s t) iM_said s = wd K 0 := by
  obtain ⟨a1, a2, a3, a4⟩ := h.noted hs hK (v := 0) (by omega)
  unfold popo
  refine ⟨⟨a1.1.wrs (by omega), ?_, ?_, gi_wr (by omega), ?_⟩, ⟨fun z z0 z1 => ?_, fun z z0 z1 => ?_⟩, ?_⟩
  · rw [gi_wr_z (by omega)]; exact a1.2.1
  · rw [gi_wr_z (by omega)]; exact a1.2.2.1
  · rw [gi_wr_z (by omega)]; exact a1.2.2.2.2
  · rw [gi_wr_o (by decide), a2]
  · rw [gi_wr_o (by decide)]; exact a3 z z0 z1
  · rw [gi_wr_o (by decide)]; exact a4
