/-! jumps that go to wait, and pieces that end -/
theorem lands0 {B : xm} {p op t1 sl s1 tb : Int} {μ : xm} {φ : Pc} (h : RgS B p op t1 s1 μ) (hM : AndR (gi μ iM_said) (gi μ iM_waits) sl s1 tb t1 φ) (hb : 0 ≤ tb ∧ t1 ≤ 220) (hs : 0 ≤ s1 ∧ s1 < 220) (hbar : 0 < tb → gi μ iM_waits (tb - 1) = wd 13 0 ∨ ∃ v, 0 ≤ v ∧ v < 220 ∧ gi μ iM_waits (tb - 1) = wd 12 v) : ∃ ν, fX12_lands (j32 0) μ = some ν ∧ RgS B p op tb s1 ν ∧ gi ν iM_waits = gi μ iM_waits ∧ (∀ z, 0 ≤ z → z < sl → gi ν iM_said z = gi μ iM_said z) ∧ SegR (gi ν iM_said) sl s1 (bo φ) := by
  have tt := hM.t
  obtain ⟨m, ν, hm, st, r, k, e1, sg⟩ := hM.shut 0 h hb hs
  refine ⟨ν, la_run st (by omega) (la_end r.2.2.2.1 (by omega) (fun c => ?_) ⟨?_, Or.inl rfl⟩), r, k, e1, sg⟩
  · rw [k]
    rcases hbar c with e | ⟨v, v0, v1, e⟩
    · rw [e]; decide
    · rw [e]; show 0 ≤ 1048576 * 12 + v; omega
  · unfold kdW
    by_cases c : tb = 0
    · rw [if_pos c]; decide
    · rw [if_neg c, k]
      rcases hbar (by omega) with e | ⟨v, v0, v1, e⟩
      · rw [e]; decide
      · rw [e]; show ¬ (1048576 * 12 + v) / 1048576 = 11; omega
def jpd (μ : xm) (K s t p : Int) : xm := wr (wr (wr (wr (wr μ iM_waits t (wd K s)) iM 17 (t + 1)) iM_said s (wd K 0)) iM 16 (s + 1)) iM 12 (p + 1)
theorem r_jumps {B : xm} {p op t s K : Int} {μ : xm} (h : RgS B p op t s μ) (hs : 0 ≤ s ∧ s < 220) (ht : 0 ≤ t ∧ t < 220) (hp : 0 ≤ p ∧ p ≤ 200) (hK : 0 ≤ K ∧ K ≤ 20) : fX12_jumps (j32 K) μ = some (jpd μ K s t p) ∧ RgS B (p + 1) op (t + 1) (s + 1) (jpd μ K s t p) ∧ (∀ z, 0 ≤ z → z ≠ t → gi (jpd μ K s t p) iM_waits z = gi μ iM_waits z) ∧ gi (jpd μ K s t p) iM_waits t = wd K s ∧ (∀ z, 0 ≤ z → z ≠ s → gi (jpd μ K s t p) iM_said z = gi μ iM_said z) ∧ gi (jpd μ K s t p) iM_said s = wd K 0 := by
  have ew : wd K s = 1048576 * K + s := rfl
  have ew0 : wd K 0 = 1048576 * K + 0 := rfl
  obtain ⟨κ, hκ⟩ : ∃ κ, κ = wr (wr μ iM_waits t (wd K s)) iM 17 (t + 1) := ⟨_, rfl⟩
  have hk : RgS B p op (t + 1) s κ := by
    rw [hκ]
    refine ⟨(h.1.wra (Or.inr rfl)).wrs (by omega), ?_, ?_, gi_wr (by omega), ?_⟩
    · rw [gi_wr_z (by omega), gi_wr_o (by decide)]; exact h.2.1
    · rw [gi_wr_z (by omega), gi_wr_o (by decide)]; exact h.2.2.1
    · rw [gi_wr_z (by omega), gi_wr_o (by decide)]; exact h.2.2.2.2
  obtain ⟨a1, a2, a3, a4⟩ := hk.noted (K := K) (v := 0) hs hK (by omega)
  have ej : jpd μ K s t p = wr (wr (wr κ iM_said s (wd K 0)) iM 16 (s + 1)) iM 12 (p + 1) := by rw [hκ]; rfl
  refine ⟨?_, ?_, fun z z0 z1 => ?_, ?_, fun z z0 z1 => ?_, ?_⟩
  · have b1 : gi (wr μ iM_waits t (1048576 * K + s)) iM 17 = t := by rw [gi_wr_o (by decide)]; exact h.2.2.2.1
    unfold fX12_jumps
    rw [show (1048576 : Int32) = j32 1048576 from rfl, j_mul, j_rd μ iM 16, show gi μ iM ((16 : Nat) : Int) = s from h.2.2.2.2, j_add, j_rd, show gi μ iM ((17 : Nat) : Int) = t from h.2.2.2.1, j_sI (by omega), xbd_e, j_rd, show gi (wr μ iM_waits t (1048576 * K + s)) iM ((17 : Nat) : Int) = t from b1, show (1 : Int32) = j32 1 from rfl, j_add, show xpI (wr μ iM_waits t (1048576 * K + s)) iM 17 (j32 (t + 1)) = κ from hκ.symm, xlt_e, show (0 : Int32) = j32 0 from rfl, r_notes hk hs hK (by omega), xbd_e, j_rd, show gi (wr (wr κ iM_said s (wd K 0)) iM 16 (s + 1)) iM ((12 : Nat) : Int) = p from a1.2.1, j_add, ej]
    rfl
  · rw [ej]
    refine ⟨a1.1.wrs (by omega), gi_wr (by omega), ?_, ?_, ?_⟩
    · rw [gi_wr_z (by omega)]; exact a1.2.2.1
    · rw [gi_wr_z (by omega)]; exact a1.2.2.2.1
    · rw [gi_wr_z (by omega)]; exact a1.2.2.2.2
  · rw [ej, gi_wr_o (by decide), a2, hκ, gi_wr_o (by decide), gi_wr_z ⟨ht.1, z0, z1⟩]
  · rw [ej, gi_wr_o (by decide), a2, hκ, gi_wr_o (by decide), gi_wr (by omega)]
  · rw [ej, gi_wr_o (by decide), gi_wr_o (by decide), gi_wr_z ⟨hs.1, z0, z1⟩, hκ, gi_wr_o (by decide), gi_wr_o (by decide)]
  · rw [ej, gi_wr_o (by decide)]; exact a4
abbrev bdE (μ : xm) : Option (xm ⊕ xm) := fX12_endsPiece_b0 μ
def nod (μ : xm) (s t op : Int) : xm := wr (popo μ 10 s t) iM 15 (op - 1)
theorem en_pop {B : xm} {p op t s : Int} {μ : xm} (h : RgS B p op t s μ) (hs : 0 ≤ s ∧ s < 220) (ht : 0 < t ∧ t ≤ 220) (hop : 0 < op ∧ op ≤ 10) (hw : gi μ iM_waits (t - 1) = wd 10 0) : bdE μ = some (.inl (nod μ s t op)) ∧ RgS B p (op - 1) (t - 1) (s + 1) (nod μ s t op) ∧ Kp t s μ (nod μ s t op) ∧ gi (nod μ s t op) iM_said s = wd 10 0 := by
  have ew : wd 10 0 = 1048576 * 10 + 0 := rfl
  have hk : kdW μ t = 10 := by unfold kdW; rw [if_neg (by omega), hw]; decide
  have et : fX12_top μ = some (j32 10) := by rw [r_top h.2.2.2.1 (by omega) (fun _ => by omega), hk]
  obtain ⟨a1, a2, a3⟩ := h.pop hs (K := 10) (by omega) (by omega)
  obtain ⟨b1, b2, b3, b4⟩ := h.noted hs (K := 10) (v := 0) (by omega) (by omega)
  refine ⟨?_, ?_, ⟨fun z z0 z1 => ?_, fun z z0 z1 => ?_⟩, ?_⟩
  · show fX12_endsPiece_b0 μ = _
    unfold fX12_endsPiece_b0
    rw [et, xbd_e, if_pos (by decide), show (10 : Int32) = j32 10 from rfl, show (0 : Int32) = j32 0 from rfl, r_notes h hs (by omega) (by omega), xbd_e, j_rd, show gi (wr (wr μ iM_said s (wd 10 0)) iM 16 (s + 1)) iM ((17 : Nat) : Int) = t from b1.2.2.2.1, show (1 : Int32) = j32 1 from rfl, j_sub, show xpI (wr (wr μ iM_said s (wd 10 0)) iM 16 (s + 1)) iM 17 (j32 (t - 1)) = popo μ 10 s t from rfl, xlt_e, j_rd, show gi (popo μ 10 s t) iM ((15 : Nat) : Int) = op from a1.2.2.1, j_sub]
    rfl
  · exact a1.w15 (by omega)
  · unfold nod; rw [gi_wr_o (by decide)]; exact a2.1 z z0 z1
  · unfold nod; rw [gi_wr_o (by decide)]; exact a2.2 z z0 z1
  · unfold nod; rw [gi_wr_o (by decide)]; exact a3
theorem en_end {t : Int} {μ : xm} (h17 : gi μ iM 17 = t) (ht : 0 ≤ t ∧ t ≤ 220) (hw : 0 < t → 0 ≤ gi μ iM_waits (t - 1)) (hK : kdW μ t ≠ 10) : bdE μ = some (.inr μ) := by
  have et := r_top h17 ht hw
  have hb := kdW_b hw ht.1
  show fX12_endsPiece_b0 μ = _
  unfold fX12_endsPiece_b0
  rw [et, xbd_e, if_neg (show ¬ j32 (kdW μ t) = 10 from fun d => hK ((j_eq (b := 10) (by omega) (by omega)).mp d))]
