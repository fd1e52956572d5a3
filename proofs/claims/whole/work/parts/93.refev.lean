/-! how the plain model reckons its codes -/
abbrev bdR (e : Int) (v : Int32 × Int32 × xm) : Option ((Int32 × Int32 × xm) ⊕ ((xm) ⊕ (Int32 × xm))) := fX12_comesTo_b16 v.1 v.2.1 v.2.2 (j32 e) (j32 0)
abbrev wd (K v : Int) : Int := 1048576 * K + v
theorem dK {K v : Int} (hK : 0 ≤ K ∧ K ≤ 20) (hv : 0 ≤ v ∧ v < 1048576) : j32 (wd K v) / 1048576 = j32 K := by
  have hw : wd K v = 1048576 * K + v := rfl
  rw [show (1048576 : Int32) = j32 1048576 from rfl, j_div (by omega) (by omega), Int.tdiv_eq_ediv_of_nonneg (by omega)]
  congr 1; omega
theorem mV {K v : Int} (hK : 0 ≤ K ∧ K ≤ 20) (hv : 0 ≤ v ∧ v < 1048576) : j32 (wd K v) - j32 (wd K v) / 1048576 * 1048576 = j32 v := by
  have hw : wd K v = 1048576 * K + v := rfl
  rw [dK hK hv, show (1048576 : Int32) = j32 1048576 from rfl, j_mul, j_sub]
  congr 1; omega
abbrev rstR (x2 : Int32) (μ4 : xm) (x7 x9 x10 : Int32) : Option ((Int32 × Int32 × xm) ⊕ ((xm) ⊕ (Int32 × xm))) := if x7 = 0 then (fX12_comesTo_j63 x2 μ4 x7 x9 x10) else (if x7 = 1 then (fX12_comesTo_j63 x2 μ4 x7 x9 x10) else (if x7 = 10 then (xbd (xgI μ4 iM_stack 220 (x2 - 1)) fun v26 => xbd (xsI μ4 iM_stack 220 (x2 - 1) (1 - v26)) fun μ27 => some (.inl (x2, x10, μ27))) else (if x7 = 11 then (fX12_comesTo_j135 (j32 0) x2 μ4 x7 x9 x10) else (if x7 = 12 then (fX12_comesTo_j135 (j32 0) x2 μ4 x7 x9 x10) else (xlt (x2 - 1) fun x20 => if x7 = 5 then (fX12_comesTo_j192 μ4 x7 x10 x20) else (if x7 = 6 then (fX12_comesTo_j192 μ4 x7 x10 x20) else (fX12_comesTo_j203 μ4 x7 x10 x20)))))))
theorem bdR_go {e a K v : Int} {x2 : Int32} {μ : xm} (ha : 0 ≤ a ∧ a < e ∧ e ≤ 220) (hK : 0 ≤ K ∧ K ≤ 20) (hv : 0 ≤ v ∧ v < 1048576) (hc : gi μ iM_codes a = wd K v) : bdR e (x2, j32 a, μ) = rstR x2 μ (j32 K) (j32 v) (j32 (a + 1)) := by
  have hw : wd K v = 1048576 * K + v := rfl
  show fX12_comesTo_b16 x2 (j32 a) μ (j32 e) (j32 0) = _
  unfold fX12_comesTo_b16
  rw [if_neg (fun c => by have := (j_le (by omega) (by omega)).mp c; omega), j_gI (by omega), xbd_e, hc, dK hK hv, xlt_e, xbd_e, dK hK hv]
  rw [xlt_e, show (1048576 : Int32) = j32 1048576 from rfl, j_mul, j_sub, show wd K v - K * 1048576 = v by omega, show (1 : Int32) = j32 1 from rfl, j_add, xlt_e]
  rfl
theorem wdv {K v : Int} (hK : 0 ≤ K ∧ K ≤ 20) (hv : 0 ≤ v ∧ v < 1048576) : 0 ≤ wd K v ∧ wd K v < 2147483648 := by
  have hw : wd K v = 1048576 * K + v := rfl
  omega
theorem bR_num {e a v k : Int} {μ : xm} (ha : 0 ≤ a ∧ a < e ∧ e ≤ 220) (hk : 0 ≤ k ∧ k < 220) (hv : 0 ≤ v ∧ v ≤ 99999) (hc : gi μ iM_codes a = wd 0 v) : bdR e (j32 k, j32 a, μ) = some (.inl (j32 (k + 1), j32 (a + 1), wr μ iM_stack k v)) := by
  rw [bdR_go ha (by omega) (by omega) hc]
  unfold rstR fX12_comesTo_j63
  rw [if_pos (by decide), if_pos (by decide), j_sI (by omega), xbd_e, show (1 : Int32) = j32 1 from rfl, j_add]
  rfl
theorem bR_fact {e a k : Int} {i : Nat} {μ : xm} {F : Nat → Int} (ha : 0 ≤ a ∧ a < e ∧ e ≤ 220) (hk : 0 ≤ k ∧ k < 220) (hi : i < 12) (hF : HFr μ F) (hc : gi μ iM_codes a = wd 1 i) : bdR e (j32 k, j32 a, μ) = some (.inl (j32 (k + 1), j32 (a + 1), wr μ iM_stack k (F i))) := by
  rw [bdR_go ha (by omega) (by omega) hc]
  unfold rstR fX12_comesTo_j63
  rw [if_neg (by decide), if_pos (by decide), if_neg (by decide), j_gI (by omega), xbd_e, hF i hi, j_sI (by omega), xbd_e, show (1 : Int32) = j32 1 from rfl, j_add]
  rfl
theorem bR_not {e a k : Int} {μ : xm} (ha : 0 ≤ a ∧ a < e ∧ e ≤ 220) (hk : 0 ≤ k ∧ k < 220) (hc : gi μ iM_codes a = wd 10 0) : bdR e (j32 (k + 1), j32 a, μ) = some (.inl (j32 (k + 1), j32 (a + 1), wr μ iM_stack k (1 - gi μ iM_stack k))) := by
  rw [bdR_go ha (by omega) (by omega) hc]
  unfold rstR
  rw [if_neg (by decide), if_neg (by decide), if_pos (by decide), show (1 : Int32) = j32 1 from rfl, j_sub, show k + 1 - 1 = k by omega, j_gI (by omega), xbd_e, j_sub, j_sI (by omega), xbd_e]
theorem bR_jmp {e a k K v x : Int} {μ : xm} (ha : 0 ≤ a ∧ a < e ∧ e ≤ 220) (hk : 0 ≤ k ∧ k < 220) (hv : 0 ≤ v ∧ v ≤ 220) (hK : K = 11 ∧ x = 0 ∨ K = 12 ∧ x = 1) (hc : gi μ iM_codes a = wd K v) : bdR e (j32 (k + 1), j32 a, μ) = if gi μ iM_stack k = x then some (.inl (j32 (k + 1), j32 v, μ)) else some (.inl (j32 k, j32 (a + 1), μ)) := by
  have lo := gi_lo μ iM_stack k
  have hi := gi_hi μ iM_stack k
  rw [bdR_go ha (by omega) (by omega) hc]
  unfold rstR fX12_comesTo_j135 fX12_comesTo_j155
  rcases hK with ⟨rfl, rfl⟩ | ⟨rfl, rfl⟩
  · rw [if_neg (by decide), if_neg (by decide), if_neg (by decide), if_pos (by decide), show (1 : Int32) = j32 1 from rfl, j_sub, show k + 1 - 1 = k by omega, j_gI (by omega), xbd_e, if_neg (by decide), j_add, show (0 : Int) + v = v by omega]
    by_cases c : gi μ iM_stack k = 0
    · rw [if_pos (by rw [c]; rfl), if_pos c]; rfl
    · rw [if_neg (show ¬ j32 (gi μ iM_stack k) = 0 from fun d => c ((j_eq (b := 0) (by omega) (by omega)).mp d)), if_neg c]; rfl
  · rw [if_neg (by decide), if_neg (by decide), if_neg (by decide), if_neg (by decide), if_pos (by decide), show (1 : Int32) = j32 1 from rfl, j_sub, show k + 1 - 1 = k by omega, j_gI (by omega), xbd_e, if_pos (by decide), j_add, show (0 : Int) + v = v by omega]
    by_cases c : gi μ iM_stack k = 1
    · rw [if_pos (by rw [c]), if_pos c]; rfl
    · rw [if_neg (fun d => c ((j_eq (b := 1) (by omega) (by omega)).mp d)), if_neg c]; rfl
theorem bR_bin {e a k K : Int} {μ : xm} (ha : 0 ≤ a ∧ a < e ∧ e ≤ 220) (hk : 0 ≤ k ∧ k + 1 < 220) (hK : 2 ≤ K ∧ K ≤ 9) (hc : gi μ iM_codes a = wd K 0) : bdR e (j32 (k + 1 + 1), j32 a, μ) = if (K = 5 ∨ K = 6) ∧ gi μ iM_stack (k + 1) = 0 then some (.inr (.inr (j32 0, μ))) else xbd (fX12_reckon (j32 K) (j32 (gi μ iM_stack k)) (j32 (gi μ iM_stack (k + 1)))) fun q23 => some (.inl (j32 (k + 1), j32 (a + 1), wr μ iM_stack k q23.toInt)) := by
  have lo := gi_lo μ iM_stack (k + 1)
  have hi := gi_hi μ iM_stack (k + 1)
  rw [bdR_go ha (by omega) (by omega) hc]
  unfold rstR
  have n : ∀ j : Int, (j = 0 ∨ j = 1 ∨ j = 10 ∨ j = 11 ∨ j = 12) → ¬ j32 K = j32 j := fun j hj c => by have := (j_eq (by omega) (by omega)).mp c; omega
  rw [if_neg (show ¬ j32 K = 0 from n 0 (by omega)), if_neg (show ¬ j32 K = 1 from n 1 (by omega)), if_neg (show ¬ j32 K = 10 from n 10 (by omega)), if_neg (show ¬ j32 K = 11 from n 11 (by omega)), if_neg (show ¬ j32 K = 12 from n 12 (by omega)), show (1 : Int32) = j32 1 from rfl, j_sub, show k + 1 + 1 - 1 = k + 1 by omega, xlt_e]
  have j203 : fX12_comesTo_j203 μ (j32 K) (j32 (a + 1)) (j32 (k + 1)) = xbd (fX12_reckon (j32 K) (j32 (gi μ iM_stack k)) (j32 (gi μ iM_stack (k + 1)))) fun q23 => some (.inl (j32 (k + 1), j32 (a + 1), wr μ iM_stack k q23.toInt)) := by
    unfold fX12_comesTo_j203
    rw [show (1 : Int32) = j32 1 from rfl, j_sub, show k + 1 - 1 = k by omega, j_gI (by omega), xbd_e, j_gI (by omega), xbd_e]
    congr 1
    funext q
    rw [← j32_toInt q, j_sI (by omega), xbd_e, j32_toInt]
  have j192 : fX12_comesTo_j192 μ (j32 K) (j32 (a + 1)) (j32 (k + 1)) = if gi μ iM_stack (k + 1) = 0 then some (.inr (.inr (j32 0, μ))) else fX12_comesTo_j203 μ (j32 K) (j32 (a + 1)) (j32 (k + 1)) := by
    unfold fX12_comesTo_j192
    rw [j_gI (by omega), xbd_e]
    by_cases c : gi μ iM_stack (k + 1) = 0
    · rw [if_pos (by rw [c]; rfl), if_pos c]; rfl
    · rw [if_neg (show ¬ j32 (gi μ iM_stack (k + 1)) = 0 from fun d => c ((j_eq (b := 0) (by omega) (by omega)).mp d)), if_neg c]
  by_cases c5 : K = 5
  · rw [if_pos (by rw [c5]; rfl), j192, j203]
    by_cases c : gi μ iM_stack (k + 1) = 0
    · rw [if_pos c, if_pos ⟨Or.inl c5, c⟩]
    · rw [if_neg c, if_neg (fun d => c d.2)]
  · rw [if_neg (show ¬ j32 K = 5 from fun c => c5 ((j_eq (b := 5) (by omega) (by omega)).mp c))]
    by_cases c6 : K = 6
    · rw [if_pos (by rw [c6]; rfl), j192, j203]
      by_cases c : gi μ iM_stack (k + 1) = 0
      · rw [if_pos c, if_pos ⟨Or.inr c6, c⟩]
      · rw [if_neg c, if_neg (fun d => c d.2)]
    · rw [if_neg (show ¬ j32 K = 6 from fun c => c6 ((j_eq (b := 6) (by omega) (by omega)).mp c)), j203, if_neg (fun d => by omega)]
