/-! now, worth, seed, bridge, crosses -/
/-- what a step leaves -/
def xStp (μ : xm) (R : xr) (n : Nat) (μ' : xm) : Prop := LK μ μ' ∧ ∃ A, RH A μ' ∧ CH A μ' R n ∧ Inv A
theorem xStp.same {A : xAs} {μ : xm} {R : xr} {n : Nat} (hA : RH A μ) (hC : CH A μ R n) (hI : Inv A) : xStp μ R n μ := ⟨LK.rf, A, hA, hC, hI⟩
theorem eX5_slot {p h : Int} (hp : 0 ≤ p ∧ p < 8) (hh : 0 ≤ h ∧ h < 24) : fX5_slot (j32 p) (j32 h) = some (j32 (24 * p + h)) := by
  unfold fX5_slot
  simp (disch := omega) only [Bool.false_eq_true, lits, jj, jc, jm, Int.cast_ofNat_Int, j_bi0, j_bi1, not_true, not_false_eq_true, if_true, if_false, xe, xok_some, Sum.elim_inl, Sum.elim_inr, show ¬ p < 0 by omega, show ¬ 8 ≤ p by omega, show ¬ h < 0 by omega, show ¬ 24 ≤ h by omega]
  rw [Int.mul_comm]
theorem s_worth {A : xAs} {μ : xm} {R : xr} {n : Nat} (hA : RH A μ) (hC : CH A μ R n) (hI : Inv A) (a1 a2 a3 : Int32) : ∃ q, fX11_worth a1 a2 a3 μ = some q ∧ ∃ q2, fX12_worth a1 a2 a3 q.2 = some q2 ∧ q2.1 = q.1 ∧ xStp μ R n q2.2 := by
  obtain ⟨p, rfl, hp⟩ := j32_ex a1
  obtain ⟨h, rfl, hh⟩ := j32_ex a2
  obtain ⟨v, rfl, hv⟩ := j32_ex a3
  unfold fX11_worth fX12_worth
  simp only [lits]
  rw [eX11_isPerson hp, eX12_isPerson hp, eX11_within hh (by omega) (by omega), eX12_in hh (by omega) (by omega), eX11_within hv (by omega) (by omega), eX12_in hv (by omega) (by omega)]
  by_cases c1 : 0 ≤ p ∧ p < 8
  · by_cases c2 : 0 ≤ h ∧ h ≤ 23
    · by_cases c3 : 0 ≤ v ∧ v ≤ 99
      · refine ⟨(j32 1, wr μ iC_people_worths (24 * p + h) v), ?_, (j32 1, wr (wr μ iC_people_worths (24 * p + h) v) iM_worthOf (24 * p + h) v), ?_, rfl, ?_⟩
        · have e := eX5_slot c1 (show 0 ≤ h ∧ h < 24 by omega)
          simp (disch := omega) only [Bool.false_eq_true, lits, jj, jc, jm, Int.cast_ofNat_Int, j_bi0, j_bi1, not_true, not_false_eq_true, if_true, if_false, xe, xok_some, Sum.elim_inl, Sum.elim_inr, eq_true c1, eq_true c2, eq_true c3, fX5_setWorth, e, show ¬ 24 * p + h < 0 by omega, show ¬ 192 ≤ 24 * p + h by omega]
        · simp (disch := omega) only [Bool.false_eq_true, lits, jj, jc, jm, Int.cast_ofNat_Int, j_bi0, j_bi1, not_true, not_false_eq_true, if_true, if_false, xe, xok_some, Sum.elim_inl, Sum.elim_inr, eq_true c1, eq_true c2, eq_true c3]
        · refine ⟨(LK.w_ (by decide)).tr (LK.w_ (by decide)), up A iM_worthOf (24 * p + h) v, ?_, ?_, ?_⟩
          · exact RH.w_worthOf (RH.keep hA (fun o h1 h2 => gi_wr_f (by show o ≠ 20; omega))) (by omega)
          · refine hC.u_worth (fun o h1 h2 => by rw [gi_wr_f (by show o ≠ 62; omega), gi_wr_f h1]) (fun o h1 => up_o h1) ?_
            intro z h1 h2
            rw [gi_wr_o (by decide)]
            by_cases e : z = 24 * p + h
            · subst e; rw [up_z, gi_wr (by omega)]
            · rw [up_n ⟨by omega, h1, e⟩, gi_wr_z ⟨by omega, h1, e⟩]; exact hC.worths z h1 h2
          · refine hI.u_worth (fun o h1 => up_o h1) ?_
            intro z h1 h2
            by_cases e : z = 24 * p + h
            · subst e; rw [up_z]; omega
            · rw [up_n ⟨by omega, h1, e⟩]; exact hI.worthOf z h1 h2
      · exact ⟨(j32 0, μ), by simp (disch := omega) only [Bool.false_eq_true, lits, jj, jc, jm, Int.cast_ofNat_Int, j_bi0, j_bi1, not_true, not_false_eq_true, if_true, if_false, xe, xok_some, Sum.elim_inl, Sum.elim_inr, eq_true c1, eq_true c2, eq_false c3], (j32 0, μ), by simp (disch := omega) only [Bool.false_eq_true, lits, jj, jc, jm, Int.cast_ofNat_Int, j_bi0, j_bi1, not_true, not_false_eq_true, if_true, if_false, xe, xok_some, Sum.elim_inl, Sum.elim_inr, eq_true c1, eq_true c2, eq_false c3], rfl, xStp.same hA hC hI⟩
    · exact ⟨(j32 0, μ), by simp (disch := omega) only [Bool.false_eq_true, lits, jj, jc, jm, Int.cast_ofNat_Int, j_bi0, j_bi1, not_true, not_false_eq_true, if_true, if_false, xe, xok_some, Sum.elim_inl, Sum.elim_inr, eq_true c1, eq_false c2], (j32 0, μ), by simp (disch := omega) only [Bool.false_eq_true, lits, jj, jc, jm, Int.cast_ofNat_Int, j_bi0, j_bi1, not_true, not_false_eq_true, if_true, if_false, xe, xok_some, Sum.elim_inl, Sum.elim_inr, eq_true c1, eq_false c2], rfl, xStp.same hA hC hI⟩
  · exact ⟨(j32 0, μ), by simp (disch := omega) only [Bool.false_eq_true, lits, jj, jc, jm, Int.cast_ofNat_Int, j_bi0, j_bi1, not_true, not_false_eq_true, if_true, if_false, xe, xok_some, Sum.elim_inl, Sum.elim_inr, eq_false c1], (j32 0, μ), by simp (disch := omega) only [Bool.false_eq_true, lits, jj, jc, jm, Int.cast_ofNat_Int, j_bi0, j_bi1, not_true, not_false_eq_true, if_true, if_false, xe, xok_some, Sum.elim_inl, Sum.elim_inr, eq_false c1], rfl, xStp.same hA hC hI⟩

theorem s_seed {A : xAs} {μ : xm} {R : xr} {n : Nat} (hA : RH A μ) (hC : CH A μ R n) (hI : Inv A) (a1 : Int32) : ∃ q, fX11_seed a1 μ = some q ∧ ∃ q2, fX12_seed a1 q.2 = some q2 ∧ q2.1 = q.1 ∧ xStp μ R n q2.2 := by
  obtain ⟨p, rfl, hp⟩ := j32_ex a1
  unfold fX11_seed fX12_seed
  simp only [lits]
  rw [eX11_within hp (by omega) (by omega), eX12_in hp (by omega) (by omega)]
  by_cases c1 : 0 ≤ p ∧ p ≤ 65535
  · refine ⟨(j32 1, wr μ iC_ways 10 p), ?_, (j32 1, wr (wr μ iC_ways 10 p) iM 2 p), ?_, rfl, ?_⟩
    · simp (disch := omega) only [Bool.false_eq_true, lits, jj, jc, jm, Int.cast_ofNat_Int, j_bi0, j_bi1, not_true, not_false_eq_true, if_true, if_false, xe, xok_some, Sum.elim_inl, Sum.elim_inr, eq_true c1, fX10_setDrawn]
    · simp (disch := omega) only [Bool.false_eq_true, lits, jj, jc, jm, Int.cast_ofNat_Int, j_bi0, j_bi1, not_true, not_false_eq_true, if_true, if_false, xe, xok_some, Sum.elim_inl, Sum.elim_inr, eq_true c1]
    · refine ⟨(LK.w_ (by decide)).tr (LK.w_f (by omega)), up A iM 2 p, ?_, ?_, ?_⟩
      · exact RH.f_2 (RH.keep hA (fun o h1 h2 => gi_wr_f (by show o ≠ 42; omega))) (by omega)
      · refine hC.u_seed (fun o h1 h2 => by rw [gi_wr_f (by show o ≠ 61; omega), gi_wr_f h1]) (fun z hz hz2 => by rw [gi_wr_o (by decide), gi_wr_z (by omega)]) (fun o h1 => up_o h1) (fun k hk hk2 => up_n (by omega)) ?_
        rw [up_z, gi_wr_o (by decide), gi_wr (by omega)]
      · refine hI.u_seed (fun o h1 => up_o h1) (fun k hk hk2 => up_n (by omega)) ?_
        rw [up_z]; omega
  · exact ⟨(j32 0, μ), by simp (disch := omega) only [Bool.false_eq_true, lits, jj, jc, jm, Int.cast_ofNat_Int, j_bi0, j_bi1, not_true, not_false_eq_true, if_true, if_false, xe, xok_some, Sum.elim_inl, Sum.elim_inr, eq_false c1], (j32 0, μ), by simp (disch := omega) only [Bool.false_eq_true, lits, jj, jc, jm, Int.cast_ofNat_Int, j_bi0, j_bi1, not_true, not_false_eq_true, if_true, if_false, xe, xok_some, Sum.elim_inl, Sum.elim_inr, eq_false c1], rfl, xStp.same hA hC hI⟩

theorem s_bridge {A : xAs} {μ : xm} {R : xr} {n : Nat} (hA : RH A μ) (hC : CH A μ R n) (hI : Inv A) (a1 a2 a3 : Int32) : ∃ q, fX11_bridge a1 a2 a3 μ = some q ∧ ∃ q2, fX12_bridge a1 a2 a3 q.2 = some q2 ∧ q2.1 = q.1 ∧ xStp μ R n q2.2 := by
  obtain ⟨s, rfl, hs⟩ := j32_ex a1
  obtain ⟨a, rfl, ha⟩ := j32_ex a2
  obtain ⟨m, rfl, hm⟩ := j32_ex a3
  unfold fX11_bridge fX12_bridge
  simp only [lits]
  rw [eX11_within ha (by omega) (by omega), eX12_in ha (by omega) (by omega), eX11_within hs (by omega) ha, eX12_in hs (by omega) ha, eX11_within hm (by omega) (by omega), eX12_in hm (by omega) (by omega)]
  by_cases c1 : 1 ≤ a ∧ a ≤ 100
  · by_cases c2 : 0 ≤ s ∧ s ≤ a
    · by_cases c3 : 0 ≤ m ∧ m ≤ 600
      · refine ⟨(j32 1, wr (wr (wr μ iC_ways 7 s) iC_ways 8 a) iC_ways 9 m), ?_, (j32 1, wr (wr (wr (wr (wr (wr μ iC_ways 7 s) iC_ways 8 a) iC_ways 9 m) iM 53 s) iM 54 a) iM 55 m), ?_, rfl, ?_⟩
        · simp (disch := omega) only [Bool.false_eq_true, lits, jj, jc, jm, Int.cast_ofNat_Int, j_bi0, j_bi1, not_true, not_false_eq_true, if_true, if_false, xe, xok_some, Sum.elim_inl, Sum.elim_inr, eq_true c1, eq_true c2, eq_true c3, fX10_setBridge]
        · simp (disch := omega) only [Bool.false_eq_true, lits, jj, jc, jm, Int.cast_ofNat_Int, j_bi0, j_bi1, not_true, not_false_eq_true, if_true, if_false, xe, xok_some, Sum.elim_inl, Sum.elim_inr, eq_true c1, eq_true c2, eq_true c3]
        · refine ⟨((((((LK.w_ (by decide)).tr (LK.w_ (by decide))).tr (LK.w_ (by decide))).tr (LK.w_f (by omega))).tr (LK.w_f (by omega))).tr (LK.w_f (by omega))), up (up (up A iM 53 s) iM 54 a) iM 55 m, ?_, ?_, ?_⟩
          · exact RH.f_55 (RH.f_54 (RH.f_53 (RH.keep hA (fun o h1 h2 => by rw [gi_wr_f (by show o ≠ 42; omega), gi_wr_f (by show o ≠ 42; omega), gi_wr_f (by show o ≠ 42; omega)])) (by omega)) (by omega)) (by omega)
          · refine hC.u_bridge (fun o h1 h2 => ?_) (fun z hz e1 e2 e3 => ?_) (fun o h1 => by rw [up_o h1, up_o h1, up_o h1]) (fun k hk e1 e2 e3 => by rw [up_n (by omega), up_n (by omega), up_n (by omega)]) ?_ ?_ ?_
            · have h3 : o ≠ iM := by show o ≠ 61; omega
              rw [gi_wr_f h3, gi_wr_f h3, gi_wr_f h3, gi_wr_f h1, gi_wr_f h1, gi_wr_f h1]
            · rw [gi_wr_o (by decide), gi_wr_o (by decide), gi_wr_o (by decide), gi_wr_z (by omega), gi_wr_z (by omega), gi_wr_z (by omega)]
            · rw [gi_wr_o (by decide), gi_wr_o (by decide), gi_wr_o (by decide), gi_wr_z (by omega), gi_wr_z (by omega), gi_wr (by omega), up_n (by omega), up_n (by omega), up_z]
            · rw [gi_wr_o (by decide), gi_wr_o (by decide), gi_wr_o (by decide), gi_wr_z (by omega), gi_wr (by omega), up_n (by omega), up_z]
            · rw [gi_wr_o (by decide), gi_wr_o (by decide), gi_wr_o (by decide), gi_wr (by omega), up_z]
          · refine hI.u_bridge (fun o h1 => by rw [up_o h1, up_o h1, up_o h1]) (fun k hk e1 e2 e3 => by rw [up_n (by omega), up_n (by omega), up_n (by omega)]) ?_
            simp (disch := first | omega | decide) only [up_z, up_n, up_o]; omega
      · exact ⟨(j32 0, μ), by simp (disch := omega) only [Bool.false_eq_true, lits, jj, jc, jm, Int.cast_ofNat_Int, j_bi0, j_bi1, not_true, not_false_eq_true, if_true, if_false, xe, xok_some, Sum.elim_inl, Sum.elim_inr, eq_true c1, eq_true c2, eq_false c3], (j32 0, μ), by simp (disch := omega) only [Bool.false_eq_true, lits, jj, jc, jm, Int.cast_ofNat_Int, j_bi0, j_bi1, not_true, not_false_eq_true, if_true, if_false, xe, xok_some, Sum.elim_inl, Sum.elim_inr, eq_true c1, eq_true c2, eq_false c3], rfl, xStp.same hA hC hI⟩
    · exact ⟨(j32 0, μ), by simp (disch := omega) only [Bool.false_eq_true, lits, jj, jc, jm, Int.cast_ofNat_Int, j_bi0, j_bi1, not_true, not_false_eq_true, if_true, if_false, xe, xok_some, Sum.elim_inl, Sum.elim_inr, eq_true c1, eq_false c2], (j32 0, μ), by simp (disch := omega) only [Bool.false_eq_true, lits, jj, jc, jm, Int.cast_ofNat_Int, j_bi0, j_bi1, not_true, not_false_eq_true, if_true, if_false, xe, xok_some, Sum.elim_inl, Sum.elim_inr, eq_true c1, eq_false c2], rfl, xStp.same hA hC hI⟩
  · exact ⟨(j32 0, μ), by simp (disch := omega) only [Bool.false_eq_true, lits, jj, jc, jm, Int.cast_ofNat_Int, j_bi0, j_bi1, not_true, not_false_eq_true, if_true, if_false, xe, xok_some, Sum.elim_inl, Sum.elim_inr, eq_false c1], (j32 0, μ), by simp (disch := omega) only [Bool.false_eq_true, lits, jj, jc, jm, Int.cast_ofNat_Int, j_bi0, j_bi1, not_true, not_false_eq_true, if_true, if_false, xe, xok_some, Sum.elim_inl, Sum.elim_inr, eq_false c1], rfl, xStp.same hA hC hI⟩
/-- a bit set, a bit gone -/
theorem or_tab : ∀ c, c < 256 → ∀ k, k < 8 → (Int32.ofNat c ||| ((1 : Int32) <<< (Int32.ofNat k &&& 31))) = Int32.ofNat (c ||| 2 ^ k) ∧ (c ||| 2 ^ k) < 256 ∧ ∀ j, j < 8 → (c ||| 2 ^ k) / 2 ^ j % 2 = if j = k then 1 else c / 2 ^ j % 2 := by decide +kernel
theorem an_tab : ∀ c, c < 256 → ∀ k, k < 8 → (Int32.ofNat c &&& (((1 : Int32) <<< (Int32.ofNat k &&& 31)) ^^^ (-1))) = Int32.ofNat (c - (c / 2 ^ k % 2) * 2 ^ k) ∧ ∀ j, j < 8 → (c - (c / 2 ^ k % 2) * 2 ^ k) / 2 ^ j % 2 = if j = k then 0 else c / 2 ^ j % 2 := by decide +kernel
theorem j_setbit {c k : Int} (h : 0 ≤ c ∧ c < 256 ∧ 0 ≤ k ∧ k < 8) : ∃ d : Int, j32 c ||| (j32 1 <<< (j32 k &&& j32 31)) = j32 d ∧ 0 ≤ d ∧ d < 256 ∧ ∀ j, 0 ≤ j → j < 8 → bitI d j = if j = k then 1 else bitI c j := by
  obtain ⟨c, rfl⟩ := Int.eq_ofNat_of_zero_le h.1
  obtain ⟨k, rfl⟩ := Int.eq_ofNat_of_zero_le h.2.2.1
  obtain ⟨h1, h2, h3⟩ := or_tab c (by omega) k (by omega)
  refine ⟨((c ||| 2 ^ k : Nat) : Int), ?_, by omega, by omega, fun j h4 h5 => ?_⟩
  · unfold j32
    rw [Int32.ofInt_eq_ofNat, Int32.ofInt_eq_ofNat, Int32.ofInt_eq_ofNat]
    exact h1
  · obtain ⟨j, rfl⟩ := Int.eq_ofNat_of_zero_le h4
    have h6 := h3 j (by omega)
    unfold bitI
    rw [show ((j : Int)).toNat = j from rfl]
    have h7 : (((c ||| 2 ^ k) / 2 ^ j % 2 : Nat) : Int) = ((if j = k then 1 else c / 2 ^ j % 2 : Nat) : Int) := congrArg _ h6
    simp only [Int.natCast_emod, Int.natCast_ediv, Int.natCast_pow, Int.cast_ofNat_Int] at h7
    rw [h7]
    by_cases e : j = k
    · simp [e]
    · rw [if_neg e, if_neg (by omega)]; simp
theorem j_clrbit {c k : Int} (h : 0 ≤ c ∧ c < 256 ∧ 0 ≤ k ∧ k < 8) : ∃ d : Int, j32 c &&& ((j32 1 <<< (j32 k &&& j32 31)) ^^^ j32 (-1)) = j32 d ∧ 0 ≤ d ∧ d < 256 ∧ ∀ j, 0 ≤ j → j < 8 → bitI d j = if j = k then 0 else bitI c j := by
  obtain ⟨c, rfl⟩ := Int.eq_ofNat_of_zero_le h.1
  obtain ⟨k, rfl⟩ := Int.eq_ofNat_of_zero_le h.2.2.1
  obtain ⟨h1, h3⟩ := an_tab c (by omega) k (by omega)
  refine ⟨((c - (c / 2 ^ k % 2) * 2 ^ k : Nat) : Int), ?_, by omega, by omega, fun j h4 h5 => ?_⟩
  · unfold j32
    rw [Int32.ofInt_eq_ofNat, Int32.ofInt_eq_ofNat, Int32.ofInt_eq_ofNat]
    exact h1
  · obtain ⟨j, rfl⟩ := Int.eq_ofNat_of_zero_le h4
    have h6 := h3 j (by omega)
    unfold bitI
    rw [show ((j : Int)).toNat = j from rfl]
    have h7 : (((c - (c / 2 ^ k % 2) * 2 ^ k) / 2 ^ j % 2 : Nat) : Int) = ((if j = k then 0 else c / 2 ^ j % 2 : Nat) : Int) := congrArg _ h6
    rw [Int.natCast_emod, Int.natCast_ediv, Int.natCast_pow, Int.cast_ofNat_Int] at h7
    rw [h7]
    by_cases e : j = k
    · simp [e]
    · rw [if_neg e, if_neg (by omega)]; simp

/-- a row written from 0 on -/
def fw (μ : xm) (o : Nat) (v : Int) : Nat → xm
  | 0 => μ
  | k + 1 => wr (fw μ o v k) o k v
theorem fw_o {μ : xm} {o a : Nat} {v : Int} (h : a ≠ o) : ∀ k, gi (fw μ o v k) a = gi μ a
  | 0 => rfl
  | k + 1 => (gi_wr_f h).trans (fw_o h k)
theorem fw_in {μ : xm} {o : Nat} {v : Int} (hv : -2147483648 ≤ v ∧ v < 2147483648) : ∀ (k : Nat) (z : Int), 0 ≤ z → z < k → gi (fw μ o v k) o z = v
  | 0, z, h1, h2 => by omega
  | k + 1, z, h1, h2 => by
    show gi (wr (fw μ o v k) o k v) o z = v
    by_cases e : z = k
    · subst e; exact gi_wr hv
    · rw [gi_wr_z (by omega)]; exact fw_in hv k z h1 (by omega)
theorem fw_out {μ : xm} {o : Nat} {v : Int} : ∀ (k : Nat) (z : Int), (k : Int) ≤ z → gi (fw μ o v k) o z = gi μ o z
  | 0, z, h1 => rfl
  | k + 1, z, h1 => by
    show gi (wr (fw μ o v k) o k v) o z = _
    rw [gi_wr_z (by omega)]; exact fw_out k z (by omega)
theorem eJ7_fill {μ : xm} {o len : Nat} {v : Int} (h : (xkd o).2 = len) (hl : len ≤ 100000) : fJ7_fill_53178 o (j32 v) μ = some (fw μ o v len) := by
  unfold fJ7_fill_53178
  rw [h, show Int32.ofNat len = j32 (len : Int) from (Int32.ofInt_eq_ofNat).symm]
  simp only [xlt_e]
  have key := xloop_for (b := fun w => fJ7_fill_53178_b5 w.1 w.2 o (j32 v) (j32 (len : Int))) (fun k => (j32 k, fw μ o v k)) len (r := fw μ o v len) (a := (0, μ)) (by omega) rfl ?_ ?_
  · rw [key]; rfl
  · intro k hk
    show fJ7_fill_53178_b5 _ _ o (j32 v) _ = _
    unfold fJ7_fill_53178_b5
    rw [h]
    simp (disch := omega) only [Bool.false_eq_true, lits, jj, jc, jm, Int.cast_ofNat_Int, j_bi0, j_bi1, not_true, not_false_eq_true, if_true, if_false, xe, xok_some, Sum.elim_inl, Sum.elim_inr, show ¬ (len : Int) ≤ (k : Int) by omega]
    rfl
  · show fJ7_fill_53178_b5 _ _ o (j32 v) _ = _
    unfold fJ7_fill_53178_b5
    simp (disch := omega) only [Bool.false_eq_true, lits, jj, jc, jm, Int.cast_ofNat_Int, j_bi0, j_bi1, not_true, not_false_eq_true, if_true, if_false, xe, xok_some, Sum.elim_inl, Sum.elim_inr, Int.le_refl]
def nw (μ : xm) : Nat → xm
  | 0 => μ
  | k + 1 => wr (wr (nw μ k) iM_tookIn k 0) iM_gaveIn k 0
theorem nw_o {μ : xm} {a : Nat} (h1 : a ≠ iM_tookIn) (h2 : a ≠ iM_gaveIn) : ∀ k, gi (nw μ k) a = gi μ a
  | 0 => rfl
  | k + 1 => (gi_wr_f h2).trans ((gi_wr_f h1).trans (nw_o h1 h2 k))
theorem nw_in {μ : xm} : ∀ (k : Nat) (z : Int), 0 ≤ z → z < k → gi (nw μ k) iM_tookIn z = 0 ∧ gi (nw μ k) iM_gaveIn z = 0
  | 0, z, h1, h2 => by omega
  | k + 1, z, h1, h2 => by
    show gi (wr (wr (nw μ k) iM_tookIn k 0) iM_gaveIn k 0) iM_tookIn z = 0 ∧ gi (wr (wr (nw μ k) iM_tookIn k 0) iM_gaveIn k 0) iM_gaveIn z = 0
    by_cases e : z = k
    · subst e
      exact ⟨by rw [gi_wr_o (by decide), gi_wr (by omega)], by rw [gi_wr (by omega)]⟩
    · have ih := nw_in (μ := μ) k z h1 (by omega)
      exact ⟨by rw [gi_wr_o (by decide), gi_wr_z (by omega)]; exact ih.1, by rw [gi_wr_z (by omega), gi_wr_o (by decide)]; exact ih.2⟩
theorem s_now {A : xAs} {μ : xm} {R : xr} {n : Nat} (hA : RH A μ) (hC : CH A μ R n) (hI : Inv A) (a1 : Int32) : ∃ q, fX11_now a1 μ = some q ∧ ∃ q2, fX12_now a1 q.2 = some q2 ∧ q2.1 = q.1 ∧ xStp μ R n q2.2 := by
  obtain ⟨p, rfl, hp⟩ := j32_ex a1
  have h1 := hI.now
  have e0 := hC.now
  have eA : gi μ iM 0 = A iM 0 := hA.1
  unfold fX11_now fX12_now
  simp only [lits, jj, Int.cast_ofNat_Int]
  rw [e0, eX11_within hp (by omega) (by omega)]
  by_cases c1 : A iM 0 ≤ p ∧ p ≤ 99
  · by_cases c2 : p ≤ A iM 0
    · refine ⟨(j32 1, wr μ iC 8 p), ?_, (j32 1, wr (wr μ iC 8 p) iM 0 p), ?_, rfl, ?_⟩
      · simp (disch := omega) only [Bool.false_eq_true, lits, jj, jc, jm, Int.cast_ofNat_Int, j_bi0, j_bi1, not_true, not_false_eq_true, if_true, if_false, xe, xok_some, Sum.elim_inl, Sum.elim_inr, eq_true c1, c2]
      · rw [gi_wr_o (by decide), eA, eX12_in hp (by omega) (by omega)]
        simp (disch := omega) only [Bool.false_eq_true, lits, jj, jc, jm, Int.cast_ofNat_Int, j_bi0, j_bi1, not_true, not_false_eq_true, if_true, if_false, xe, xok_some, Sum.elim_inl, Sum.elim_inr, eq_true c1, c2]
      · refine ⟨(LK.w_ (by decide)).tr (LK.w_f (by omega)), up A iM 0 p, ?_, ?_, ?_⟩
        · exact RH.f_0 (RH.keep hA (fun o h1 h2 => gi_wr_f (by show o ≠ 0; omega))) (by omega)
        · refine hC.u_now (fun o h1 h2 h3 h4 => ?_) (fun z hz e => ?_) (fun o h1 h2 h3 => up_o h3) (fun k hk e => up_n (by omega)) ?_ ?_ ?_
          · rw [gi_wr_f (by show o ≠ 61; omega), gi_wr_f (by assumption)]
          · rw [gi_wr_o (by decide), gi_wr_z (by omega)]
          · rw [gi_wr_o (by decide), gi_wr (by omega), up_z]
          · intro z h1 h2; rw [gi_wr_o (by decide), gi_wr_o (by decide), up_o (by decide)]; exact hC.given z h1 h2
          · intro z h1 h2; rw [gi_wr_o (by decide), gi_wr_o (by decide), up_o (by decide)]; exact hC.taken z h1 h2
        · refine hI.u_now (fun o h1 h2 h3 => up_o h3) (fun k hk e => up_n (by omega)) ?_ ?_ ?_
          · rw [up_z]; omega
          · intro z h1 h2; rw [up_o (by decide)]; exact hI.tookIn z h1 h2
          · intro z h1 h2; rw [up_o (by decide)]; exact hI.gaveIn z h1 h2
    · have f1 : fX5_emptyHours μ = some (fw (fw μ iC_people_given 0 192) iC_people_taken 0 192) := by
        unfold fX5_emptyHours
        simp only [lits]
        rw [eJ7_fill (len := 192) (by decide +kernel) (by omega), xbd_e, eJ7_fill (len := 192) (by decide +kernel) (by omega)]; rfl
      generalize hμ1 : wr (fw (fw μ iC_people_given 0 192) iC_people_taken 0 192) iC 8 p = μ1
      have g1 : ∀ o, o ≠ iC → o ≠ iC_people_given → o ≠ iC_people_taken → gi μ1 o = gi μ o := fun o e1 e2 e3 => by
        rw [← hμ1, gi_wr_f e1, fw_o e3, fw_o e2]
      have f2 : xloop xfu (fun v => fX12_now_b25 v.1 v.2) (0, μ1) = some (nw μ1 192) := by
        refine xloop_for (fun k => (j32 k, nw μ1 k)) 192 (by decide) rfl ?_ ?_
        · intro k hk
          show fX12_now_b25 _ _ = _
          unfold fX12_now_b25
          simp (disch := omega) only [Bool.false_eq_true, lits, jj, jc, jm, Int.cast_ofNat_Int, j_bi0, j_bi1, not_true, not_false_eq_true, if_true, if_false, xe, xok_some, Sum.elim_inl, Sum.elim_inr, show ¬ 192 ≤ (k : Int) by omega]
          rfl
        · show fX12_now_b25 _ _ = _
          unfold fX12_now_b25
          simp (disch := omega) only [Bool.false_eq_true, lits, jj, jc, jm, Int.cast_ofNat_Int, j_bi0, j_bi1, not_true, not_false_eq_true, if_true, if_false, xe, xok_some, Sum.elim_inl, Sum.elim_inr, Int.le_refl]
      refine ⟨(j32 1, μ1), ?_, (j32 1, wr (nw μ1 192) iM 0 p), ?_, rfl, ?_⟩
      · simp (disch := omega) only [Bool.false_eq_true, lits, jj, jc, jm, Int.cast_ofNat_Int, j_bi0, j_bi1, not_true, not_false_eq_true, if_true, if_false, xe, xok_some, Sum.elim_inl, Sum.elim_inr, eq_true c1, c2, f1, hμ1]
      · dsimp only
        rw [g1 iM (by decide) (by decide) (by decide), eA, eX12_in hp (by omega) (by omega)]
        rw [show (0 : Int32) = j32 0 from rfl] at f2
        simp (disch := omega) only [Bool.false_eq_true, lits, jj, jc, jm, Int.cast_ofNat_Int, j_bi0, j_bi1, not_true, not_false_eq_true, if_true, if_false, xe, xok_some, Sum.elim_inl, Sum.elim_inr, eq_true c1, c2, f2]
      · have g2 : ∀ o, o ≠ iC → o ≠ iC_people_given → o ≠ iC_people_taken → o ≠ iM → o ≠ iM_tookIn → o ≠ iM_gaveIn → gi (wr (nw μ1 192) iM 0 p) o = gi μ o := fun o e1 e2 e3 e4 e5 e6 => by
          rw [gi_wr_f e4, nw_o e5 e6, g1 o e1 e2 e3]
        have g3 : ∀ k, 0 ≤ k → k ≠ 0 → gi (wr (nw μ1 192) iM 0 p) iM k = gi μ iM k := fun k hk e => by
          rw [gi_wr_z (by omega), nw_o (by decide) (by decide), g1 iM (by decide) (by decide) (by decide)]
        refine ⟨⟨fun o ho => g2 o (by show o ≠ 0; omega) (by show o ≠ 21; omega) (by show o ≠ 22; omega) (by show o ≠ 61; omega) (by show o ≠ 89; omega) (by show o ≠ 90; omega), g3 20 (by decide) (by decide)⟩, fun o => if o = iM_tookIn ∨ o = iM_gaveIn then gi (wr (nw μ1 192) iM 0 p) o else up A iM 0 p o, ?_, ?_, ?_⟩
        · refine RH.mk (fun o ho => ?_) ?_
          · by_cases e : o = iM_tookIn ∨ o = iM_gaveIn
            · rw [if_pos e]
            · rw [if_neg e]
              have e4 : o ≠ iM := fun q => by rw [q] at ho; cases ho
              have hR : 61 ≤ o := rper_lo ho
              rw [g2 o (by show o ≠ 0; omega) (by show o ≠ 21; omega) (by show o ≠ 22; omega) e4 (fun q => e (Or.inl q)) (fun q => e (Or.inr q)), up_o e4]
              exact RH.at hA ho
          · rw [if_neg (by decide)]
            have hs := RH.sc hA
            simp (disch := first | omega | decide) only [up_z, up_n, gi_wr, g3, hs, and_self]
        · refine hC.u_now (fun o e1 e2 e3 h4 => ?_) (fun z hz e => ?_) (fun o h1 h2 h3 => by rw [if_neg (by rintro (q | q); exact h2 q; exact h1 q), up_o h3]) (fun k hk e => by rw [if_neg (by decide), up_n (by omega)]) ?_ ?_ ?_
          · exact g2 o (by assumption) (by assumption) (by assumption) (by show o ≠ 61; omega) (by show o ≠ 89; omega) (by show o ≠ 90; omega)
          · rw [gi_wr_o (by decide), nw_o (by decide) (by decide), ← hμ1, gi_wr_z (by omega), fw_o (by decide), fw_o (by decide)]
          · rw [gi_wr_o (by decide), nw_o (by decide) (by decide), ← hμ1, gi_wr (by omega), if_neg (by decide), up_z]
          · intro z h1 h2
            rw [if_pos (by decide), gi_wr_o (by decide), gi_wr_o (by decide), nw_o (by decide) (by decide), (nw_in 192 z h1 (by omega)).2, ← hμ1, gi_wr_o (by decide), fw_o (by decide), fw_in (by omega) 192 z h1 (by omega)]
          · intro z h1 h2
            rw [if_pos (by decide), gi_wr_o (by decide), gi_wr_o (by decide), nw_o (by decide) (by decide), (nw_in 192 z h1 (by omega)).1, ← hμ1, gi_wr_o (by decide), fw_in (by omega) 192 z h1 (by omega)]
        · refine hI.u_now (fun o h1 h2 h3 => by rw [if_neg (by rintro (q | q); exact h2 q; exact h1 q), up_o h3]) (fun k hk e => by rw [if_neg (by decide), up_n (by omega)]) ?_ ?_ ?_
          · rw [if_neg (by decide), up_z]; omega
          · intro z h1 h2; rw [if_pos (by decide), gi_wr_o (by decide), (nw_in 192 z h1 (by omega)).1]; omega
          · intro z h1 h2; rw [if_pos (by decide), gi_wr_o (by decide), (nw_in 192 z h1 (by omega)).2]; omega
  · exact ⟨(j32 0, μ), by simp (disch := omega) only [Bool.false_eq_true, lits, jj, jc, jm, Int.cast_ofNat_Int, j_bi0, j_bi1, not_true, not_false_eq_true, if_true, if_false, xe, xok_some, Sum.elim_inl, Sum.elim_inr, eq_false c1], (j32 0, μ), by rw [eA, eX12_in hp (by omega) (by omega)]; simp (disch := omega) only [Bool.false_eq_true, lits, jj, jc, jm, Int.cast_ofNat_Int, j_bi0, j_bi1, not_true, not_false_eq_true, if_true, if_false, xe, xok_some, Sum.elim_inl, Sum.elim_inr, eq_false c1], rfl, xStp.same hA hC hI⟩
