def fX12_beginsAt_b9 (x2 : Int32) (x3 : Int32) (p0 : Int32) (μ : xm) : Option ((Int32 × Int32) ⊕ (Int32)) := if 8 ≤ x3 then (some (.inr x2)) else (xbd (fX12_isOf p0 x3 μ) fun q5 => if q5 = 0 then (xlt (x3 + 1) fun x6 => some (.inl (x2, x6))) else (xbd (xgI μ iM_cameAt 192 ((8 * p0) + x3)) fun v7 => if v7 ≤ x2 then (xlt (x3 + 1) fun x8 => some (.inl (x2, x8))) else (xbd (xgI μ iM_cameAt 192 ((8 * p0) + x3)) fun v9 => xlt (x3 + 1) fun x10 => some (.inl (v9, x10)))))
def fX12_beginsAt (p0 : Int32) (μ : xm) : Option (Int32) := xbd (xgI μ iM_minuteOf 24 p0) fun v1 => xbd (xloop xfu (fun v => fX12_beginsAt_b9 v.1 v.2 p0 μ) (v1, 0)) fun q11 => some q11
set_option maxHeartbeats 4000000 in
set_option maxRecDepth 100000 in
theorem kX12_beginsAt {E : xE} {d : Nat} {QQ : xP} (hd : 2 ≤ d) {p0 : Int32} {μ : xm} {R : xr} {n : Nat} (hF : xFin R n)  {res : Int32} (h : fX12_beginsAt p0 μ = some res) (hQ : QQ (some (.int res)) (xσ μ R) n) : xCon E d Y_X12_beginsAt 0 0 [.ref (E.2.2.2 + iM), .int p0] (xσ μ R) n QQ := by
  refine xCon_of pn_RX12 (Nat.le_of_ble_eq_true rfl) (L0 := [(0, .ref (E.2.2.2 + iM)), (1, .int p0)]) rfl ?_
  unfold fX12_beginsAt at h
  refine ev_aload_n 0 dX12_beginsAt_0 rfl rfl ?_
  refine xv_getF (a := iM_minuteOf) cl_12 lk_RX12_16 kd_61 (xl hF rfl) (fun _ => rfl) (fr_61_6 hF) dX12_beginsAt_1 ?_
  refine ev_iload_n 1 dX12_beginsAt_4 rfl rfl ?_
  obtain ⟨v1, hv1, h⟩ := xbd_some h
  refine xv_iald kd_64 (xl hF rfl) hv1 dX12_beginsAt_5 ?_
  refine xv_istore_n (L' := [(2, .int v1), (0, .ref (E.2.2.2 + iM)), (1, .int p0)]) rfl dX12_beginsAt_6 rfl (Nat.le_of_ble_eq_true rfl) rfl ?_
  refine ev_iconst (v := 0) dX12_beginsAt_7 (by decide) ?_
  refine xv_istore_n (L' := [(3, .int 0), (2, .int v1), (0, .ref (E.2.2.2 + iM)), (1, .int p0)]) rfl dX12_beginsAt_8 rfl (Nat.le_of_ble_eq_true rfl) rfl ?_
  obtain ⟨q11, hq11, h⟩ := xbd_some h
  refine ev_sub (L' := [(0, .ref (E.2.2.2 + iM)), (1, .int p0), (2, .int v1), (3, .int 0)]) [2, 3, 1, 0] rfl ?_
  refine xloop_run (fun v => Ev E (xcm E d 0 0 QQ) Y_X12_beginsAt 9 [(0, .ref (E.2.2.2 + iM)), (1, .int p0), (2, .int v.1), (3, .int v.2)] [] (xσ μ R) n 0 0) (fun v => Ev E (xcm E d 0 0 QQ) Y_X12_beginsAt 61 [(2, .int v)] [] (xσ μ R) n 0 0) ?_ _ _ _ hq11 ?_
  · rintro ⟨x2, x3⟩ y4 h hk
    replace h : fX12_beginsAt_b9 x2 x3 p0 μ = some y4 := h
    show Ev E (xcm E d 0 0 QQ) Y_X12_beginsAt 9 [(0, .ref (E.2.2.2 + iM)), (1, .int p0), (2, .int x2), (3, .int x3)] [] (xσ μ R) n 0 0
    unfold fX12_beginsAt_b9 at h
    refine ev_iload_n 3 dX12_beginsAt_9 rfl rfl ?_
    refine ev_bipush (v := 8) dX12_beginsAt_10 (by decide) ?_
    refine ev_icmp_ge (tgt := 61) dX12_beginsAt_12 (by decide) (fun c12 => ?_) (fun c12 => ?_)
    · replace h := xif_t c12 h
      cases h
      replace hk := xel_r hk
      exact ev_sub [2] rfl (hk)
    · replace h := xif_f c12 h
      refine ev_aload_n 0 dX12_beginsAt_15 rfl rfl ?_
      refine ev_iload_n 1 dX12_beginsAt_16 rfl rfl ?_
      refine ev_iload_n 3 dX12_beginsAt_17 rfl rfl ?_
      obtain ⟨q5, hq5, h⟩ := xbd_some h
      refine ev_callV (ci := 12) (rest := []) 2 (kX12_isOf (E := E) (d := 1) (QQ := (fun v τ n' => v = some (.int q5) ∧ τ = xσ μ R ∧ n = n')) (Nat.le_refl _) hF hq5 (⟨rfl, rfl, rfl⟩)) my_X12_isOf ⟨m_1470, m_1472, m_40⟩ cl_12 kd_61 (xl hF rfl) rfl rfl (Nat.le_of_ble_eq_true rfl) (Nat.le_trans (by decide) hd) (xlo (by decide) (Nat.le_trans (by decide) hd)) (Nat.zero_le _) (Nat.zero_le _) dX12_beginsAt_18 (fun v τ n' hv => ?_)
      obtain ⟨rfl, rfl, rfl⟩ := hv
      show Ev E (xcm E d 0 0 QQ) Y_X12_beginsAt 21 [(0, .ref (E.2.2.2 + iM)), (1, .int p0), (2, .int x2), (3, .int x3)] [.int q5] (xσ μ R) n 0 0
      refine ev_if_eq (tgt := 53) dX12_beginsAt_21 (by decide) (fun c21 => ?_) (fun c21 => ?_)
      · replace h := xif_t c21 h
        refine ev_iload_n 2 dX12_beginsAt_53 rfl rfl ?_
        refine xv_istore_n (L' := [(2, .int x2), (0, .ref (E.2.2.2 + iM)), (1, .int p0), (3, .int x3)]) rfl dX12_beginsAt_54 rfl (Nat.le_of_ble_eq_true rfl) rfl ?_
        obtain ⟨x6, hx6, h⟩ := xlt_some h
        refine ev_iinc (L' := [(3, .int x6), (2, .int x2), (0, .ref (E.2.2.2 + iM)), (1, .int p0)]) 3 dX12_beginsAt_55 rfl ((by rfl : x3 + Int32.ofInt 1 = x3 + 1).trans hx6) (Nat.le_of_ble_eq_true rfl) rfl ?_
        refine ev_goto (tgt := 9) dX12_beginsAt_58 (by decide) ?_
        cases h
        replace hk := xel_l hk
        exact ev_sub [2, 3, 1, 0] rfl (hk)
      · replace h := xif_f c21 h
        refine ev_aload_n 0 dX12_beginsAt_24 rfl rfl ?_
        refine xv_getF (a := iM_cameAt) cl_12 lk_RX12_22 kd_61 (xl hF rfl) (fun _ => rfl) (fr_61_8 hF) dX12_beginsAt_25 ?_
        refine ev_bipush (v := 8) dX12_beginsAt_28 (by decide) ?_
        refine ev_iload_n 1 dX12_beginsAt_30 rfl rfl ?_
        refine ev_imul dX12_beginsAt_31 ?_
        refine ev_iload_n 3 dX12_beginsAt_32 rfl rfl ?_
        refine ev_iadd dX12_beginsAt_33 ?_
        obtain ⟨v7, hv7, h⟩ := xbd_some h
        refine xv_iald kd_66 (xl hF rfl) hv7 dX12_beginsAt_34 ?_
        refine ev_iload_n 2 dX12_beginsAt_35 rfl rfl ?_
        refine ev_icmp_le (tgt := 53) dX12_beginsAt_36 (by decide) (fun c36 => ?_) (fun c36 => ?_)
        · replace h := xif_t c36 h
          refine ev_iload_n 2 dX12_beginsAt_53 rfl rfl ?_
          refine xv_istore_n (L' := [(2, .int x2), (0, .ref (E.2.2.2 + iM)), (1, .int p0), (3, .int x3)]) rfl dX12_beginsAt_54 rfl (Nat.le_of_ble_eq_true rfl) rfl ?_
          obtain ⟨x8, hx8, h⟩ := xlt_some h
          refine ev_iinc (L' := [(3, .int x8), (2, .int x2), (0, .ref (E.2.2.2 + iM)), (1, .int p0)]) 3 dX12_beginsAt_55 rfl ((by rfl : x3 + Int32.ofInt 1 = x3 + 1).trans hx8) (Nat.le_of_ble_eq_true rfl) rfl ?_
          refine ev_goto (tgt := 9) dX12_beginsAt_58 (by decide) ?_
          cases h
          replace hk := xel_l hk
          exact ev_sub [2, 3, 1, 0] rfl (hk)
        · replace h := xif_f c36 h
          refine ev_aload_n 0 dX12_beginsAt_39 rfl rfl ?_
          refine xv_getF (a := iM_cameAt) cl_12 lk_RX12_22 kd_61 (xl hF rfl) (fun _ => rfl) (fr_61_8 hF) dX12_beginsAt_40 ?_
          refine ev_bipush (v := 8) dX12_beginsAt_43 (by decide) ?_
          refine ev_iload_n 1 dX12_beginsAt_45 rfl rfl ?_
          refine ev_imul dX12_beginsAt_46 ?_
          refine ev_iload_n 3 dX12_beginsAt_47 rfl rfl ?_
          refine ev_iadd dX12_beginsAt_48 ?_
          obtain ⟨v9, hv9, h⟩ := xbd_some h
          refine xv_iald kd_66 (xl hF rfl) hv9 dX12_beginsAt_49 ?_
          refine ev_goto (tgt := 54) dX12_beginsAt_50 (by decide) ?_
          refine xv_istore_n (L' := [(2, .int v9), (0, .ref (E.2.2.2 + iM)), (1, .int p0), (3, .int x3)]) rfl dX12_beginsAt_54 rfl (Nat.le_of_ble_eq_true rfl) rfl ?_
          obtain ⟨x10, hx10, h⟩ := xlt_some h
          refine ev_iinc (L' := [(3, .int x10), (2, .int v9), (0, .ref (E.2.2.2 + iM)), (1, .int p0)]) 3 dX12_beginsAt_55 rfl ((by rfl : x3 + Int32.ofInt 1 = x3 + 1).trans hx10) (Nat.le_of_ble_eq_true rfl) rfl ?_
          refine ev_goto (tgt := 9) dX12_beginsAt_58 (by decide) ?_
          cases h
          replace hk := xel_l hk
          exact ev_sub [2, 3, 1, 0] rfl (hk)
  · show Ev E (xcm E d 0 0 QQ) Y_X12_beginsAt 61 [(2, .int q11)] [] (xσ μ R) n 0 0
    refine ev_iload_n 0 dX12_beginsAt_61 rfl rfl ?_
    cases h
    exact ev_iret rfl (hQ) dX12_beginsAt_62 (Nat.zero_le _) (Nat.zero_le _)
def fX12_byLaw_b2 (x1 : Int32) (μ2 : xm) (p0 : Int32) (p1 : Int32) : Option ((Int32 × xm) ⊕ ((xm) ⊕ (Int32 × xm))) := if (μ2.1 iM 20) ≤ x1 then (some (.inr (.inl μ2))) else (xbd (xgI μ2 iM_letterOf 14 x1) fun v4 => if v4 = p0 then (xbd (xgI μ2 iM_codeHalf 14 x1) fun v6 => xbd (xgI μ2 iM_codeTo 14 x1) fun v7 => xbd (fX12_comesTo v6 v7 μ2) fun q8 => if q8.1 = 1 then (xbd (xgI q8.2 iM_codeFrom 14 x1) fun v9 => xbd (xgI q8.2 iM_codeHalf 14 x1) fun v10 => xbd (fX12_comesTo v9 v10 q8.2) fun q11 => if 0 ≤ q11.1 then (if q11.1 ≤ p1 then (some (.inr (.inr (q11.1, q11.2)))) else (some (.inr (.inr (p1, q11.2))))) else (some (.inr (.inr (0, q11.2))))) else (xlt (x1 + 1) fun x12 => some (.inl (x12, q8.2)))) else (xlt (x1 + 1) fun x5 => some (.inl (x5, μ2))))
def fX12_byLaw (p0 : Int32) (p1 : Int32) (μ : xm) : Option (Int32 × xm) := xbd (xloop xfu (fun v => fX12_byLaw_b2 v.1 v.2 p0 p1) (0, μ)) fun q13 => xsm q13 (fun q14 => some (0, q14)) (fun q15 => some q15)
set_option maxHeartbeats 4000000 in
set_option maxRecDepth 100000 in
theorem kX12_byLaw {E : xE} {d : Nat} {QQ : xP} (hd : 2 ≤ d) {p0 : Int32} {p1 : Int32} {μ : xm} {R : xr} {n : Nat} (hF : xFin R n)  {res : Int32 × xm} (h : fX12_byLaw p0 p1 μ = some res) (hQ : QQ (some (.int res.1)) (xσ res.2 R) n) : xCon E d Y_X12_byLaw 0 0 [.ref (E.2.2.2 + iM), .int p0, .int p1] (xσ μ R) n QQ := by
  refine xCon_of pn_RX12 (Nat.le_of_ble_eq_true rfl) (L0 := [(0, .ref (E.2.2.2 + iM)), (1, .int p0), (2, .int p1)]) rfl ?_
  unfold fX12_byLaw at h
  refine ev_iconst (v := 0) dX12_byLaw_0 (by decide) ?_
  refine xv_istore_n (L' := [(3, .int 0), (0, .ref (E.2.2.2 + iM)), (1, .int p0), (2, .int p1)]) rfl dX12_byLaw_1 rfl (Nat.le_of_ble_eq_true rfl) rfl ?_
  obtain ⟨q13, hq13, h⟩ := xbd_some h
  refine ev_sub (L' := [(0, .ref (E.2.2.2 + iM)), (1, .int p0), (2, .int p1), (3, .int 0)]) [1, 2, 3, 0] rfl ?_
  refine xloop_run (fun v => Ev E (xcm E d 0 0 QQ) Y_X12_byLaw 2 [(0, .ref (E.2.2.2 + iM)), (1, .int p0), (2, .int p1), (3, .int v.1)] [] (xσ v.2 R) n 0 0) (xel (fun v => Ev E (xcm E d 0 0 QQ) Y_X12_byLaw 89 [] [] (xσ v R) n 0 0) (fun v => QQ (some (.int v.1)) (xσ v.2 R) n)) ?_ _ _ _ hq13 ?_
  · rintro ⟨x1, μ2⟩ y3 h hk
    replace h : fX12_byLaw_b2 x1 μ2 p0 p1 = some y3 := h
    show Ev E (xcm E d 0 0 QQ) Y_X12_byLaw 2 [(0, .ref (E.2.2.2 + iM)), (1, .int p0), (2, .int p1), (3, .int x1)] [] (xσ μ2 R) n 0 0
    unfold fX12_byLaw_b2 at h
    refine ev_iload_n 3 dX12_byLaw_2 rfl rfl ?_
    refine ev_aload_n 0 dX12_byLaw_3 rfl rfl ?_
    refine xv_getI cl_12 lk_RX12_299 kd_61 (xl hF rfl) (fun _ => rfl) dX12_byLaw_4 ?_
    refine ev_icmp_ge (tgt := 89) dX12_byLaw_7 (by decide) (fun c7 => ?_) (fun c7 => ?_)
    · replace h := xif_t c7 h
      cases h
      replace hk := xel_r hk
      replace hk := xel_l hk
      exact ev_sub [] rfl (hk)
    · replace h := xif_f c7 h
      refine ev_aload_n 0 dX12_byLaw_10 rfl rfl ?_
      refine xv_getF (a := iM_letterOf) cl_12 lk_RX12_54 kd_61 (xl hF rfl) (fun _ => rfl) (fr_61_28 hF) dX12_byLaw_11 ?_
      refine ev_iload_n 3 dX12_byLaw_14 rfl rfl ?_
      obtain ⟨v4, hv4, h⟩ := xbd_some h
      refine xv_iald kd_76 (xl hF rfl) hv4 dX12_byLaw_15 ?_
      refine ev_iload_n 1 dX12_byLaw_16 rfl rfl ?_
      refine ev_icmp_ne (tgt := 83) dX12_byLaw_17 (by decide) (fun c17 => ?_) (fun c17 => ?_)
      · replace h := xif_f c17 h
        obtain ⟨x5, hx5, h⟩ := xlt_some h
        refine ev_iinc (L' := [(3, .int x5), (0, .ref (E.2.2.2 + iM)), (1, .int p0), (2, .int p1)]) 3 dX12_byLaw_83 rfl ((by rfl : x1 + Int32.ofInt 1 = x1 + 1).trans hx5) (Nat.le_of_ble_eq_true rfl) rfl ?_
        refine ev_goto (tgt := 2) dX12_byLaw_86 (by decide) ?_
        cases h
        replace hk := xel_l hk
        exact ev_sub [1, 2, 3, 0] rfl (hk)
      · replace h := xif_t c17 h
        refine ev_aload_n 0 dX12_byLaw_20 rfl rfl ?_
        refine ev_aload_n 0 dX12_byLaw_21 rfl rfl ?_
        refine xv_getF (a := iM_codeHalf) cl_12 lk_RX12_60 kd_61 (xl hF rfl) (fun _ => rfl) (fr_61_30 hF) dX12_byLaw_22 ?_
        refine ev_iload_n 3 dX12_byLaw_25 rfl rfl ?_
        obtain ⟨v6, hv6, h⟩ := xbd_some h
        refine xv_iald kd_78 (xl hF rfl) hv6 dX12_byLaw_26 ?_
        refine ev_aload_n 0 dX12_byLaw_27 rfl rfl ?_
        refine xv_getF (a := iM_codeTo) cl_12 lk_RX12_63 kd_61 (xl hF rfl) (fun _ => rfl) (fr_61_31 hF) dX12_byLaw_28 ?_
        refine ev_iload_n 3 dX12_byLaw_31 rfl rfl ?_
        obtain ⟨v7, hv7, h⟩ := xbd_some h
        refine xv_iald kd_79 (xl hF rfl) hv7 dX12_byLaw_32 ?_
        obtain ⟨q8, hq8, h⟩ := xbd_some h
        refine ev_callV (ci := 12) (rest := []) 2 (kX12_comesTo (E := E) (d := 1) (QQ := (fun v τ n' => v = some (.int q8.1) ∧ τ = xσ q8.2 R ∧ n = n')) (Nat.le_refl _) hF hq8 (⟨rfl, rfl, rfl⟩)) my_X12_comesTo ⟨m_1629, m_1631, m_72⟩ cl_12 kd_61 (xl hF rfl) rfl rfl (Nat.le_of_ble_eq_true rfl) (Nat.le_trans (by decide) hd) (xlo (by decide) (Nat.le_trans (by decide) hd)) (Nat.zero_le _) (Nat.zero_le _) dX12_byLaw_33 (fun v τ n' hv => ?_)
        obtain ⟨rfl, rfl, rfl⟩ := hv
        show Ev E (xcm E d 0 0 QQ) Y_X12_byLaw 36 [(0, .ref (E.2.2.2 + iM)), (1, .int p0), (2, .int p1), (3, .int x1)] [.int q8.1] (xσ q8.2 R) n 0 0
        refine ev_iconst (v := 1) dX12_byLaw_36 (by decide) ?_
        refine ev_icmp_eq (tgt := 43) dX12_byLaw_37 (by decide) (fun c37 => ?_) (fun c37 => ?_)
        · replace h := xif_t c37 h
          refine ev_aload_n 0 dX12_byLaw_43 rfl rfl ?_
          refine ev_aload_n 0 dX12_byLaw_44 rfl rfl ?_
          refine xv_getF (a := iM_codeFrom) cl_12 lk_RX12_57 kd_61 (xl hF rfl) (fun _ => rfl) (fr_61_29 hF) dX12_byLaw_45 ?_
          refine ev_iload_n 3 dX12_byLaw_48 rfl rfl ?_
          obtain ⟨v9, hv9, h⟩ := xbd_some h
          refine xv_iald kd_77 (xl hF rfl) hv9 dX12_byLaw_49 ?_
          refine ev_aload_n 0 dX12_byLaw_50 rfl rfl ?_
          refine xv_getF (a := iM_codeHalf) cl_12 lk_RX12_60 kd_61 (xl hF rfl) (fun _ => rfl) (fr_61_30 hF) dX12_byLaw_51 ?_
          refine ev_iload_n 3 dX12_byLaw_54 rfl rfl ?_
          obtain ⟨v10, hv10, h⟩ := xbd_some h
          refine xv_iald kd_78 (xl hF rfl) hv10 dX12_byLaw_55 ?_
          obtain ⟨q11, hq11, h⟩ := xbd_some h
          refine ev_callV (ci := 12) (rest := []) 2 (kX12_comesTo (E := E) (d := 1) (QQ := (fun v τ n' => v = some (.int q11.1) ∧ τ = xσ q11.2 R ∧ n = n')) (Nat.le_refl _) hF hq11 (⟨rfl, rfl, rfl⟩)) my_X12_comesTo ⟨m_1629, m_1631, m_72⟩ cl_12 kd_61 (xl hF rfl) rfl rfl (Nat.le_of_ble_eq_true rfl) (Nat.le_trans (by decide) hd) (xlo (by decide) (Nat.le_trans (by decide) hd)) (Nat.zero_le _) (Nat.zero_le _) dX12_byLaw_56 (fun v τ n' hv => ?_)
          obtain ⟨rfl, rfl, rfl⟩ := hv
          show Ev E (xcm E d 0 0 QQ) Y_X12_byLaw 59 [(0, .ref (E.2.2.2 + iM)), (1, .int p0), (2, .int p1), (3, .int x1)] [.int q11.1] (xσ q11.2 R) n 0 0
          refine xv_istore (L' := [(4, .int q11.1), (0, .ref (E.2.2.2 + iM)), (1, .int p0), (2, .int p1), (3, .int x1)]) rfl dX12_byLaw_59 (Nat.le_of_ble_eq_true rfl) rfl ?_
          refine ev_iload 0 dX12_byLaw_61 rfl ?_
          refine ev_if_ge (tgt := 70) dX12_byLaw_63 (by decide) (fun c63 => ?_) (fun c63 => ?_)
          · replace h := xif_t c63 h
            refine ev_iload 0 dX12_byLaw_70 rfl ?_
            refine ev_iload_n 3 dX12_byLaw_72 rfl rfl ?_
            refine ev_icmp_le (tgt := 80) dX12_byLaw_73 (by decide) (fun c73 => ?_) (fun c73 => ?_)
            · replace h := xif_t c73 h
              refine ev_iload 0 dX12_byLaw_80 rfl ?_
              cases h
              replace hk := xel_r hk
              replace hk := xel_r hk
              exact ev_iret rfl (hk) dX12_byLaw_82 (Nat.zero_le _) (Nat.zero_le _)
            · replace h := xif_f c73 h
              refine ev_iload_n 3 dX12_byLaw_76 rfl rfl ?_
              refine ev_goto (tgt := 82) dX12_byLaw_77 (by decide) ?_
              cases h
              replace hk := xel_r hk
              replace hk := xel_r hk
              exact ev_iret rfl (hk) dX12_byLaw_82 (Nat.zero_le _) (Nat.zero_le _)
          · replace h := xif_f c63 h
            refine ev_iconst (v := 0) dX12_byLaw_66 (by decide) ?_
            refine ev_goto (tgt := 82) dX12_byLaw_67 (by decide) ?_
            cases h
            replace hk := xel_r hk
            replace hk := xel_r hk
            exact ev_iret rfl (hk) dX12_byLaw_82 (Nat.zero_le _) (Nat.zero_le _)
        · replace h := xif_f c37 h
          refine ev_goto (tgt := 83) dX12_byLaw_40 (by decide) ?_
          obtain ⟨x12, hx12, h⟩ := xlt_some h
          refine ev_iinc (L' := [(3, .int x12), (0, .ref (E.2.2.2 + iM)), (1, .int p0), (2, .int p1)]) 3 dX12_byLaw_83 rfl ((by rfl : x1 + Int32.ofInt 1 = x1 + 1).trans hx12) (Nat.le_of_ble_eq_true rfl) rfl ?_
          refine ev_goto (tgt := 2) dX12_byLaw_86 (by decide) ?_
          cases h
          replace hk := xel_l hk
          exact ev_sub [1, 2, 3, 0] rfl (hk)
  · rcases q13 with q14 | q15
    · replace h := xsm_l h
      show Ev E (xcm E d 0 0 QQ) Y_X12_byLaw 89 [] [] (xσ q14 R) n 0 0
      refine ev_iconst (v := 0) dX12_byLaw_89 (by decide) ?_
      cases h
      exact ev_iret rfl (hQ) dX12_byLaw_90 (Nat.zero_le _) (Nat.zero_le _)
    · replace h := xsm_r h
      cases h
      exact hQ
def fX12_called_b68 (x8 : Int32) (μ9 : xm) (p0 : Int32) (x4 : Int32) : Option ((Int32 × xm) ⊕ (xm)) := if (μ9.1 iM 37) ≤ x8 then (some (.inr μ9)) else (xbd (xgI μ9 iM_liveFrom 7 x4) fun v11 => xbd (fX12_isLive x8 μ9) fun q12 => if q12 = 0 then (xbd (xsI μ9 iM_liveFrom 7 x4 (v11 + 0)) fun μ13 => xlt (x8 + 1) fun x14 => some (.inl (x14, μ13))) else (xbd (xgI μ9 iM_hasIt 60 x8) fun v15 => if v15 = p0 then (xbd (fX12_isLiveOn x8 ((μ9.1 iM 0) + x4) μ9) fun q18 => if q18 = 0 then (xbd (xsI μ9 iM_liveFrom 7 x4 (v11 + 0)) fun μ19 => xlt (x8 + 1) fun x20 => some (.inl (x20, μ19))) else (xbd (xgI μ9 iM_leftOf 60 x8) fun v21 => xbd (xsI μ9 iM_liveFrom 7 x4 (v11 + v21)) fun μ22 => xlt (x8 + 1) fun x23 => some (.inl (x23, μ22)))) else (xbd (xsI μ9 iM_liveFrom 7 x4 (v11 + 0)) fun μ16 => xlt (x8 + 1) fun x17 => some (.inl (x17, μ16)))))
def fX12_called_b51 (x4 : Int32) (μ5 : xm) (p0 : Int32) (x3 : Int32) : Option ((Int32 × xm) ⊕ (xm)) := if x3 ≤ x4 then (some (.inr μ5)) else (xbd (xsI μ5 iM_liveFrom 7 x4 0) fun μ7 => xbd (xloop xfu (fun v => fX12_called_b68 v.1 v.2 p0 x4) (0, μ7)) fun q24 => xlt (x4 + 1) fun x25 => some (.inl (x25, q24)))
def fX12_called_b154 (x27 : Int32) (μ28 : xm) : Option ((Int32 × xm) ⊕ (xm)) := if 168 ≤ x27 then (some (.inr μ28)) else (xbd (xsZ μ28 iM_isUsed 168 x27 0) fun μ30 => xlt (x27 + 1) fun x31 => some (.inl (x31, μ30)))
def fX12_called_b233 (x40 : Int32) (x41 : Int32) (x35 : Int32) (μ38 : xm) : Option ((Int32 × Int32) ⊕ (Int32)) := if (x35 / 24) < x41 then (some (.inr x40)) else (xbd (xgI μ38 iM_liveFrom 7 x41) fun v43 => if x40 ≤ v43 then (xlt (x41 + 1) fun x44 => some (.inl (x40, x44))) else (xbd (xgI μ38 iM_liveFrom 7 x41) fun v45 => xlt (x41 + 1) fun x46 => some (.inl (v45, x46))))
def fX12_called_b278 (x48 : Int32) (μ49 : xm) (x35 : Int32) (q47 : Int32) : Option ((Int32 × xm) ⊕ (xm)) := if (x35 / 24) < x48 then (some (.inr μ49)) else (xbd (xgI μ49 iM_liveFrom 7 x48) fun v51 => xbd (xsI μ49 iM_liveFrom 7 x48 (v51 - q47)) fun μ52 => xlt (x48 + 1) fun x53 => some (.inl (x53, μ52)))
def fX12_called_j228 (x39 : Int32) (p0 : Int32) (x3 : Int32) (x34 : Int64) (x35 : Int32) (μ38 : xm) : Option ((Int64 × Int32 × xm) ⊕ (Int64 × xm)) := xbd (xloop xfu (fun v => fX12_called_b233 v.1 v.2 x35 μ38) (x39, 0)) fun q47 => xbd (xloop xfu (fun v => fX12_called_b278 v.1 v.2 x35 q47) (0, μ38)) fun q54 => xbd (xgI q54 iM_worthOf 192 ((24 * p0) + (x35 - x35 / 24 * 24))) fun v55 => xlt (x34 + (q47.toInt64 * v55.toInt64)) fun x56 => xbd (fX12_dearest p0 x3 q54) fun q57 => some (.inl (x56, q57, q54))
def fX12_called_b187 (x34 : Int64) (x35 : Int32) (μ36 : xm) (p0 : Int32) (x3 : Int32) : Option ((Int64 × Int32 × xm) ⊕ (Int64 × xm)) := if x35 = (-1) then (some (.inr (x34, μ36))) else (xbd (xsZ μ36 iM_isUsed 168 x35 1) fun μ38 => if 24 ≤ x35 then (fX12_called_j228 60 p0 x3 x34 x35 μ38) else (xbd (xgI μ38 iM_tookIn 192 ((24 * p0) + x35)) fun v58 => fX12_called_j228 (60 - v58) p0 x3 x34 x35 μ38))
def fX12_called_j47 (x3 : Int32) (p0 : Int32) (μ : xm) : Option (Int64 × xm) := xbd (xloop xfu (fun v => fX12_called_b51 v.1 v.2 p0 x3) (0, μ)) fun q26 => xbd (xloop xfu (fun v => fX12_called_b154 v.1 v.2) (0, q26)) fun q32 => xbd (fX12_dearest p0 x3 q32) fun q33 => xbd (xloop xfu (fun v => fX12_called_b187 v.1 v.2.1 v.2.2 p0 x3) (0, q33, q32)) fun q59 => some (q59.1, q59.2)
def fX12_called (p0 : Int32) (p1 : Int32) (μ : xm) : Option (Int64 × xm) := xbd (fX12_isPerson p0) fun q1 => if q1 = 0 then (some ((-1), μ)) else (xbd (fX12_in p1 0 6) fun q2 => if q2 = 0 then (some ((-1), μ)) else (if ((μ.1 iM 0) + p1) ≤ 99 then (fX12_called_j47 (p1 + 1) p0 μ) else (fX12_called_j47 ((99 - (μ.1 iM 0)) + 1) p0 μ)))
set_option maxHeartbeats 4000000 in
set_option maxRecDepth 100000 in
theorem kX12_called {E : xE} {d : Nat} {QQ : xP} (hd : 2 ≤ d) {p0 : Int32} {p1 : Int32} {μ : xm} {R : xr} {n : Nat} (hF : xFin R n)  {res : Int64 × xm} (h : fX12_called p0 p1 μ = some res) (hQ : QQ (some (.long res.1)) (xσ res.2 R) n) : xCon E d Y_X12_called 0 0 [.ref (E.2.2.2 + iM), .int p0, .int p1] (xσ μ R) n QQ := by
  refine xCon_of pn_RX12 (Nat.le_of_ble_eq_true rfl) (L0 := [(0, .ref (E.2.2.2 + iM)), (1, .int p0), (2, .int p1)]) rfl ?_
  unfold fX12_called at h
  refine ev_iload_n 1 dX12_called_0 rfl rfl ?_
  obtain ⟨q1, hq1, h⟩ := xbd_some h
  refine ev_callS (As := [.int p0]) (rest := []) 1 (kX12_isPerson (E := E) (d := 0) (QQ := (fun v τ n' => v = some (.int q1) ∧ τ = xσ μ R ∧ n = n')) (Nat.le_refl _)  hq1 (⟨rfl, rfl, rfl⟩)) my_X12_isPerson ⟨m_1456, m_1457⟩ rfl rfl (Nat.le_of_ble_eq_true rfl) (Nat.le_trans (by decide) hd) (xlo (by decide) (Nat.le_trans (by decide) hd)) (Nat.zero_le _) (Nat.zero_le _) dX12_called_1 (fun v τ n' hv => ?_)
  obtain ⟨rfl, rfl, rfl⟩ := hv
  show Ev E (xcm E d 0 0 QQ) Y_X12_called 4 [(0, .ref (E.2.2.2 + iM)), (1, .int p0), (2, .int p1)] [.int q1] (xσ μ R) n 0 0
  refine ev_if_eq (tgt := 17) dX12_called_4 (by decide) (fun c4 => ?_) (fun c4 => ?_)
  · replace h := xif_t c4 h
    refine ev_ldc2 (v := (-1)) m_1692 dX12_called_17 ?_
    cases h
    exact ev_lret rfl (hQ) dX12_called_20 (Nat.zero_le _) (Nat.zero_le _)
  · replace h := xif_f c4 h
    refine ev_iload_n 2 dX12_called_7 rfl rfl ?_
    refine ev_iconst (v := 0) dX12_called_8 (by decide) ?_
    refine ev_bipush (v := 6) dX12_called_9 (by decide) ?_
    obtain ⟨q2, hq2, h⟩ := xbd_some h
    refine ev_callS (As := [.int p1, .int 0, .int 6]) (rest := []) 3 (kX12_in (E := E) (d := 0) (QQ := (fun v τ n' => v = some (.int q2) ∧ τ = xσ μ R ∧ n = n')) (Nat.le_refl _)  hq2 (⟨rfl, rfl, rfl⟩)) my_X12_in ⟨m_1449, m_1450⟩ rfl rfl (Nat.le_of_ble_eq_true rfl) (Nat.le_trans (by decide) hd) (xlo (by decide) (Nat.le_trans (by decide) hd)) (Nat.zero_le _) (Nat.zero_le _) dX12_called_11 (fun v τ n' hv => ?_)
    obtain ⟨rfl, rfl, rfl⟩ := hv
    show Ev E (xcm E d 0 0 QQ) Y_X12_called 14 [(0, .ref (E.2.2.2 + iM)), (1, .int p0), (2, .int p1)] [.int q2] (xσ μ R) n 0 0
    refine ev_if_ne (tgt := 21) dX12_called_14 (by decide) (fun c14 => ?_) (fun c14 => ?_)
    · replace h := xif_f c14 h
      refine ev_aload_n 0 dX12_called_21 rfl rfl ?_
      refine xv_getI cl_12 lk_RX12_165 kd_61 (xl hF rfl) (fun _ => rfl) dX12_called_22 ?_
      refine ev_iload_n 2 dX12_called_25 rfl rfl ?_
      refine ev_iadd dX12_called_26 ?_
      refine ev_bipush (v := 99) dX12_called_27 (by decide) ?_
      have j47 : ∀ (x3 : Int32), fX12_called_j47 x3 p0 μ = some res → Ev E (xcm E d 0 0 QQ) Y_X12_called 47 [(0, .ref (E.2.2.2 + iM)), (1, .int p0)] [.int x3] (xσ μ R) n 0 0 := by
        intro x3 h
        unfold fX12_called_j47 at h
        refine xv_istore_n (L' := [(3, .int x3), (0, .ref (E.2.2.2 + iM)), (1, .int p0)]) rfl dX12_called_47 rfl (Nat.le_of_ble_eq_true rfl) rfl ?_
        refine ev_iconst (v := 0) dX12_called_48 (by decide) ?_
        refine xv_istore (L' := [(4, .int 0), (3, .int x3), (0, .ref (E.2.2.2 + iM)), (1, .int p0)]) rfl dX12_called_49 (Nat.le_of_ble_eq_true rfl) rfl ?_
        obtain ⟨q26, hq26, h⟩ := xbd_some h
        refine ev_sub (L' := [(0, .ref (E.2.2.2 + iM)), (1, .int p0), (3, .int x3), (4, .int 0)]) [2, 3, 1, 0] rfl ?_
        refine xloop_run (fun v => Ev E (xcm E d 0 0 QQ) Y_X12_called 51 [(0, .ref (E.2.2.2 + iM)), (1, .int p0), (3, .int x3), (4, .int v.1)] [] (xσ v.2 R) n 0 0) (fun v => Ev E (xcm E d 0 0 QQ) Y_X12_called 151 [(0, .ref (E.2.2.2 + iM)), (1, .int p0), (3, .int x3)] [] (xσ v R) n 0 0) ?_ _ _ _ hq26 ?_
        · rintro ⟨x4, μ5⟩ y6 h hk
          replace h : fX12_called_b51 x4 μ5 p0 x3 = some y6 := h
          show Ev E (xcm E d 0 0 QQ) Y_X12_called 51 [(0, .ref (E.2.2.2 + iM)), (1, .int p0), (3, .int x3), (4, .int x4)] [] (xσ μ5 R) n 0 0
          unfold fX12_called_b51 at h
          refine ev_iload 3 dX12_called_51 rfl ?_
          refine ev_iload_n 2 dX12_called_53 rfl rfl ?_
          refine ev_icmp_ge (tgt := 151) dX12_called_54 (by decide) (fun c54 => ?_) (fun c54 => ?_)
          · replace h := xif_t c54 h
            cases h
            replace hk := xel_r hk
            exact ev_sub [0, 1, 2] rfl (hk)
          · replace h := xif_f c54 h
            refine ev_aload_n 0 dX12_called_57 rfl rfl ?_
            refine xv_getF (a := iM_liveFrom) cl_12 lk_RX12_99 kd_61 (xl hF rfl) (fun _ => rfl) (fr_61_45 hF) dX12_called_58 ?_
            refine ev_iload 3 dX12_called_61 rfl ?_
            refine ev_iconst (v := 0) dX12_called_63 (by decide) ?_
            obtain ⟨μ7, hμ7, h⟩ := xbd_some h
            refine xv_iast kd_91 (xl hF rfl) hμ7 dX12_called_64 ?_
            refine ev_iconst (v := 0) dX12_called_65 (by decide) ?_
            refine xv_istore (L' := [(5, .int 0), (0, .ref (E.2.2.2 + iM)), (1, .int p0), (3, .int x3), (4, .int x4)]) rfl dX12_called_66 (Nat.le_of_ble_eq_true rfl) rfl ?_
            obtain ⟨q24, hq24, h⟩ := xbd_some h
            refine ev_sub (L' := [(0, .ref (E.2.2.2 + iM)), (1, .int p0), (3, .int x3), (4, .int x4), (5, .int 0)]) [1, 2, 3, 4, 0] rfl ?_
            refine xloop_run (fun v => Ev E (xcm E d 0 0 QQ) Y_X12_called 68 [(0, .ref (E.2.2.2 + iM)), (1, .int p0), (3, .int x3), (4, .int x4), (5, .int v.1)] [] (xσ v.2 R) n 0 0) (fun v => Ev E (xcm E d 0 0 QQ) Y_X12_called 145 [(0, .ref (E.2.2.2 + iM)), (1, .int p0), (3, .int x3), (4, .int x4)] [] (xσ v R) n 0 0) ?_ _ _ _ hq24 ?_
            · rintro ⟨x8, μ9⟩ y10 h hk
              replace h : fX12_called_b68 x8 μ9 p0 x4 = some y10 := h
              show Ev E (xcm E d 0 0 QQ) Y_X12_called 68 [(0, .ref (E.2.2.2 + iM)), (1, .int p0), (3, .int x3), (4, .int x4), (5, .int x8)] [] (xσ μ9 R) n 0 0
              unfold fX12_called_b68 at h
              refine ev_iload 4 dX12_called_68 rfl ?_
              refine ev_aload_n 0 dX12_called_70 rfl rfl ?_
              refine xv_getI cl_12 lk_RX12_328 kd_61 (xl hF rfl) (fun _ => rfl) dX12_called_71 ?_
              refine ev_icmp_ge (tgt := 145) dX12_called_74 (by decide) (fun c74 => ?_) (fun c74 => ?_)
              · replace h := xif_t c74 h
                cases h
                replace hk := xel_r hk
                exact ev_sub [0, 1, 2, 3] rfl (hk)
              · replace h := xif_f c74 h
                refine ev_aload_n 0 dX12_called_77 rfl rfl ?_
                refine xv_getF (a := iM_liveFrom) cl_12 lk_RX12_99 kd_61 (xl hF rfl) (fun _ => rfl) (fr_61_45 hF) dX12_called_78 ?_
                refine ev_iload 3 dX12_called_81 rfl ?_
                refine ev_aload_n 0 dX12_called_83 rfl rfl ?_
                refine xv_getF (a := iM_liveFrom) cl_12 lk_RX12_99 kd_61 (xl hF rfl) (fun _ => rfl) (fr_61_45 hF) dX12_called_84 ?_
                refine ev_iload 3 dX12_called_87 rfl ?_
                obtain ⟨v11, hv11, h⟩ := xbd_some h
                refine xv_iald kd_91 (xl hF rfl) hv11 dX12_called_89 ?_
                refine ev_aload_n 0 dX12_called_90 rfl rfl ?_
                refine ev_iload 4 dX12_called_91 rfl ?_
                obtain ⟨q12, hq12, h⟩ := xbd_some h
                refine ev_callV (ci := 12) (rest := [.int v11, .int x4, .ref (E.2.2.2 + iM_liveFrom)]) 1 (kX12_isLive (E := E) (d := 1) (QQ := (fun v τ n' => v = some (.int q12) ∧ τ = xσ μ9 R ∧ n = n')) (Nat.le_refl _) hF hq12 (⟨rfl, rfl, rfl⟩)) my_X12_isLive ⟨m_1664, m_1666, m_77⟩ cl_12 kd_61 (xl hF rfl) rfl rfl (Nat.le_of_ble_eq_true rfl) (Nat.le_trans (by decide) hd) (xlo (by decide) (Nat.le_trans (by decide) hd)) (Nat.zero_le _) (Nat.zero_le _) dX12_called_93 (fun v τ n' hv => ?_)
                obtain ⟨rfl, rfl, rfl⟩ := hv
                show Ev E (xcm E d 0 0 QQ) Y_X12_called 96 [(0, .ref (E.2.2.2 + iM)), (1, .int p0), (3, .int x3), (4, .int x4), (5, .int x8)] [.int q12, .int v11, .int x4, .ref (E.2.2.2 + iM_liveFrom)] (xσ μ9 R) n 0 0
                refine ev_if_eq (tgt := 136) dX12_called_96 (by decide) (fun c96 => ?_) (fun c96 => ?_)
                · replace h := xif_t c96 h
                  refine ev_iconst (v := 0) dX12_called_136 (by decide) ?_
                  refine ev_iadd dX12_called_137 ?_
                  obtain ⟨μ13, hμ13, h⟩ := xbd_some h
                  refine xv_iast kd_91 (xl hF rfl) hμ13 dX12_called_138 ?_
                  obtain ⟨x14, hx14, h⟩ := xlt_some h
                  refine ev_iinc (L' := [(5, .int x14), (0, .ref (E.2.2.2 + iM)), (1, .int p0), (3, .int x3), (4, .int x4)]) 4 dX12_called_139 rfl ((by rfl : x8 + Int32.ofInt 1 = x8 + 1).trans hx14) (Nat.le_of_ble_eq_true rfl) rfl ?_
                  refine ev_goto (tgt := 68) dX12_called_142 (by decide) ?_
                  cases h
                  replace hk := xel_l hk
                  exact ev_sub [1, 2, 3, 4, 0] rfl (hk)
                · replace h := xif_f c96 h
                  refine ev_aload_n 0 dX12_called_99 rfl rfl ?_
                  refine xv_getF (a := iM_hasIt) cl_12 lk_RX12_81 kd_61 (xl hF rfl) (fun _ => rfl) (fr_61_39 hF) dX12_called_100 ?_
                  refine ev_iload 4 dX12_called_103 rfl ?_
                  obtain ⟨v15, hv15, h⟩ := xbd_some h
                  refine xv_iald kd_85 (xl hF rfl) hv15 dX12_called_105 ?_
                  refine ev_iload_n 1 dX12_called_106 rfl rfl ?_
                  refine ev_icmp_ne (tgt := 136) dX12_called_107 (by decide) (fun c107 => ?_) (fun c107 => ?_)
                  · replace h := xif_f c107 h
                    refine ev_iconst (v := 0) dX12_called_136 (by decide) ?_
                    refine ev_iadd dX12_called_137 ?_
                    obtain ⟨μ16, hμ16, h⟩ := xbd_some h
                    refine xv_iast kd_91 (xl hF rfl) hμ16 dX12_called_138 ?_
                    obtain ⟨x17, hx17, h⟩ := xlt_some h
                    refine ev_iinc (L' := [(5, .int x17), (0, .ref (E.2.2.2 + iM)), (1, .int p0), (3, .int x3), (4, .int x4)]) 4 dX12_called_139 rfl ((by rfl : x8 + Int32.ofInt 1 = x8 + 1).trans hx17) (Nat.le_of_ble_eq_true rfl) rfl ?_
                    refine ev_goto (tgt := 68) dX12_called_142 (by decide) ?_
                    cases h
                    replace hk := xel_l hk
                    exact ev_sub [1, 2, 3, 4, 0] rfl (hk)
                  · replace h := xif_t c107 h
                    refine ev_aload_n 0 dX12_called_110 rfl rfl ?_
                    refine ev_iload 4 dX12_called_111 rfl ?_
                    refine ev_aload_n 0 dX12_called_113 rfl rfl ?_
                    refine xv_getI cl_12 lk_RX12_165 kd_61 (xl hF rfl) (fun _ => rfl) dX12_called_114 ?_
                    refine ev_iload 3 dX12_called_117 rfl ?_
                    refine ev_iadd dX12_called_119 ?_
                    obtain ⟨q18, hq18, h⟩ := xbd_some h
                    refine ev_callV (ci := 12) (rest := [.int v11, .int x4, .ref (E.2.2.2 + iM_liveFrom)]) 2 (kX12_isLiveOn (E := E) (d := 0) (QQ := (fun v τ n' => v = some (.int q18) ∧ τ = xσ μ9 R ∧ n = n')) (Nat.le_refl _) hF hq18 (⟨rfl, rfl, rfl⟩)) my_X12_isLiveOn ⟨m_1668, m_1670, m_78⟩ cl_12 kd_61 (xl hF rfl) rfl rfl (Nat.le_of_ble_eq_true rfl) (Nat.le_trans (by decide) hd) (xlo (by decide) (Nat.le_trans (by decide) hd)) (Nat.zero_le _) (Nat.zero_le _) dX12_called_120 (fun v τ n' hv => ?_)
                    obtain ⟨rfl, rfl, rfl⟩ := hv
                    show Ev E (xcm E d 0 0 QQ) Y_X12_called 123 [(0, .ref (E.2.2.2 + iM)), (1, .int p0), (3, .int x3), (4, .int x4), (5, .int x8)] [.int q18, .int v11, .int x4, .ref (E.2.2.2 + iM_liveFrom)] (xσ μ9 R) n 0 0
                    refine ev_if_eq (tgt := 136) dX12_called_123 (by decide) (fun c123 => ?_) (fun c123 => ?_)
                    · replace h := xif_t c123 h
                      refine ev_iconst (v := 0) dX12_called_136 (by decide) ?_
                      refine ev_iadd dX12_called_137 ?_
                      obtain ⟨μ19, hμ19, h⟩ := xbd_some h
                      refine xv_iast kd_91 (xl hF rfl) hμ19 dX12_called_138 ?_
                      obtain ⟨x20, hx20, h⟩ := xlt_some h
                      refine ev_iinc (L' := [(5, .int x20), (0, .ref (E.2.2.2 + iM)), (1, .int p0), (3, .int x3), (4, .int x4)]) 4 dX12_called_139 rfl ((by rfl : x8 + Int32.ofInt 1 = x8 + 1).trans hx20) (Nat.le_of_ble_eq_true rfl) rfl ?_
                      refine ev_goto (tgt := 68) dX12_called_142 (by decide) ?_
                      cases h
                      replace hk := xel_l hk
                      exact ev_sub [1, 2, 3, 4, 0] rfl (hk)
                    · replace h := xif_f c123 h
                      refine ev_aload_n 0 dX12_called_126 rfl rfl ?_
                      refine xv_getF (a := iM_leftOf) cl_12 lk_RX12_84 kd_61 (xl hF rfl) (fun _ => rfl) (fr_61_40 hF) dX12_called_127 ?_
                      refine ev_iload 4 dX12_called_130 rfl ?_
                      obtain ⟨v21, hv21, h⟩ := xbd_some h
                      refine xv_iald kd_86 (xl hF rfl) hv21 dX12_called_132 ?_
                      refine ev_goto (tgt := 137) dX12_called_133 (by decide) ?_
                      refine ev_iadd dX12_called_137 ?_
                      obtain ⟨μ22, hμ22, h⟩ := xbd_some h
                      refine xv_iast kd_91 (xl hF rfl) hμ22 dX12_called_138 ?_
                      obtain ⟨x23, hx23, h⟩ := xlt_some h
                      refine ev_iinc (L' := [(5, .int x23), (0, .ref (E.2.2.2 + iM)), (1, .int p0), (3, .int x3), (4, .int x4)]) 4 dX12_called_139 rfl ((by rfl : x8 + Int32.ofInt 1 = x8 + 1).trans hx23) (Nat.le_of_ble_eq_true rfl) rfl ?_
                      refine ev_goto (tgt := 68) dX12_called_142 (by decide) ?_
                      cases h
                      replace hk := xel_l hk
                      exact ev_sub [1, 2, 3, 4, 0] rfl (hk)
            · show Ev E (xcm E d 0 0 QQ) Y_X12_called 145 [(0, .ref (E.2.2.2 + iM)), (1, .int p0), (3, .int x3), (4, .int x4)] [] (xσ q24 R) n 0 0
              obtain ⟨x25, hx25, h⟩ := xlt_some h
              refine ev_iinc (L' := [(4, .int x25), (0, .ref (E.2.2.2 + iM)), (1, .int p0), (3, .int x3)]) 3 dX12_called_145 rfl ((by rfl : x4 + Int32.ofInt 1 = x4 + 1).trans hx25) (Nat.le_of_ble_eq_true rfl) rfl ?_
              refine ev_goto (tgt := 51) dX12_called_148 (by decide) ?_
              cases h
              replace hk := xel_l hk
              exact ev_sub [1, 2, 3, 0] rfl (hk)
        · show Ev E (xcm E d 0 0 QQ) Y_X12_called 151 [(0, .ref (E.2.2.2 + iM)), (1, .int p0), (3, .int x3)] [] (xσ q26 R) n 0 0
          refine ev_iconst (v := 0) dX12_called_151 (by decide) ?_
          refine xv_istore (L' := [(4, .int 0), (0, .ref (E.2.2.2 + iM)), (1, .int p0), (3, .int x3)]) rfl dX12_called_152 (Nat.le_of_ble_eq_true rfl) rfl ?_
          obtain ⟨q32, hq32, h⟩ := xbd_some h
          refine ev_sub (L' := [(0, .ref (E.2.2.2 + iM)), (1, .int p0), (3, .int x3), (4, .int 0)]) [1, 2, 3, 0] rfl ?_
          refine xloop_run (fun v => Ev E (xcm E d 0 0 QQ) Y_X12_called 154 [(0, .ref (E.2.2.2 + iM)), (1, .int p0), (3, .int x3), (4, .int v.1)] [] (xσ v.2 R) n 0 0) (fun v => Ev E (xcm E d 0 0 QQ) Y_X12_called 176 [(0, .ref (E.2.2.2 + iM)), (1, .int p0), (3, .int x3)] [] (xσ v R) n 0 0) ?_ _ _ _ hq32 ?_
          · rintro ⟨x27, μ28⟩ y29 h hk
            replace h : fX12_called_b154 x27 μ28 = some y29 := h
            show Ev E (xcm E d 0 0 QQ) Y_X12_called 154 [(0, .ref (E.2.2.2 + iM)), (1, .int p0), (3, .int x3), (4, .int x27)] [] (xσ μ28 R) n 0 0
            unfold fX12_called_b154 at h
            refine ev_iload 3 dX12_called_154 rfl ?_
            refine ev_sipush (v := 168) dX12_called_156 (by decide) ?_
            refine ev_icmp_ge (tgt := 176) dX12_called_159 (by decide) (fun c159 => ?_) (fun c159 => ?_)
            · replace h := xif_t c159 h
              cases h
              replace hk := xel_r hk
              exact ev_sub [0, 1, 2] rfl (hk)
            · replace h := xif_f c159 h
              refine ev_aload_n 0 dX12_called_162 rfl rfl ?_
              refine xv_getF (a := iM_isUsed) cl_12 lk_RX12_102 kd_61 (xl hF rfl) (fun _ => rfl) (fr_61_46 hF) dX12_called_163 ?_
              refine ev_iload 3 dX12_called_166 rfl ?_
              refine ev_iconst (v := 0) dX12_called_168 (by decide) ?_
              obtain ⟨μ30, hμ30, h⟩ := xbd_some h
              refine xv_zast kd_92 (xl hF rfl) hμ30 dX12_called_169 ?_
              obtain ⟨x31, hx31, h⟩ := xlt_some h
              refine ev_iinc (L' := [(4, .int x31), (0, .ref (E.2.2.2 + iM)), (1, .int p0), (3, .int x3)]) 3 dX12_called_170 rfl ((by rfl : x27 + Int32.ofInt 1 = x27 + 1).trans hx31) (Nat.le_of_ble_eq_true rfl) rfl ?_
              refine ev_goto (tgt := 154) dX12_called_173 (by decide) ?_
              cases h
              replace hk := xel_l hk
              exact ev_sub [1, 2, 3, 0] rfl (hk)
          · show Ev E (xcm E d 0 0 QQ) Y_X12_called 176 [(0, .ref (E.2.2.2 + iM)), (1, .int p0), (3, .int x3)] [] (xσ q32 R) n 0 0
            refine ev_lconst (v := 0) dX12_called_176 (by decide) ?_
            refine xv_lstore (L' := [(4, .long 0), (0, .ref (E.2.2.2 + iM)), (1, .int p0), (3, .int x3)]) rfl dX12_called_177 (Nat.le_of_ble_eq_true rfl) rfl ?_
            refine ev_aload_n 1 dX12_called_179 rfl rfl ?_
            refine ev_iload_n 2 dX12_called_180 rfl rfl ?_
            refine ev_iload_n 3 dX12_called_181 rfl rfl ?_
            obtain ⟨q33, hq33, h⟩ := xbd_some h
            refine ev_callV (ci := 12) (rest := []) 2 (kX12_dearest (E := E) (d := 0) (QQ := (fun v τ n' => v = some (.int q33) ∧ τ = xσ q32 R ∧ n = n')) (Nat.le_refl _) hF hq33 (⟨rfl, rfl, rfl⟩)) my_X12_dearest ⟨m_1693, m_1695, m_79⟩ cl_12 kd_61 (xl hF rfl) rfl rfl (Nat.le_of_ble_eq_true rfl) (Nat.le_trans (by decide) hd) (xlo (by decide) (Nat.le_trans (by decide) hd)) (Nat.zero_le _) (Nat.zero_le _) dX12_called_182 (fun v τ n' hv => ?_)
            obtain ⟨rfl, rfl, rfl⟩ := hv
            show Ev E (xcm E d 0 0 QQ) Y_X12_called 185 [(4, .long 0), (0, .ref (E.2.2.2 + iM)), (1, .int p0), (3, .int x3)] [.int q33] (xσ q32 R) n 0 0
            refine xv_istore (L' := [(6, .int q33), (4, .long 0), (0, .ref (E.2.2.2 + iM)), (1, .int p0), (3, .int x3)]) rfl dX12_called_185 (Nat.le_of_ble_eq_true rfl) rfl ?_
            obtain ⟨q59, hq59, h⟩ := xbd_some h
            refine ev_sub (L' := [(0, .ref (E.2.2.2 + iM)), (1, .int p0), (3, .int x3), (4, .long 0), (6, .int q33)]) [2, 3, 4, 1, 0] rfl ?_
            refine xloop_run (fun v => Ev E (xcm E d 0 0 QQ) Y_X12_called 187 [(0, .ref (E.2.2.2 + iM)), (1, .int p0), (3, .int x3), (4, .long v.1), (6, .int v.2.1)] [] (xσ v.2.2 R) n 0 0) (fun v => Ev E (xcm E d 0 0 QQ) Y_X12_called 347 [(4, .long v.1)] [] (xσ v.2 R) n 0 0) ?_ _ _ _ hq59 ?_
            · rintro ⟨x34, x35, μ36⟩ y37 h hk
              replace h : fX12_called_b187 x34 x35 μ36 p0 x3 = some y37 := h
              show Ev E (xcm E d 0 0 QQ) Y_X12_called 187 [(0, .ref (E.2.2.2 + iM)), (1, .int p0), (3, .int x3), (4, .long x34), (6, .int x35)] [] (xσ μ36 R) n 0 0
              unfold fX12_called_b187 at h
              refine ev_iload 4 dX12_called_187 rfl ?_
              refine ev_iconst (v := (-1)) dX12_called_189 (by decide) ?_
              refine ev_icmp_eq (tgt := 347) dX12_called_190 (by decide) (fun c190 => ?_) (fun c190 => ?_)
              · replace h := xif_t c190 h
                cases h
                replace hk := xel_r hk
                exact ev_sub [3] rfl (hk)
              · replace h := xif_f c190 h
                refine ev_aload_n 0 dX12_called_193 rfl rfl ?_
                refine xv_getF (a := iM_isUsed) cl_12 lk_RX12_102 kd_61 (xl hF rfl) (fun _ => rfl) (fr_61_46 hF) dX12_called_194 ?_
                refine ev_iload 4 dX12_called_197 rfl ?_
                refine ev_iconst (v := 1) dX12_called_199 (by decide) ?_
                obtain ⟨μ38, hμ38, h⟩ := xbd_some h
                refine xv_zast kd_92 (xl hF rfl) hμ38 dX12_called_200 ?_
                refine ev_iload 4 dX12_called_201 rfl ?_
                refine ev_bipush (v := 24) dX12_called_203 (by decide) ?_
                have j228 : ∀ (x39 : Int32), fX12_called_j228 x39 p0 x3 x34 x35 μ38 = some y37 → Ev E (xcm E d 0 0 QQ) Y_X12_called 228 [(0, .ref (E.2.2.2 + iM)), (1, .int p0), (3, .int x3), (4, .long x34), (6, .int x35)] [.int x39] (xσ μ38 R) n 0 0 := by
                  intro x39 h
                  unfold fX12_called_j228 at h
                  refine xv_istore (L' := [(7, .int x39), (0, .ref (E.2.2.2 + iM)), (1, .int p0), (3, .int x3), (4, .long x34), (6, .int x35)]) rfl dX12_called_228 (Nat.le_of_ble_eq_true rfl) rfl ?_
                  refine ev_iconst (v := 0) dX12_called_230 (by decide) ?_
                  refine xv_istore (L' := [(8, .int 0), (7, .int x39), (0, .ref (E.2.2.2 + iM)), (1, .int p0), (3, .int x3), (4, .long x34), (6, .int x35)]) rfl dX12_called_231 (Nat.le_of_ble_eq_true rfl) rfl ?_
                  obtain ⟨q47, hq47, h⟩ := xbd_some h
                  refine ev_sub (L' := [(0, .ref (E.2.2.2 + iM)), (1, .int p0), (3, .int x3), (4, .long x34), (6, .int x35), (7, .int x39), (8, .int 0)]) [2, 3, 4, 5, 6, 1, 0] rfl ?_
                  refine xloop_run (fun v => Ev E (xcm E d 0 0 QQ) Y_X12_called 233 [(0, .ref (E.2.2.2 + iM)), (1, .int p0), (3, .int x3), (4, .long x34), (6, .int x35), (7, .int v.1), (8, .int v.2)] [] (xσ μ38 R) n 0 0) (fun v => Ev E (xcm E d 0 0 QQ) Y_X12_called 275 [(0, .ref (E.2.2.2 + iM)), (1, .int p0), (3, .int x3), (4, .long x34), (6, .int x35), (7, .int v)] [] (xσ μ38 R) n 0 0) ?_ _ _ _ hq47 ?_
                  · rintro ⟨x40, x41⟩ y42 h hk
                    replace h : fX12_called_b233 x40 x41 x35 μ38 = some y42 := h
                    show Ev E (xcm E d 0 0 QQ) Y_X12_called 233 [(0, .ref (E.2.2.2 + iM)), (1, .int p0), (3, .int x3), (4, .long x34), (6, .int x35), (7, .int x40), (8, .int x41)] [] (xσ μ38 R) n 0 0
                    unfold fX12_called_b233 at h
                    refine ev_iload 6 dX12_called_233 rfl ?_
                    refine ev_iload 4 dX12_called_235 rfl ?_
                    refine ev_bipush (v := 24) dX12_called_237 (by decide) ?_
                    refine ev_idiv dX12_called_239 (by decide) ?_
                    refine ev_icmp_gt (tgt := 275) dX12_called_240 (by decide) (fun c240 => ?_) (fun c240 => ?_)
                    · replace h := xif_t c240 h
                      cases h
                      replace hk := xel_r hk
                      exact ev_sub [0, 1, 2, 3, 4, 5] rfl (hk)
                    · replace h := xif_f c240 h
                      refine ev_aload_n 0 dX12_called_243 rfl rfl ?_
                      refine xv_getF (a := iM_liveFrom) cl_12 lk_RX12_99 kd_61 (xl hF rfl) (fun _ => rfl) (fr_61_45 hF) dX12_called_244 ?_
                      refine ev_iload 6 dX12_called_247 rfl ?_
                      obtain ⟨v43, hv43, h⟩ := xbd_some h
                      refine xv_iald kd_91 (xl hF rfl) hv43 dX12_called_249 ?_
                      refine ev_iload 5 dX12_called_250 rfl ?_
                      refine ev_icmp_ge (tgt := 265) dX12_called_252 (by decide) (fun c252 => ?_) (fun c252 => ?_)
                      · replace h := xif_t c252 h
                        refine ev_iload 5 dX12_called_265 rfl ?_
                        refine xv_istore (L' := [(7, .int x40), (0, .ref (E.2.2.2 + iM)), (1, .int p0), (3, .int x3), (4, .long x34), (6, .int x35), (8, .int x41)]) rfl dX12_called_267 (Nat.le_of_ble_eq_true rfl) rfl ?_
                        obtain ⟨x44, hx44, h⟩ := xlt_some h
                        refine ev_iinc (L' := [(8, .int x44), (7, .int x40), (0, .ref (E.2.2.2 + iM)), (1, .int p0), (3, .int x3), (4, .long x34), (6, .int x35)]) 6 dX12_called_269 rfl ((by rfl : x41 + Int32.ofInt 1 = x41 + 1).trans hx44) (Nat.le_of_ble_eq_true rfl) rfl ?_
                        refine ev_goto (tgt := 233) dX12_called_272 (by decide) ?_
                        cases h
                        replace hk := xel_l hk
                        exact ev_sub [2, 3, 4, 5, 6, 1, 0] rfl (hk)
                      · replace h := xif_f c252 h
                        refine ev_aload_n 0 dX12_called_255 rfl rfl ?_
                        refine xv_getF (a := iM_liveFrom) cl_12 lk_RX12_99 kd_61 (xl hF rfl) (fun _ => rfl) (fr_61_45 hF) dX12_called_256 ?_
                        refine ev_iload 6 dX12_called_259 rfl ?_
                        obtain ⟨v45, hv45, h⟩ := xbd_some h
                        refine xv_iald kd_91 (xl hF rfl) hv45 dX12_called_261 ?_
                        refine ev_goto (tgt := 267) dX12_called_262 (by decide) ?_
                        refine xv_istore (L' := [(7, .int v45), (0, .ref (E.2.2.2 + iM)), (1, .int p0), (3, .int x3), (4, .long x34), (6, .int x35), (8, .int x41)]) rfl dX12_called_267 (Nat.le_of_ble_eq_true rfl) rfl ?_
                        obtain ⟨x46, hx46, h⟩ := xlt_some h
                        refine ev_iinc (L' := [(8, .int x46), (7, .int v45), (0, .ref (E.2.2.2 + iM)), (1, .int p0), (3, .int x3), (4, .long x34), (6, .int x35)]) 6 dX12_called_269 rfl ((by rfl : x41 + Int32.ofInt 1 = x41 + 1).trans hx46) (Nat.le_of_ble_eq_true rfl) rfl ?_
                        refine ev_goto (tgt := 233) dX12_called_272 (by decide) ?_
                        cases h
                        replace hk := xel_l hk
                        exact ev_sub [2, 3, 4, 5, 6, 1, 0] rfl (hk)
                  · show Ev E (xcm E d 0 0 QQ) Y_X12_called 275 [(0, .ref (E.2.2.2 + iM)), (1, .int p0), (3, .int x3), (4, .long x34), (6, .int x35), (7, .int q47)] [] (xσ μ38 R) n 0 0
                    refine ev_iconst (v := 0) dX12_called_275 (by decide) ?_
                    refine xv_istore (L' := [(8, .int 0), (0, .ref (E.2.2.2 + iM)), (1, .int p0), (3, .int x3), (4, .long x34), (6, .int x35), (7, .int q47)]) rfl dX12_called_276 (Nat.le_of_ble_eq_true rfl) rfl ?_
                    obtain ⟨q54, hq54, h⟩ := xbd_some h
                    refine ev_sub (L' := [(0, .ref (E.2.2.2 + iM)), (1, .int p0), (3, .int x3), (4, .long x34), (6, .int x35), (7, .int q47), (8, .int 0)]) [1, 2, 3, 4, 5, 6, 0] rfl ?_
                    refine xloop_run (fun v => Ev E (xcm E d 0 0 QQ) Y_X12_called 278 [(0, .ref (E.2.2.2 + iM)), (1, .int p0), (3, .int x3), (4, .long x34), (6, .int x35), (7, .int q47), (8, .int v.1)] [] (xσ v.2 R) n 0 0) (fun v => Ev E (xcm E d 0 0 QQ) Y_X12_called 311 [(0, .ref (E.2.2.2 + iM)), (1, .int p0), (3, .int x3), (4, .long x34), (6, .int x35), (7, .int q47)] [] (xσ v R) n 0 0) ?_ _ _ _ hq54 ?_
                    · rintro ⟨x48, μ49⟩ y50 h hk
                      replace h : fX12_called_b278 x48 μ49 x35 q47 = some y50 := h
                      show Ev E (xcm E d 0 0 QQ) Y_X12_called 278 [(0, .ref (E.2.2.2 + iM)), (1, .int p0), (3, .int x3), (4, .long x34), (6, .int x35), (7, .int q47), (8, .int x48)] [] (xσ μ49 R) n 0 0
                      unfold fX12_called_b278 at h
                      refine ev_iload 6 dX12_called_278 rfl ?_
                      refine ev_iload 4 dX12_called_280 rfl ?_
                      refine ev_bipush (v := 24) dX12_called_282 (by decide) ?_
                      refine ev_idiv dX12_called_284 (by decide) ?_
                      refine ev_icmp_gt (tgt := 311) dX12_called_285 (by decide) (fun c285 => ?_) (fun c285 => ?_)
                      · replace h := xif_t c285 h
                        cases h
                        replace hk := xel_r hk
                        exact ev_sub [0, 1, 2, 3, 4, 5] rfl (hk)
                      · replace h := xif_f c285 h
                        refine ev_aload_n 0 dX12_called_288 rfl rfl ?_
                        refine xv_getF (a := iM_liveFrom) cl_12 lk_RX12_99 kd_61 (xl hF rfl) (fun _ => rfl) (fr_61_45 hF) dX12_called_289 ?_
                        refine ev_iload 6 dX12_called_292 rfl ?_
                        refine ev_aload_n 0 dX12_called_294 rfl rfl ?_
                        refine xv_getF (a := iM_liveFrom) cl_12 lk_RX12_99 kd_61 (xl hF rfl) (fun _ => rfl) (fr_61_45 hF) dX12_called_295 ?_
                        refine ev_iload 6 dX12_called_298 rfl ?_
                        obtain ⟨v51, hv51, h⟩ := xbd_some h
                        refine xv_iald kd_91 (xl hF rfl) hv51 dX12_called_300 ?_
                        refine ev_iload 5 dX12_called_301 rfl ?_
                        refine ev_isub dX12_called_303 ?_
                        obtain ⟨μ52, hμ52, h⟩ := xbd_some h
                        refine xv_iast kd_91 (xl hF rfl) hμ52 dX12_called_304 ?_
                        obtain ⟨x53, hx53, h⟩ := xlt_some h
                        refine ev_iinc (L' := [(8, .int x53), (0, .ref (E.2.2.2 + iM)), (1, .int p0), (3, .int x3), (4, .long x34), (6, .int x35), (7, .int q47)]) 6 dX12_called_305 rfl ((by rfl : x48 + Int32.ofInt 1 = x48 + 1).trans hx53) (Nat.le_of_ble_eq_true rfl) rfl ?_
                        refine ev_goto (tgt := 278) dX12_called_308 (by decide) ?_
                        cases h
                        replace hk := xel_l hk
                        exact ev_sub [1, 2, 3, 4, 5, 6, 0] rfl (hk)
                    · show Ev E (xcm E d 0 0 QQ) Y_X12_called 311 [(0, .ref (E.2.2.2 + iM)), (1, .int p0), (3, .int x3), (4, .long x34), (6, .int x35), (7, .int q47)] [] (xσ q54 R) n 0 0
                      refine ev_lload 3 dX12_called_311 rfl ?_
                      refine ev_iload 5 dX12_called_313 rfl ?_
                      refine ev_i2l dX12_called_315 ?_
                      refine ev_aload_n 0 dX12_called_316 rfl rfl ?_
                      refine xv_getF (a := iM_worthOf) cl_12 lk_RX12_7 kd_61 (xl hF rfl) (fun _ => rfl) (fr_61_4 hF) dX12_called_317 ?_
                      refine ev_bipush (v := 24) dX12_called_320 (by decide) ?_
                      refine ev_iload_n 1 dX12_called_322 rfl rfl ?_
                      refine ev_imul dX12_called_323 ?_
                      refine ev_iload 4 dX12_called_324 rfl ?_
                      refine ev_bipush (v := 24) dX12_called_326 (by decide) ?_
                      refine ev_irem dX12_called_328 (by decide) ?_
                      refine ev_iadd dX12_called_329 ?_
                      obtain ⟨v55, hv55, h⟩ := xbd_some h
                      refine xv_iald kd_62 (xl hF rfl) hv55 dX12_called_330 ?_
                      refine ev_i2l dX12_called_331 ?_
                      refine ev_lmul dX12_called_332 ?_
                      refine ev_ladd dX12_called_333 ?_
                      obtain ⟨x56, hx56, h⟩ := xlt_some h
                      refine xv_lstore (L' := [(4, .long x56), (0, .ref (E.2.2.2 + iM)), (1, .int p0), (3, .int x3), (6, .int x35), (7, .int q47)]) hx56 dX12_called_334 (Nat.le_of_ble_eq_true rfl) rfl ?_
                      refine ev_aload_n 1 dX12_called_336 rfl rfl ?_
                      refine ev_iload_n 2 dX12_called_337 rfl rfl ?_
                      refine ev_iload_n 3 dX12_called_338 rfl rfl ?_
                      obtain ⟨q57, hq57, h⟩ := xbd_some h
                      refine ev_callV (ci := 12) (rest := []) 2 (kX12_dearest (E := E) (d := 0) (QQ := (fun v τ n' => v = some (.int q57) ∧ τ = xσ q54 R ∧ n = n')) (Nat.le_refl _) hF hq57 (⟨rfl, rfl, rfl⟩)) my_X12_dearest ⟨m_1693, m_1695, m_79⟩ cl_12 kd_61 (xl hF rfl) rfl rfl (Nat.le_of_ble_eq_true rfl) (Nat.le_trans (by decide) hd) (xlo (by decide) (Nat.le_trans (by decide) hd)) (Nat.zero_le _) (Nat.zero_le _) dX12_called_339 (fun v τ n' hv => ?_)
                      obtain ⟨rfl, rfl, rfl⟩ := hv
                      show Ev E (xcm E d 0 0 QQ) Y_X12_called 342 [(4, .long x56), (0, .ref (E.2.2.2 + iM)), (1, .int p0), (3, .int x3), (6, .int x35), (7, .int q47)] [.int q57] (xσ q54 R) n 0 0
                      refine xv_istore (L' := [(6, .int q57), (4, .long x56), (0, .ref (E.2.2.2 + iM)), (1, .int p0), (3, .int x3), (7, .int q47)]) rfl dX12_called_342 (Nat.le_of_ble_eq_true rfl) rfl ?_
                      refine ev_goto (tgt := 187) dX12_called_344 (by decide) ?_
                      cases h
                      replace hk := xel_l hk
                      exact ev_sub [2, 3, 4, 1, 0] rfl (hk)
                refine ev_icmp_ge (tgt := 226) dX12_called_205 (by decide) (fun c205 => ?_) (fun c205 => ?_)
                · replace h := xif_t c205 h
                  refine ev_bipush (v := 60) dX12_called_226 (by decide) ?_
                  exact ev_sub [0, 1, 2, 3, 4] rfl (j228 _ h)
                · replace h := xif_f c205 h
                  refine ev_bipush (v := 60) dX12_called_208 (by decide) ?_
                  refine ev_aload_n 0 dX12_called_210 rfl rfl ?_
                  refine xv_getF (a := iM_tookIn) cl_12 lk_RX12_93 kd_61 (xl hF rfl) (fun _ => rfl) (fr_61_43 hF) dX12_called_211 ?_
                  refine ev_bipush (v := 24) dX12_called_214 (by decide) ?_
                  refine ev_iload_n 1 dX12_called_216 rfl rfl ?_
                  refine ev_imul dX12_called_217 ?_
                  refine ev_iload 4 dX12_called_218 rfl ?_
                  refine ev_iadd dX12_called_220 ?_
                  obtain ⟨v58, hv58, h⟩ := xbd_some h
                  refine xv_iald kd_89 (xl hF rfl) hv58 dX12_called_221 ?_
                  refine ev_isub dX12_called_222 ?_
                  refine ev_goto (tgt := 228) dX12_called_223 (by decide) ?_
                  exact ev_sub [0, 1, 2, 3, 4] rfl (j228 _ h)
            · show Ev E (xcm E d 0 0 QQ) Y_X12_called 347 [(4, .long q59.1)] [] (xσ q59.2 R) n 0 0
              refine ev_lload 0 dX12_called_347 rfl ?_
              cases h
              exact ev_lret rfl (hQ) dX12_called_349 (Nat.zero_le _) (Nat.zero_le _)
      refine ev_icmp_le (tgt := 44) dX12_called_29 (by decide) (fun c29 => ?_) (fun c29 => ?_)
      · replace h := xif_t c29 h
        refine ev_iload_n 2 dX12_called_44 rfl rfl ?_
        refine ev_iconst (v := 1) dX12_called_45 (by decide) ?_
        refine ev_iadd dX12_called_46 ?_
        exact ev_sub [0, 1] rfl (j47 _ h)
      · replace h := xif_f c29 h
        refine ev_bipush (v := 99) dX12_called_32 (by decide) ?_
        refine ev_aload_n 0 dX12_called_34 rfl rfl ?_
        refine xv_getI cl_12 lk_RX12_165 kd_61 (xl hF rfl) (fun _ => rfl) dX12_called_35 ?_
        refine ev_isub dX12_called_38 ?_
        refine ev_iconst (v := 1) dX12_called_39 (by decide) ?_
        refine ev_iadd dX12_called_40 ?_
        refine ev_goto (tgt := 47) dX12_called_41 (by decide) ?_
        exact ev_sub [0, 1] rfl (j47 _ h)
    · replace h := xif_t c14 h
      refine ev_ldc2 (v := (-1)) m_1692 dX12_called_17 ?_
      cases h
      exact ev_lret rfl (hQ) dX12_called_20 (Nat.zero_le _) (Nat.zero_le _)
def fX12_came (p0 : Int32) (p1 : Int32) (p2 : Int32) (μ : xm) : Option (Int32 × xm) := xbd (fX12_isOf p0 p1 μ) fun q1 => if q1 = 0 then (some (0, μ)) else (xbd (fX12_in p2 0 1439) fun q2 => if q2 = 0 then (some (0, μ)) else (xbd (xgI μ iM_isSettled 24 p0) fun v3 => if v3 = 0 then (xbd (xsI μ iM_cameAt 192 ((8 * p0) + p1) p2) fun μ4 => some (1, μ4)) else (some (0, μ))))
set_option maxHeartbeats 4000000 in
set_option maxRecDepth 100000 in
theorem kX12_came {E : xE} {d : Nat} {QQ : xP} (hd : 2 ≤ d) {p0 : Int32} {p1 : Int32} {p2 : Int32} {μ : xm} {R : xr} {n : Nat} (hF : xFin R n)  {res : Int32 × xm} (h : fX12_came p0 p1 p2 μ = some res) (hQ : QQ (some (.int res.1)) (xσ res.2 R) n) : xCon E d Y_X12_came 0 0 [.ref (E.2.2.2 + iM), .int p0, .int p1, .int p2] (xσ μ R) n QQ := by
  refine xCon_of pn_RX12 (Nat.le_of_ble_eq_true rfl) (L0 := [(0, .ref (E.2.2.2 + iM)), (1, .int p0), (2, .int p1), (3, .int p2)]) rfl ?_
  unfold fX12_came at h
  refine ev_aload_n 0 dX12_came_0 rfl rfl ?_
  refine ev_iload_n 1 dX12_came_1 rfl rfl ?_
  refine ev_iload_n 2 dX12_came_2 rfl rfl ?_
  obtain ⟨q1, hq1, h⟩ := xbd_some h
  refine ev_callV (ci := 12) (rest := []) 2 (kX12_isOf (E := E) (d := 1) (QQ := (fun v τ n' => v = some (.int q1) ∧ τ = xσ μ R ∧ n = n')) (Nat.le_refl _) hF hq1 (⟨rfl, rfl, rfl⟩)) my_X12_isOf ⟨m_1470, m_1472, m_40⟩ cl_12 kd_61 (xl hF rfl) rfl rfl (Nat.le_of_ble_eq_true rfl) (Nat.le_trans (by decide) hd) (xlo (by decide) (Nat.le_trans (by decide) hd)) (Nat.zero_le _) (Nat.zero_le _) dX12_came_3 (fun v τ n' hv => ?_)
  obtain ⟨rfl, rfl, rfl⟩ := hv
  show Ev E (xcm E d 0 0 QQ) Y_X12_came 6 [(0, .ref (E.2.2.2 + iM)), (1, .int p0), (2, .int p1), (3, .int p2)] [.int q1] (xσ μ R) n 0 0
  refine ev_if_eq (tgt := 29) dX12_came_6 (by decide) (fun c6 => ?_) (fun c6 => ?_)
  · replace h := xif_t c6 h
    refine ev_iconst (v := 0) dX12_came_29 (by decide) ?_
    cases h
    exact ev_zret rfl (Or.inl rfl) (hQ) dX12_came_30 (Nat.zero_le _) (Nat.zero_le _)
  · replace h := xif_f c6 h
    refine ev_iload_n 3 dX12_came_9 rfl rfl ?_
    refine ev_iconst (v := 0) dX12_came_10 (by decide) ?_
    refine ev_sipush (v := 1439) dX12_came_11 (by decide) ?_
    obtain ⟨q2, hq2, h⟩ := xbd_some h
    refine ev_callS (As := [.int p2, .int 0, .int 1439]) (rest := []) 3 (kX12_in (E := E) (d := 0) (QQ := (fun v τ n' => v = some (.int q2) ∧ τ = xσ μ R ∧ n = n')) (Nat.le_refl _)  hq2 (⟨rfl, rfl, rfl⟩)) my_X12_in ⟨m_1449, m_1450⟩ rfl rfl (Nat.le_of_ble_eq_true rfl) (Nat.le_trans (by decide) hd) (xlo (by decide) (Nat.le_trans (by decide) hd)) (Nat.zero_le _) (Nat.zero_le _) dX12_came_14 (fun v τ n' hv => ?_)
    obtain ⟨rfl, rfl, rfl⟩ := hv
    show Ev E (xcm E d 0 0 QQ) Y_X12_came 17 [(0, .ref (E.2.2.2 + iM)), (1, .int p0), (2, .int p1), (3, .int p2)] [.int q2] (xσ μ R) n 0 0
    refine ev_if_eq (tgt := 29) dX12_came_17 (by decide) (fun c17 => ?_) (fun c17 => ?_)
    · replace h := xif_t c17 h
      refine ev_iconst (v := 0) dX12_came_29 (by decide) ?_
      cases h
      exact ev_zret rfl (Or.inl rfl) (hQ) dX12_came_30 (Nat.zero_le _) (Nat.zero_le _)
    · replace h := xif_f c17 h
      refine ev_aload_n 0 dX12_came_20 rfl rfl ?_
      refine xv_getF (a := iM_isSettled) cl_12 lk_RX12_25 kd_61 (xl hF rfl) (fun _ => rfl) (fr_61_9 hF) dX12_came_21 ?_
      refine ev_iload_n 1 dX12_came_24 rfl rfl ?_
      obtain ⟨v3, hv3, h⟩ := xbd_some h
      refine xv_zald kd_67 (xl hF rfl) hv3 dX12_came_25 ?_
      refine ev_if_eq (tgt := 31) dX12_came_26 (by decide) (fun c26 => ?_) (fun c26 => ?_)
      · replace h := xif_t c26 h
        refine ev_aload_n 0 dX12_came_31 rfl rfl ?_
        refine xv_getF (a := iM_cameAt) cl_12 lk_RX12_22 kd_61 (xl hF rfl) (fun _ => rfl) (fr_61_8 hF) dX12_came_32 ?_
        refine ev_bipush (v := 8) dX12_came_35 (by decide) ?_
        refine ev_iload_n 1 dX12_came_37 rfl rfl ?_
        refine ev_imul dX12_came_38 ?_
        refine ev_iload_n 2 dX12_came_39 rfl rfl ?_
        refine ev_iadd dX12_came_40 ?_
        refine ev_iload_n 3 dX12_came_41 rfl rfl ?_
        obtain ⟨μ4, hμ4, h⟩ := xbd_some h
        refine xv_iast kd_66 (xl hF rfl) hμ4 dX12_came_42 ?_
        refine ev_iconst (v := 1) dX12_came_43 (by decide) ?_
        cases h
        exact ev_zret rfl (Or.inr rfl) (hQ) dX12_came_44 (Nat.zero_le _) (Nat.zero_le _)
      · replace h := xif_f c26 h
        refine ev_iconst (v := 0) dX12_came_29 (by decide) ?_
        cases h
        exact ev_zret rfl (Or.inl rfl) (hQ) dX12_came_30 (Nat.zero_le _) (Nat.zero_le _)
def fX12_check_b58 (x6 : Int32) (μ1 : xm) (x2 : Int32) (x3 : Int32) : Option ((Int32) ⊕ ((Unit) ⊕ (Int32 × xm))) := if 4 ≤ x6 then (some (.inr (.inl ()))) else (xbd (fX12_tapeNumber (x2 + x6) μ1) fun q8 => xbd (fX12_noteNumber x3 x6 μ1) fun q9 => if q8 = q9 then (xlt (x6 + 1) fun x10 => some (.inl x10)) else (some (.inr (.inr (x2 + x6, μ1)))))
def fX12_check_b27 (x2 : Int32) (x3 : Int32) (p0 : Int32) (μ1 : xm) : Option ((Int32 × Int32) ⊕ ((Int32) ⊕ (Int32 × xm))) := if (μ1.1 iM 37) ≤ x3 then (some (.inr (.inl x2))) else (xbd (fX12_isLive x3 μ1) fun q5 => if q5 = 0 then (xlt (x3 + 1) fun x16 => some (.inl (x2, x16))) else (if x2 = (4 * p0) then (some (.inr (.inr (x2, μ1)))) else (xbd (xloop xfu (fun v => fX12_check_b58 v μ1 x2 x3) 0) fun q11 => xsm q11 (fun q12 => xlt (x2 + 4) fun x14 => xlt (x3 + 1) fun x15 => some (.inl (x14, x15))) (fun q13 => some (.inr (.inr q13))))))
def fX12_check (p0 : Int32) (μ : xm) : Option (Int32 × xm) := if p0 < 0 then (some ((-2), μ)) else (if p0 ≤ ((μ.1 iM 11) / 16) then (xlt (xpI μ iM 11 0) fun μ1 => xbd (xloop xfu (fun v => fX12_check_b27 v.1 v.2 p0 μ1) (0, 0)) fun q17 => xsm q17 (fun q18 => if (4 * p0) ≤ q18 then (some ((-1), μ1)) else (some (q18, μ1))) (fun q19 => some q19)) else (some ((-2), μ)))
set_option maxHeartbeats 4000000 in
set_option maxRecDepth 100000 in
theorem kX12_check {E : xE} {d : Nat} {QQ : xP} (hd : 2 ≤ d) {p0 : Int32} {μ : xm} {R : xr} {n : Nat} (hF : xFin R n)  {res : Int32 × xm} (h : fX12_check p0 μ = some res) (hQ : QQ (some (.int res.1)) (xσ res.2 R) n) : xCon E d Y_X12_check 0 0 [.ref (E.2.2.2 + iM), .int p0] (xσ μ R) n QQ := by
  refine xCon_of pn_RX12 (Nat.le_of_ble_eq_true rfl) (L0 := [(0, .ref (E.2.2.2 + iM)), (1, .int p0)]) rfl ?_
  unfold fX12_check at h
  refine ev_iload_n 1 dX12_check_0 rfl rfl ?_
  refine ev_if_lt (tgt := 15) dX12_check_1 (by decide) (fun c1 => ?_) (fun c1 => ?_)
  · replace h := xif_t c1 h
    refine ev_bipush (v := (-2)) dX12_check_15 (by decide) ?_
    cases h
    exact ev_iret rfl (hQ) dX12_check_17 (Nat.zero_le _) (Nat.zero_le _)
  · replace h := xif_f c1 h
    refine ev_iload_n 1 dX12_check_4 rfl rfl ?_
    refine ev_aload_n 0 dX12_check_5 rfl rfl ?_
    refine xv_getI cl_12 lk_RX12_203 kd_61 (xl hF rfl) (fun _ => rfl) dX12_check_6 ?_
    refine ev_bipush (v := 16) dX12_check_9 (by decide) ?_
    refine ev_idiv dX12_check_11 (by decide) ?_
    refine ev_icmp_le (tgt := 18) dX12_check_12 (by decide) (fun c12 => ?_) (fun c12 => ?_)
    · replace h := xif_t c12 h
      refine ev_aload_n 0 dX12_check_18 rfl rfl ?_
      refine ev_iconst (v := 0) dX12_check_19 (by decide) ?_
      obtain ⟨μ1, hμ1, h⟩ := xlt_some h
      refine xv_putI cl_12 lk_RX12_203 rfl kd_61 (xl hF rfl) rfl rfl (fun _ => rfl) hμ1 dX12_check_20 ?_
      refine ev_iconst (v := 0) dX12_check_23 (by decide) ?_
      refine xv_istore_n (L' := [(2, .int 0), (0, .ref (E.2.2.2 + iM)), (1, .int p0)]) rfl dX12_check_24 rfl (Nat.le_of_ble_eq_true rfl) rfl ?_
      refine ev_iconst (v := 0) dX12_check_25 (by decide) ?_
      refine xv_istore_n (L' := [(3, .int 0), (2, .int 0), (0, .ref (E.2.2.2 + iM)), (1, .int p0)]) rfl dX12_check_26 rfl (Nat.le_of_ble_eq_true rfl) rfl ?_
      obtain ⟨q17, hq17, h⟩ := xbd_some h
      refine ev_sub (L' := [(0, .ref (E.2.2.2 + iM)), (1, .int p0), (2, .int 0), (3, .int 0)]) [2, 3, 1, 0] rfl ?_
      refine xloop_run (fun v => Ev E (xcm E d 0 0 QQ) Y_X12_check 27 [(0, .ref (E.2.2.2 + iM)), (1, .int p0), (2, .int v.1), (3, .int v.2)] [] (xσ μ1 R) n 0 0) (xel (fun v => Ev E (xcm E d 0 0 QQ) Y_X12_check 103 [(1, .int p0), (2, .int v)] [] (xσ μ1 R) n 0 0) (fun v => QQ (some (.int v.1)) (xσ v.2 R) n)) ?_ _ _ _ hq17 ?_
      · rintro ⟨x2, x3⟩ y4 h hk
        replace h : fX12_check_b27 x2 x3 p0 μ1 = some y4 := h
        show Ev E (xcm E d 0 0 QQ) Y_X12_check 27 [(0, .ref (E.2.2.2 + iM)), (1, .int p0), (2, .int x2), (3, .int x3)] [] (xσ μ1 R) n 0 0
        unfold fX12_check_b27 at h
        refine ev_iload_n 3 dX12_check_27 rfl rfl ?_
        refine ev_aload_n 0 dX12_check_28 rfl rfl ?_
        refine xv_getI cl_12 lk_RX12_328 kd_61 (xl hF rfl) (fun _ => rfl) dX12_check_29 ?_
        refine ev_icmp_ge (tgt := 103) dX12_check_32 (by decide) (fun c32 => ?_) (fun c32 => ?_)
        · replace h := xif_t c32 h
          cases h
          replace hk := xel_r hk
          replace hk := xel_l hk
          exact ev_sub [1, 2] rfl (hk)
        · replace h := xif_f c32 h
          refine ev_aload_n 0 dX12_check_35 rfl rfl ?_
          refine ev_iload_n 3 dX12_check_36 rfl rfl ?_
          obtain ⟨q5, hq5, h⟩ := xbd_some h
          refine ev_callV (ci := 12) (rest := []) 1 (kX12_isLive (E := E) (d := 1) (QQ := (fun v τ n' => v = some (.int q5) ∧ τ = xσ μ1 R ∧ n = n')) (Nat.le_refl _) hF hq5 (⟨rfl, rfl, rfl⟩)) my_X12_isLive ⟨m_1664, m_1666, m_77⟩ cl_12 kd_61 (xl hF rfl) rfl rfl (Nat.le_of_ble_eq_true rfl) (Nat.le_trans (by decide) hd) (xlo (by decide) (Nat.le_trans (by decide) hd)) (Nat.zero_le _) (Nat.zero_le _) dX12_check_37 (fun v τ n' hv => ?_)
          obtain ⟨rfl, rfl, rfl⟩ := hv
          show Ev E (xcm E d 0 0 QQ) Y_X12_check 40 [(0, .ref (E.2.2.2 + iM)), (1, .int p0), (2, .int x2), (3, .int x3)] [.int q5] (xσ μ1 R) n 0 0
          refine ev_if_ne (tgt := 46) dX12_check_40 (by decide) (fun c40 => ?_) (fun c40 => ?_)
          · replace h := xif_f c40 h
            refine ev_iload_n 2 dX12_check_46 rfl rfl ?_
            refine ev_iconst (v := 4) dX12_check_47 (by decide) ?_
            refine ev_iload_n 1 dX12_check_48 rfl rfl ?_
            refine ev_imul dX12_check_49 ?_
            refine ev_icmp_ne (tgt := 55) dX12_check_50 (by decide) (fun c50 => ?_) (fun c50 => ?_)
            · replace h := xif_f c50 h
              refine ev_iconst (v := 0) dX12_check_55 (by decide) ?_
              refine xv_istore (L' := [(4, .int 0), (0, .ref (E.2.2.2 + iM)), (1, .int p0), (2, .int x2), (3, .int x3)]) rfl dX12_check_56 (Nat.le_of_ble_eq_true rfl) rfl ?_
              obtain ⟨q11, hq11, h⟩ := xbd_some h
              refine ev_sub (L' := [(0, .ref (E.2.2.2 + iM)), (1, .int p0), (2, .int x2), (3, .int x3), (4, .int 0)]) [1, 2, 3, 4, 0] rfl ?_
              refine xloop_run (fun v => Ev E (xcm E d 0 0 QQ) Y_X12_check 58 [(0, .ref (E.2.2.2 + iM)), (1, .int p0), (2, .int x2), (3, .int x3), (4, .int v)] [] (xσ μ1 R) n 0 0) (xel (fun v => Ev E (xcm E d 0 0 QQ) Y_X12_check 93 [(0, .ref (E.2.2.2 + iM)), (1, .int p0), (2, .int x2), (3, .int x3)] [] (xσ μ1 R) n 0 0) (fun v => QQ (some (.int v.1)) (xσ v.2 R) n)) ?_ _ _ _ hq11 ?_
              · rintro x6 y7 h hk
                replace h : fX12_check_b58 x6 μ1 x2 x3 = some y7 := h
                show Ev E (xcm E d 0 0 QQ) Y_X12_check 58 [(0, .ref (E.2.2.2 + iM)), (1, .int p0), (2, .int x2), (3, .int x3), (4, .int x6)] [] (xσ μ1 R) n 0 0
                unfold fX12_check_b58 at h
                refine ev_iload 4 dX12_check_58 rfl ?_
                refine ev_iconst (v := 4) dX12_check_60 (by decide) ?_
                refine ev_icmp_ge (tgt := 93) dX12_check_61 (by decide) (fun c61 => ?_) (fun c61 => ?_)
                · replace h := xif_t c61 h
                  cases h
                  replace hk := xel_r hk
                  replace hk := xel_l hk
                  exact ev_sub [0, 1, 2, 3] rfl (hk)
                · replace h := xif_f c61 h
                  refine ev_aload_n 0 dX12_check_64 rfl rfl ?_
                  refine ev_iload_n 2 dX12_check_65 rfl rfl ?_
                  refine ev_iload 4 dX12_check_66 rfl ?_
                  refine ev_iadd dX12_check_68 ?_
                  obtain ⟨q8, hq8, h⟩ := xbd_some h
                  refine ev_callV (ci := 12) (rest := []) 1 (kX12_tapeNumber (E := E) (d := 0) (QQ := (fun v τ n' => v = some (.int q8) ∧ τ = xσ μ1 R ∧ n = n')) (Nat.le_refl _) hF hq8 (⟨rfl, rfl, rfl⟩)) my_X12_tapeNumber ⟨m_1871, m_1873, m_106⟩ cl_12 kd_61 (xl hF rfl) rfl rfl (Nat.le_of_ble_eq_true rfl) (Nat.le_trans (by decide) hd) (xlo (by decide) (Nat.le_trans (by decide) hd)) (Nat.zero_le _) (Nat.zero_le _) dX12_check_69 (fun v τ n' hv => ?_)
                  obtain ⟨rfl, rfl, rfl⟩ := hv
                  show Ev E (xcm E d 0 0 QQ) Y_X12_check 72 [(0, .ref (E.2.2.2 + iM)), (1, .int p0), (2, .int x2), (3, .int x3), (4, .int x6)] [.int q8] (xσ μ1 R) n 0 0
                  refine ev_aload_n 0 dX12_check_72 rfl rfl ?_
                  refine ev_iload_n 3 dX12_check_73 rfl rfl ?_
                  refine ev_iload 4 dX12_check_74 rfl ?_
                  obtain ⟨q9, hq9, h⟩ := xbd_some h
                  refine ev_callV (ci := 12) (rest := [.int q8]) 2 (kX12_noteNumber (E := E) (d := 0) (QQ := (fun v τ n' => v = some (.int q9) ∧ τ = xσ μ1 R ∧ n = n')) (Nat.le_refl _) hF hq9 (⟨rfl, rfl, rfl⟩)) my_X12_noteNumber ⟨m_1875, m_1877, m_107⟩ cl_12 kd_61 (xl hF rfl) rfl rfl (Nat.le_of_ble_eq_true rfl) (Nat.le_trans (by decide) hd) (xlo (by decide) (Nat.le_trans (by decide) hd)) (Nat.zero_le _) (Nat.zero_le _) dX12_check_76 (fun v τ n' hv => ?_)
                  obtain ⟨rfl, rfl, rfl⟩ := hv
                  show Ev E (xcm E d 0 0 QQ) Y_X12_check 79 [(0, .ref (E.2.2.2 + iM)), (1, .int p0), (2, .int x2), (3, .int x3), (4, .int x6)] [.int q9, .int q8] (xσ μ1 R) n 0 0
                  refine ev_icmp_eq (tgt := 87) dX12_check_79 (by decide) (fun c79 => ?_) (fun c79 => ?_)
                  · replace h := xif_t c79 h
                    obtain ⟨x10, hx10, h⟩ := xlt_some h
                    refine ev_iinc (L' := [(4, .int x10), (0, .ref (E.2.2.2 + iM)), (1, .int p0), (2, .int x2), (3, .int x3)]) 4 dX12_check_87 rfl ((by rfl : x6 + Int32.ofInt 1 = x6 + 1).trans hx10) (Nat.le_of_ble_eq_true rfl) rfl ?_
                    refine ev_goto (tgt := 58) dX12_check_90 (by decide) ?_
                    cases h
                    replace hk := xel_l hk
                    exact ev_sub [1, 2, 3, 4, 0] rfl (hk)
                  · replace h := xif_f c79 h
                    refine ev_iload_n 2 dX12_check_82 rfl rfl ?_
                    refine ev_iload 4 dX12_check_83 rfl ?_
                    refine ev_iadd dX12_check_85 ?_
                    cases h
                    replace hk := xel_r hk
                    replace hk := xel_r hk
                    exact ev_iret rfl (hk) dX12_check_86 (Nat.zero_le _) (Nat.zero_le _)
              · rcases q11 with q12 | q13
                · replace h := xsm_l h
                  show Ev E (xcm E d 0 0 QQ) Y_X12_check 93 [(0, .ref (E.2.2.2 + iM)), (1, .int p0), (2, .int x2), (3, .int x3)] [] (xσ μ1 R) n 0 0
                  refine ev_iload_n 2 dX12_check_93 rfl rfl ?_
                  refine ev_iconst (v := 4) dX12_check_94 (by decide) ?_
                  refine ev_iadd dX12_check_95 ?_
                  obtain ⟨x14, hx14, h⟩ := xlt_some h
                  refine xv_istore_n (L' := [(2, .int x14), (0, .ref (E.2.2.2 + iM)), (1, .int p0), (3, .int x3)]) hx14 dX12_check_96 rfl (Nat.le_of_ble_eq_true rfl) rfl ?_
                  obtain ⟨x15, hx15, h⟩ := xlt_some h
                  refine ev_iinc (L' := [(3, .int x15), (2, .int x14), (0, .ref (E.2.2.2 + iM)), (1, .int p0)]) 3 dX12_check_97 rfl ((by rfl : x3 + Int32.ofInt 1 = x3 + 1).trans hx15) (Nat.le_of_ble_eq_true rfl) rfl ?_
                  refine ev_goto (tgt := 27) dX12_check_100 (by decide) ?_
                  cases h
                  replace hk := xel_l hk
                  exact ev_sub [2, 3, 1, 0] rfl (hk)
                · replace h := xsm_r h
                  cases h
                  replace hk := xel_r hk
                  replace hk := xel_r hk
                  exact hk
            · replace h := xif_t c50 h
              refine ev_iload_n 2 dX12_check_53 rfl rfl ?_
              cases h
              replace hk := xel_r hk
              replace hk := xel_r hk
              exact ev_iret rfl (hk) dX12_check_54 (Nat.zero_le _) (Nat.zero_le _)
          · replace h := xif_t c40 h
            refine ev_goto (tgt := 97) dX12_check_43 (by decide) ?_
            obtain ⟨x16, hx16, h⟩ := xlt_some h
            refine ev_iinc (L' := [(3, .int x16), (0, .ref (E.2.2.2 + iM)), (1, .int p0), (2, .int x2)]) 3 dX12_check_97 rfl ((by rfl : x3 + Int32.ofInt 1 = x3 + 1).trans hx16) (Nat.le_of_ble_eq_true rfl) rfl ?_
            refine ev_goto (tgt := 27) dX12_check_100 (by decide) ?_
            cases h
            replace hk := xel_l hk
            exact ev_sub [1, 2, 3, 0] rfl (hk)
      · rcases q17 with q18 | q19
        · replace h := xsm_l h
          show Ev E (xcm E d 0 0 QQ) Y_X12_check 103 [(1, .int p0), (2, .int q18)] [] (xσ μ1 R) n 0 0
          refine ev_iload_n 1 dX12_check_103 rfl rfl ?_
          refine ev_iconst (v := 4) dX12_check_104 (by decide) ?_
          refine ev_iload_n 0 dX12_check_105 rfl rfl ?_
          refine ev_imul dX12_check_106 ?_
          refine ev_icmp_ge (tgt := 114) dX12_check_107 (by decide) (fun c107 => ?_) (fun c107 => ?_)
          · replace h := xif_t c107 h
            refine ev_iconst (v := (-1)) dX12_check_114 (by decide) ?_
            cases h
            exact ev_iret rfl (hQ) dX12_check_115 (Nat.zero_le _) (Nat.zero_le _)
          · replace h := xif_f c107 h
            refine ev_iload_n 1 dX12_check_110 rfl rfl ?_
            refine ev_goto (tgt := 115) dX12_check_111 (by decide) ?_
            cases h
            exact ev_iret rfl (hQ) dX12_check_115 (Nat.zero_le _) (Nat.zero_le _)
        · replace h := xsm_r h
          cases h
          exact hQ
    · replace h := xif_f c12 h
      refine ev_bipush (v := (-2)) dX12_check_15 (by decide) ?_
      cases h
      exact ev_iret rfl (hQ) dX12_check_17 (Nat.zero_le _) (Nat.zero_le _)
def fX12_costWith_b6 (x1 : Int64) (x2 : Int32) (p0 : Int32) (p1 : Int32) (p2 : Int32) (p3 : Int32) (p4 : Int32) (μ : xm) : Option ((Int64 × Int32) ⊕ (Int64)) := xbd (fX12_endsOf p1 μ) fun q4 => if q4 ≤ x2 then (some (.inr x1)) else (xbd (fX12_weightAt p1 x2 μ) fun q5 => xbd (xgI μ iM_minuteOf 24 p0) fun v6 => xbd (fX12_wayAt p1 x2 p4 μ) fun q7 => xbd (fX12_comingCost p0 p1 ((v6 - p2) + q7) p3 μ) fun q8 => xlt (x1 + (q5.toInt64 * q8)) fun x9 => xlt (x2 + 1) fun x10 => some (.inl (x9, x10)))
def fX12_costWith (p0 : Int32) (p1 : Int32) (p2 : Int32) (p3 : Int32) (p4 : Int32) (μ : xm) : Option (Int64) := xbd (xloop xfu (fun v => fX12_costWith_b6 v.1 v.2 p0 p1 p2 p3 p4 μ) (0, 0)) fun q11 => xbd (fX12_bridgeWeight p4 μ) fun q12 => some (q11 * q12.toInt64)
set_option maxHeartbeats 4000000 in
set_option maxRecDepth 100000 in
theorem kX12_costWith {E : xE} {d : Nat} {QQ : xP} (hd : 2 ≤ d) {p0 : Int32} {p1 : Int32} {p2 : Int32} {p3 : Int32} {p4 : Int32} {μ : xm} {R : xr} {n : Nat} (hF : xFin R n)  {res : Int64} (h : fX12_costWith p0 p1 p2 p3 p4 μ = some res) (hQ : QQ (some (.long res)) (xσ μ R) n) : xCon E d Y_X12_costWith 0 0 [.ref (E.2.2.2 + iM), .int p0, .int p1, .int p2, .int p3, .int p4] (xσ μ R) n QQ := by
  refine xCon_of pn_RX12 (Nat.le_of_ble_eq_true rfl) (L0 := [(0, .ref (E.2.2.2 + iM)), (1, .int p0), (2, .int p1), (3, .int p2), (4, .int p3), (5, .int p4)]) rfl ?_
  unfold fX12_costWith at h
  refine ev_lconst (v := 0) dX12_costWith_0 (by decide) ?_
  refine xv_lstore (L' := [(6, .long 0), (0, .ref (E.2.2.2 + iM)), (1, .int p0), (2, .int p1), (3, .int p2), (4, .int p3), (5, .int p4)]) rfl dX12_costWith_1 (Nat.le_of_ble_eq_true rfl) rfl ?_
  refine ev_iconst (v := 0) dX12_costWith_3 (by decide) ?_
  refine xv_istore (L' := [(8, .int 0), (6, .long 0), (0, .ref (E.2.2.2 + iM)), (1, .int p0), (2, .int p1), (3, .int p2), (4, .int p3), (5, .int p4)]) rfl dX12_costWith_4 (Nat.le_of_ble_eq_true rfl) rfl ?_
  obtain ⟨q11, hq11, h⟩ := xbd_some h
  refine ev_sub (L' := [(0, .ref (E.2.2.2 + iM)), (1, .int p0), (2, .int p1), (3, .int p2), (4, .int p3), (5, .int p4), (6, .long 0), (8, .int 0)]) [2, 3, 4, 5, 6, 7, 1, 0] rfl ?_
  refine xloop_run (fun v => Ev E (xcm E d 0 0 QQ) Y_X12_costWith 6 [(0, .ref (E.2.2.2 + iM)), (1, .int p0), (2, .int p1), (3, .int p2), (4, .int p3), (5, .int p4), (6, .long v.1), (8, .int v.2)] [] (xσ μ R) n 0 0) (fun v => Ev E (xcm E d 0 0 QQ) Y_X12_costWith 62 [(0, .ref (E.2.2.2 + iM)), (5, .int p4), (6, .long v)] [] (xσ μ R) n 0 0) ?_ _ _ _ hq11 ?_
  · rintro ⟨x1, x2⟩ y3 h hk
    replace h : fX12_costWith_b6 x1 x2 p0 p1 p2 p3 p4 μ = some y3 := h
    show Ev E (xcm E d 0 0 QQ) Y_X12_costWith 6 [(0, .ref (E.2.2.2 + iM)), (1, .int p0), (2, .int p1), (3, .int p2), (4, .int p3), (5, .int p4), (6, .long x1), (8, .int x2)] [] (xσ μ R) n 0 0
    unfold fX12_costWith_b6 at h
    refine ev_iload 7 dX12_costWith_6 rfl ?_
    refine ev_aload_n 0 dX12_costWith_8 rfl rfl ?_
    refine ev_iload_n 2 dX12_costWith_9 rfl rfl ?_
    obtain ⟨q4, hq4, h⟩ := xbd_some h
    refine ev_callV (ci := 12) (rest := [.int x2]) 1 (kX12_endsOf (E := E) (d := 0) (QQ := (fun v τ n' => v = some (.int q4) ∧ τ = xσ μ R ∧ n = n')) (Nat.le_refl _) hF hq4 (⟨rfl, rfl, rfl⟩)) my_X12_endsOf ⟨m_1754, m_1756, m_88⟩ cl_12 kd_61 (xl hF rfl) rfl rfl (Nat.le_of_ble_eq_true rfl) (Nat.le_trans (by decide) hd) (xlo (by decide) (Nat.le_trans (by decide) hd)) (Nat.zero_le _) (Nat.zero_le _) dX12_costWith_10 (fun v τ n' hv => ?_)
    obtain ⟨rfl, rfl, rfl⟩ := hv
    show Ev E (xcm E d 0 0 QQ) Y_X12_costWith 13 [(0, .ref (E.2.2.2 + iM)), (1, .int p0), (2, .int p1), (3, .int p2), (4, .int p3), (5, .int p4), (6, .long x1), (8, .int x2)] [.int q4, .int x2] (xσ μ R) n 0 0
    refine ev_icmp_ge (tgt := 62) dX12_costWith_13 (by decide) (fun c13 => ?_) (fun c13 => ?_)
    · replace h := xif_t c13 h
      cases h
      replace hk := xel_r hk
      exact ev_sub [0, 5, 6] rfl (hk)
    · replace h := xif_f c13 h
      refine ev_lload 6 dX12_costWith_16 rfl ?_
      refine ev_aload_n 0 dX12_costWith_18 rfl rfl ?_
      refine ev_iload_n 2 dX12_costWith_19 rfl rfl ?_
      refine ev_iload 7 dX12_costWith_20 rfl ?_
      obtain ⟨q5, hq5, h⟩ := xbd_some h
      refine ev_callV (ci := 12) (rest := [.long x1]) 2 (kX12_weightAt (E := E) (d := 0) (QQ := (fun v τ n' => v = some (.int q5) ∧ τ = xσ μ R ∧ n = n')) (Nat.le_refl _) hF hq5 (⟨rfl, rfl, rfl⟩)) my_X12_weightAt ⟨m_1762, m_1764, m_90⟩ cl_12 kd_61 (xl hF rfl) rfl rfl (Nat.le_of_ble_eq_true rfl) (Nat.le_trans (by decide) hd) (xlo (by decide) (Nat.le_trans (by decide) hd)) (Nat.zero_le _) (Nat.zero_le _) dX12_costWith_22 (fun v τ n' hv => ?_)
      obtain ⟨rfl, rfl, rfl⟩ := hv
      show Ev E (xcm E d 0 0 QQ) Y_X12_costWith 25 [(0, .ref (E.2.2.2 + iM)), (1, .int p0), (2, .int p1), (3, .int p2), (4, .int p3), (5, .int p4), (6, .long x1), (8, .int x2)] [.int q5, .long x1] (xσ μ R) n 0 0
      refine ev_i2l dX12_costWith_25 ?_
      refine ev_aload_n 0 dX12_costWith_26 rfl rfl ?_
      refine ev_iload_n 1 dX12_costWith_27 rfl rfl ?_
      refine ev_iload_n 2 dX12_costWith_28 rfl rfl ?_
      refine ev_aload_n 0 dX12_costWith_29 rfl rfl ?_
      refine xv_getF (a := iM_minuteOf) cl_12 lk_RX12_16 kd_61 (xl hF rfl) (fun _ => rfl) (fr_61_6 hF) dX12_costWith_30 ?_
      refine ev_iload_n 1 dX12_costWith_33 rfl rfl ?_
      obtain ⟨v6, hv6, h⟩ := xbd_some h
      refine xv_iald kd_64 (xl hF rfl) hv6 dX12_costWith_34 ?_
      refine ev_iload_n 3 dX12_costWith_35 rfl rfl ?_
      refine ev_isub dX12_costWith_36 ?_
      refine ev_aload_n 0 dX12_costWith_37 rfl rfl ?_
      refine ev_iload_n 2 dX12_costWith_38 rfl rfl ?_
      refine ev_iload 7 dX12_costWith_39 rfl ?_
      refine ev_iload 5 dX12_costWith_41 rfl ?_
      obtain ⟨q7, hq7, h⟩ := xbd_some h
      refine ev_callV (ci := 12) (rest := [.int (v6 - p2), .int p1, .int p0, .ref (E.2.2.2 + iM), .long (q5.toInt64), .long x1]) 3 (kX12_wayAt (E := E) (d := 1) (QQ := (fun v τ n' => v = some (.int q7) ∧ τ = xσ μ R ∧ n = n')) (Nat.le_refl _) hF hq7 (⟨rfl, rfl, rfl⟩)) my_X12_wayAt ⟨m_1758, m_1760, m_89⟩ cl_12 kd_61 (xl hF rfl) rfl rfl (Nat.le_of_ble_eq_true rfl) (Nat.le_trans (by decide) hd) (xlo (by decide) (Nat.le_trans (by decide) hd)) (Nat.zero_le _) (Nat.zero_le _) dX12_costWith_43 (fun v τ n' hv => ?_)
      obtain ⟨rfl, rfl, rfl⟩ := hv
      show Ev E (xcm E d 0 0 QQ) Y_X12_costWith 46 [(0, .ref (E.2.2.2 + iM)), (1, .int p0), (2, .int p1), (3, .int p2), (4, .int p3), (5, .int p4), (6, .long x1), (8, .int x2)] [.int q7, .int (v6 - p2), .int p1, .int p0, .ref (E.2.2.2 + iM), .long (q5.toInt64), .long x1] (xσ μ R) n 0 0
      refine ev_iadd dX12_costWith_46 ?_
      refine ev_iload 4 dX12_costWith_47 rfl ?_
      obtain ⟨q8, hq8, h⟩ := xbd_some h
      refine ev_callV (ci := 12) (rest := [.long (q5.toInt64), .long x1]) 4 (kX12_comingCost (E := E) (d := 1) (QQ := (fun v τ n' => v = some (.long q8) ∧ τ = xσ μ R ∧ n = n')) (Nat.le_refl _) hF hq8 (⟨rfl, rfl, rfl⟩)) my_X12_comingCost ⟨m_1793, m_1795, m_95⟩ cl_12 kd_61 (xl hF rfl) rfl rfl (Nat.le_of_ble_eq_true rfl) (Nat.le_trans (by decide) hd) (xlo (by decide) (Nat.le_trans (by decide) hd)) (Nat.zero_le _) (Nat.zero_le _) dX12_costWith_49 (fun v τ n' hv => ?_)
      obtain ⟨rfl, rfl, rfl⟩ := hv
      show Ev E (xcm E d 0 0 QQ) Y_X12_costWith 52 [(0, .ref (E.2.2.2 + iM)), (1, .int p0), (2, .int p1), (3, .int p2), (4, .int p3), (5, .int p4), (6, .long x1), (8, .int x2)] [.long q8, .long (q5.toInt64), .long x1] (xσ μ R) n 0 0
      refine ev_lmul dX12_costWith_52 ?_
      refine ev_ladd dX12_costWith_53 ?_
      obtain ⟨x9, hx9, h⟩ := xlt_some h
      refine xv_lstore (L' := [(6, .long x9), (0, .ref (E.2.2.2 + iM)), (1, .int p0), (2, .int p1), (3, .int p2), (4, .int p3), (5, .int p4), (8, .int x2)]) hx9 dX12_costWith_54 (Nat.le_of_ble_eq_true rfl) rfl ?_
      obtain ⟨x10, hx10, h⟩ := xlt_some h
      refine ev_iinc (L' := [(8, .int x10), (6, .long x9), (0, .ref (E.2.2.2 + iM)), (1, .int p0), (2, .int p1), (3, .int p2), (4, .int p3), (5, .int p4)]) 7 dX12_costWith_56 rfl ((by rfl : x2 + Int32.ofInt 1 = x2 + 1).trans hx10) (Nat.le_of_ble_eq_true rfl) rfl ?_
      refine ev_goto (tgt := 6) dX12_costWith_59 (by decide) ?_
      cases h
      replace hk := xel_l hk
      exact ev_sub [2, 3, 4, 5, 6, 7, 1, 0] rfl (hk)
  · show Ev E (xcm E d 0 0 QQ) Y_X12_costWith 62 [(0, .ref (E.2.2.2 + iM)), (5, .int p4), (6, .long q11)] [] (xσ μ R) n 0 0
    refine ev_lload 2 dX12_costWith_62 rfl ?_
    refine ev_aload_n 0 dX12_costWith_64 rfl rfl ?_
    refine ev_iload 1 dX12_costWith_65 rfl ?_
    obtain ⟨q12, hq12, h⟩ := xbd_some h
    refine ev_callV (ci := 12) (rest := [.long q11]) 1 (kX12_bridgeWeight (E := E) (d := 0) (QQ := (fun v τ n' => v = some (.int q12) ∧ τ = xσ μ R ∧ n = n')) (Nat.le_refl _) hF hq12 (⟨rfl, rfl, rfl⟩)) my_X12_bridgeWeight ⟨m_1746, m_1748, m_86⟩ cl_12 kd_61 (xl hF rfl) rfl rfl (Nat.le_of_ble_eq_true rfl) (Nat.le_trans (by decide) hd) (xlo (by decide) (Nat.le_trans (by decide) hd)) (Nat.zero_le _) (Nat.zero_le _) dX12_costWith_67 (fun v τ n' hv => ?_)
    obtain ⟨rfl, rfl, rfl⟩ := hv
    show Ev E (xcm E d 0 0 QQ) Y_X12_costWith 70 [(0, .ref (E.2.2.2 + iM)), (5, .int p4), (6, .long q11)] [.int q12, .long q11] (xσ μ R) n 0 0
    refine ev_i2l dX12_costWith_70 ?_
    refine ev_lmul dX12_costWith_71 ?_
    cases h
    exact ev_lret rfl (hQ) dX12_costWith_72 (Nat.zero_le _) (Nat.zero_le _)
def fX12_cut (p0 : Int32) (p1 : Int32) (μ : xm) : Option (Int32 × xm) := xbd (fX12_isLive p0 μ) fun q1 => if q1 = 0 then (some ((-1), μ)) else (if p1 < 1 then (some ((-1), μ)) else (xbd (xgI μ iM_leftOf 60 p0) fun v2 => if v2 ≤ p1 then (some ((-1), μ)) else (if (μ.1 iM 37) = 60 then (some ((-1), μ)) else (xbd (xgI μ iM_leftOf 60 p0) fun v3 => xbd (xsI μ iM_leftOf 60 p0 (v3 - p1)) fun μ4 => xbd (xgI μ4 iM_owesIt 60 p0) fun v5 => xbd (xgI μ4 iM_hasIt 60 p0) fun v6 => xbd (xgI μ4 iM_madeOn 60 p0) fun v7 => xbd (xgI μ4 iM_lapseOf 60 p0) fun v8 => xbd (fX12_makes v5 v6 p1 v7 v8 μ4) fun q9 => some ((q9.1 iM 37) - 1, q9)))))
set_option maxHeartbeats 4000000 in
set_option maxRecDepth 100000 in
theorem kX12_cut {E : xE} {d : Nat} {QQ : xP} (hd : 2 ≤ d) {p0 : Int32} {p1 : Int32} {μ : xm} {R : xr} {n : Nat} (hF : xFin R n)  {res : Int32 × xm} (h : fX12_cut p0 p1 μ = some res) (hQ : QQ (some (.int res.1)) (xσ res.2 R) n) : xCon E d Y_X12_cut 0 0 [.ref (E.2.2.2 + iM), .int p0, .int p1] (xσ μ R) n QQ := by
  refine xCon_of pn_RX12 (Nat.le_of_ble_eq_true rfl) (L0 := [(0, .ref (E.2.2.2 + iM)), (1, .int p0), (2, .int p1)]) rfl ?_
  unfold fX12_cut at h
  refine ev_aload_n 0 dX12_cut_0 rfl rfl ?_
  refine ev_iload_n 1 dX12_cut_1 rfl rfl ?_
  obtain ⟨q1, hq1, h⟩ := xbd_some h
  refine ev_callV (ci := 12) (rest := []) 1 (kX12_isLive (E := E) (d := 1) (QQ := (fun v τ n' => v = some (.int q1) ∧ τ = xσ μ R ∧ n = n')) (Nat.le_refl _) hF hq1 (⟨rfl, rfl, rfl⟩)) my_X12_isLive ⟨m_1664, m_1666, m_77⟩ cl_12 kd_61 (xl hF rfl) rfl rfl (Nat.le_of_ble_eq_true rfl) (Nat.le_trans (by decide) hd) (xlo (by decide) (Nat.le_trans (by decide) hd)) (Nat.zero_le _) (Nat.zero_le _) dX12_cut_2 (fun v τ n' hv => ?_)
  obtain ⟨rfl, rfl, rfl⟩ := hv
  show Ev E (xcm E d 0 0 QQ) Y_X12_cut 5 [(0, .ref (E.2.2.2 + iM)), (1, .int p0), (2, .int p1)] [.int q1] (xσ μ R) n 0 0
  refine ev_if_eq (tgt := 32) dX12_cut_5 (by decide) (fun c5 => ?_) (fun c5 => ?_)
  · replace h := xif_t c5 h
    refine ev_iconst (v := (-1)) dX12_cut_32 (by decide) ?_
    cases h
    exact ev_iret rfl (hQ) dX12_cut_33 (Nat.zero_le _) (Nat.zero_le _)
  · replace h := xif_f c5 h
    refine ev_iload_n 2 dX12_cut_8 rfl rfl ?_
    refine ev_iconst (v := 1) dX12_cut_9 (by decide) ?_
    refine ev_icmp_lt (tgt := 32) dX12_cut_10 (by decide) (fun c10 => ?_) (fun c10 => ?_)
    · replace h := xif_t c10 h
      refine ev_iconst (v := (-1)) dX12_cut_32 (by decide) ?_
      cases h
      exact ev_iret rfl (hQ) dX12_cut_33 (Nat.zero_le _) (Nat.zero_le _)
    · replace h := xif_f c10 h
      refine ev_aload_n 0 dX12_cut_13 rfl rfl ?_
      refine xv_getF (a := iM_leftOf) cl_12 lk_RX12_84 kd_61 (xl hF rfl) (fun _ => rfl) (fr_61_40 hF) dX12_cut_14 ?_
      refine ev_iload_n 1 dX12_cut_17 rfl rfl ?_
      obtain ⟨v2, hv2, h⟩ := xbd_some h
      refine xv_iald kd_86 (xl hF rfl) hv2 dX12_cut_18 ?_
      refine ev_iload_n 2 dX12_cut_19 rfl rfl ?_
      refine ev_icmp_le (tgt := 32) dX12_cut_20 (by decide) (fun c20 => ?_) (fun c20 => ?_)
      · replace h := xif_t c20 h
        refine ev_iconst (v := (-1)) dX12_cut_32 (by decide) ?_
        cases h
        exact ev_iret rfl (hQ) dX12_cut_33 (Nat.zero_le _) (Nat.zero_le _)
      · replace h := xif_f c20 h
        refine ev_aload_n 0 dX12_cut_23 rfl rfl ?_
        refine xv_getI cl_12 lk_RX12_328 kd_61 (xl hF rfl) (fun _ => rfl) dX12_cut_24 ?_
        refine ev_bipush (v := 60) dX12_cut_27 (by decide) ?_
        refine ev_icmp_ne (tgt := 34) dX12_cut_29 (by decide) (fun c29 => ?_) (fun c29 => ?_)
        · replace h := xif_f c29 h
          refine ev_aload_n 0 dX12_cut_34 rfl rfl ?_
          refine xv_getF (a := iM_leftOf) cl_12 lk_RX12_84 kd_61 (xl hF rfl) (fun _ => rfl) (fr_61_40 hF) dX12_cut_35 ?_
          refine ev_iload_n 1 dX12_cut_38 rfl rfl ?_
          refine ev_aload_n 0 dX12_cut_39 rfl rfl ?_
          refine xv_getF (a := iM_leftOf) cl_12 lk_RX12_84 kd_61 (xl hF rfl) (fun _ => rfl) (fr_61_40 hF) dX12_cut_40 ?_
          refine ev_iload_n 1 dX12_cut_43 rfl rfl ?_
          obtain ⟨v3, hv3, h⟩ := xbd_some h
          refine xv_iald kd_86 (xl hF rfl) hv3 dX12_cut_44 ?_
          refine ev_iload_n 2 dX12_cut_45 rfl rfl ?_
          refine ev_isub dX12_cut_46 ?_
          obtain ⟨μ4, hμ4, h⟩ := xbd_some h
          refine xv_iast kd_86 (xl hF rfl) hμ4 dX12_cut_47 ?_
          refine ev_aload_n 0 dX12_cut_48 rfl rfl ?_
          refine ev_aload_n 0 dX12_cut_49 rfl rfl ?_
          refine xv_getF (a := iM_owesIt) cl_12 lk_RX12_78 kd_61 (xl hF rfl) (fun _ => rfl) (fr_61_38 hF) dX12_cut_50 ?_
          refine ev_iload_n 1 dX12_cut_53 rfl rfl ?_
          obtain ⟨v5, hv5, h⟩ := xbd_some h
          refine xv_iald kd_84 (xl hF rfl) hv5 dX12_cut_54 ?_
          refine ev_aload_n 0 dX12_cut_55 rfl rfl ?_
          refine xv_getF (a := iM_hasIt) cl_12 lk_RX12_81 kd_61 (xl hF rfl) (fun _ => rfl) (fr_61_39 hF) dX12_cut_56 ?_
          refine ev_iload_n 1 dX12_cut_59 rfl rfl ?_
          obtain ⟨v6, hv6, h⟩ := xbd_some h
          refine xv_iald kd_85 (xl hF rfl) hv6 dX12_cut_60 ?_
          refine ev_iload_n 2 dX12_cut_61 rfl rfl ?_
          refine ev_aload_n 0 dX12_cut_62 rfl rfl ?_
          refine xv_getF (a := iM_madeOn) cl_12 lk_RX12_87 kd_61 (xl hF rfl) (fun _ => rfl) (fr_61_41 hF) dX12_cut_63 ?_
          refine ev_iload_n 1 dX12_cut_66 rfl rfl ?_
          obtain ⟨v7, hv7, h⟩ := xbd_some h
          refine xv_iald kd_87 (xl hF rfl) hv7 dX12_cut_67 ?_
          refine ev_aload_n 0 dX12_cut_68 rfl rfl ?_
          refine xv_getF (a := iM_lapseOf) cl_12 lk_RX12_90 kd_61 (xl hF rfl) (fun _ => rfl) (fr_61_42 hF) dX12_cut_69 ?_
          refine ev_iload_n 1 dX12_cut_72 rfl rfl ?_
          obtain ⟨v8, hv8, h⟩ := xbd_some h
          refine xv_iald kd_88 (xl hF rfl) hv8 dX12_cut_73 ?_
          obtain ⟨q9, hq9, h⟩ := xbd_some h
          refine ev_callV (ci := 12) (rest := []) 5 (kX12_makes (E := E) (d := 0) (QQ := (fun v τ n' => v = none ∧ τ = xσ q9 R ∧ n = n')) (Nat.le_refl _) hF hq9 (⟨rfl, rfl, rfl⟩)) my_X12_makes ⟨m_1652, m_1654, m_75⟩ cl_12 kd_61 (xl hF rfl) rfl rfl (Nat.le_of_ble_eq_true rfl) (Nat.le_trans (by decide) hd) (xlo (by decide) (Nat.le_trans (by decide) hd)) (Nat.zero_le _) (Nat.zero_le _) dX12_cut_74 (fun v τ n' hv => ?_)
          obtain ⟨rfl, rfl, rfl⟩ := hv
          show Ev E (xcm E d 0 0 QQ) Y_X12_cut 77 [(0, .ref (E.2.2.2 + iM)), (1, .int p0), (2, .int p1)] [] (xσ q9 R) n 0 0
          refine ev_aload_n 0 dX12_cut_77 rfl rfl ?_
          refine xv_getI cl_12 lk_RX12_328 kd_61 (xl hF rfl) (fun _ => rfl) dX12_cut_78 ?_
          refine ev_iconst (v := 1) dX12_cut_81 (by decide) ?_
          refine ev_isub dX12_cut_82 ?_
          cases h
          exact ev_iret rfl (hQ) dX12_cut_83 (Nat.zero_le _) (Nat.zero_le _)
        · replace h := xif_t c29 h
          refine ev_iconst (v := (-1)) dX12_cut_32 (by decide) ?_
          cases h
          exact ev_iret rfl (hQ) dX12_cut_33 (Nat.zero_le _) (Nat.zero_le _)
