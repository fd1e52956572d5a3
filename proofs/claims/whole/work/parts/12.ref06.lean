def fX12_drawnEnd_b17 (x4 : Int32) (x5 : Int32) (p0 : Int32) (q1 : xm) : Option ((Int32 × Int32) ⊕ (Int32)) := xbd (fX12_weightAt p0 x5 q1) fun q7 => if x4 < q7 then (some (.inr x5)) else (xbd (fX12_weightAt p0 x5 q1) fun q8 => xlt (x4 - q8) fun x9 => xlt (x5 + 1) fun x10 => some (.inl (x9, x10)))
def fX12_drawnEnd (p0 : Int32) (μ : xm) : Option (Int32 × xm) := xbd (fX12_draws μ) fun q1 => xbd (fX12_weightsOf p0 q1) fun q2 => xbd (xrem (q1.1 iM 2) q2) fun v3 => xbd (xloop xfu (fun v => fX12_drawnEnd_b17 v.1 v.2 p0 q1) (v3, 0)) fun q11 => some (q11, q1)
set_option maxHeartbeats 4000000 in
set_option maxRecDepth 100000 in
theorem kX12_drawnEnd {E : xE} {d : Nat} {QQ : xP} (hd : 2 ≤ d) {p0 : Int32} {μ : xm} {R : xr} {n : Nat} (hF : xFin R n)  {res : Int32 × xm} (h : fX12_drawnEnd p0 μ = some res) (hQ : QQ (some (.int res.1)) (xσ res.2 R) n) : xCon E d Y_X12_drawnEnd 0 0 [.ref (E.2.2.2 + iM), .int p0] (xσ μ R) n QQ := by
  refine xCon_of pn_RX12 (Nat.le_of_ble_eq_true rfl) (L0 := [(0, .ref (E.2.2.2 + iM)), (1, .int p0)]) rfl ?_
  unfold fX12_drawnEnd at h
  refine ev_aload_n 0 dX12_drawnEnd_0 rfl rfl ?_
  obtain ⟨q1, hq1, h⟩ := xbd_some h
  refine ev_callV (ci := 12) (rest := []) 0 (kX12_draws (E := E) (d := 0) (QQ := (fun v τ n' => v = none ∧ τ = xσ q1 R ∧ n = n')) (Nat.le_refl _) hF hq1 (⟨rfl, rfl, rfl⟩)) my_X12_draws ⟨m_1858, m_1860, m_104⟩ cl_12 kd_61 (xl hF rfl) rfl rfl (Nat.le_of_ble_eq_true rfl) (Nat.le_trans (by decide) hd) (xlo (by decide) (Nat.le_trans (by decide) hd)) (Nat.zero_le _) (Nat.zero_le _) dX12_drawnEnd_1 (fun v τ n' hv => ?_)
  obtain ⟨rfl, rfl, rfl⟩ := hv
  show Ev E (xcm E d 0 0 QQ) Y_X12_drawnEnd 4 [(0, .ref (E.2.2.2 + iM)), (1, .int p0)] [] (xσ q1 R) n 0 0
  refine ev_aload_n 0 dX12_drawnEnd_4 rfl rfl ?_
  refine xv_getI cl_12 lk_RX12_152 kd_61 (xl hF rfl) (fun _ => rfl) dX12_drawnEnd_5 ?_
  refine ev_aload_n 0 dX12_drawnEnd_8 rfl rfl ?_
  refine ev_iload_n 1 dX12_drawnEnd_9 rfl rfl ?_
  obtain ⟨q2, hq2, h⟩ := xbd_some h
  refine ev_callV (ci := 12) (rest := [.int (q1.1 iM 2)]) 1 (kX12_weightsOf (E := E) (d := 1) (QQ := (fun v τ n' => v = some (.int q2) ∧ τ = xσ q1 R ∧ n = n')) (Nat.le_refl _) hF hq2 (⟨rfl, rfl, rfl⟩)) my_X12_weightsOf ⟨m_1766, m_1768, m_91⟩ cl_12 kd_61 (xl hF rfl) rfl rfl (Nat.le_of_ble_eq_true rfl) (Nat.le_trans (by decide) hd) (xlo (by decide) (Nat.le_trans (by decide) hd)) (Nat.zero_le _) (Nat.zero_le _) dX12_drawnEnd_10 (fun v τ n' hv => ?_)
  obtain ⟨rfl, rfl, rfl⟩ := hv
  show Ev E (xcm E d 0 0 QQ) Y_X12_drawnEnd 13 [(0, .ref (E.2.2.2 + iM)), (1, .int p0)] [.int q2, .int (q1.1 iM 2)] (xσ q1 R) n 0 0
  obtain ⟨v3, hv3, h⟩ := xbd_some h
  refine xv_irem hv3 dX12_drawnEnd_13 ?_
  refine xv_istore_n (L' := [(2, .int v3), (0, .ref (E.2.2.2 + iM)), (1, .int p0)]) rfl dX12_drawnEnd_14 rfl (Nat.le_of_ble_eq_true rfl) rfl ?_
  refine ev_iconst (v := 0) dX12_drawnEnd_15 (by decide) ?_
  refine xv_istore_n (L' := [(3, .int 0), (2, .int v3), (0, .ref (E.2.2.2 + iM)), (1, .int p0)]) rfl dX12_drawnEnd_16 rfl (Nat.le_of_ble_eq_true rfl) rfl ?_
  obtain ⟨q11, hq11, h⟩ := xbd_some h
  refine ev_sub (L' := [(0, .ref (E.2.2.2 + iM)), (1, .int p0), (2, .int v3), (3, .int 0)]) [2, 3, 1, 0] rfl ?_
  refine xloop_run (fun v => Ev E (xcm E d 0 0 QQ) Y_X12_drawnEnd 17 [(0, .ref (E.2.2.2 + iM)), (1, .int p0), (2, .int v.1), (3, .int v.2)] [] (xσ q1 R) n 0 0) (fun v => Ev E (xcm E d 0 0 QQ) Y_X12_drawnEnd 43 [(3, .int v)] [] (xσ q1 R) n 0 0) ?_ _ _ _ hq11 ?_
  · rintro ⟨x4, x5⟩ y6 h hk
    replace h : fX12_drawnEnd_b17 x4 x5 p0 q1 = some y6 := h
    show Ev E (xcm E d 0 0 QQ) Y_X12_drawnEnd 17 [(0, .ref (E.2.2.2 + iM)), (1, .int p0), (2, .int x4), (3, .int x5)] [] (xσ q1 R) n 0 0
    unfold fX12_drawnEnd_b17 at h
    refine ev_iload_n 2 dX12_drawnEnd_17 rfl rfl ?_
    refine ev_aload_n 0 dX12_drawnEnd_18 rfl rfl ?_
    refine ev_iload_n 1 dX12_drawnEnd_19 rfl rfl ?_
    refine ev_iload_n 3 dX12_drawnEnd_20 rfl rfl ?_
    obtain ⟨q7, hq7, h⟩ := xbd_some h
    refine ev_callV (ci := 12) (rest := [.int x4]) 2 (kX12_weightAt (E := E) (d := 0) (QQ := (fun v τ n' => v = some (.int q7) ∧ τ = xσ q1 R ∧ n = n')) (Nat.le_refl _) hF hq7 (⟨rfl, rfl, rfl⟩)) my_X12_weightAt ⟨m_1762, m_1764, m_90⟩ cl_12 kd_61 (xl hF rfl) rfl rfl (Nat.le_of_ble_eq_true rfl) (Nat.le_trans (by decide) hd) (xlo (by decide) (Nat.le_trans (by decide) hd)) (Nat.zero_le _) (Nat.zero_le _) dX12_drawnEnd_21 (fun v τ n' hv => ?_)
    obtain ⟨rfl, rfl, rfl⟩ := hv
    show Ev E (xcm E d 0 0 QQ) Y_X12_drawnEnd 24 [(0, .ref (E.2.2.2 + iM)), (1, .int p0), (2, .int x4), (3, .int x5)] [.int q7, .int x4] (xσ q1 R) n 0 0
    refine ev_icmp_lt (tgt := 43) dX12_drawnEnd_24 (by decide) (fun c24 => ?_) (fun c24 => ?_)
    · replace h := xif_t c24 h
      cases h
      replace hk := xel_r hk
      exact ev_sub [3] rfl (hk)
    · replace h := xif_f c24 h
      refine ev_iload_n 2 dX12_drawnEnd_27 rfl rfl ?_
      refine ev_aload_n 0 dX12_drawnEnd_28 rfl rfl ?_
      refine ev_iload_n 1 dX12_drawnEnd_29 rfl rfl ?_
      refine ev_iload_n 3 dX12_drawnEnd_30 rfl rfl ?_
      obtain ⟨q8, hq8, h⟩ := xbd_some h
      refine ev_callV (ci := 12) (rest := [.int x4]) 2 (kX12_weightAt (E := E) (d := 0) (QQ := (fun v τ n' => v = some (.int q8) ∧ τ = xσ q1 R ∧ n = n')) (Nat.le_refl _) hF hq8 (⟨rfl, rfl, rfl⟩)) my_X12_weightAt ⟨m_1762, m_1764, m_90⟩ cl_12 kd_61 (xl hF rfl) rfl rfl (Nat.le_of_ble_eq_true rfl) (Nat.le_trans (by decide) hd) (xlo (by decide) (Nat.le_trans (by decide) hd)) (Nat.zero_le _) (Nat.zero_le _) dX12_drawnEnd_31 (fun v τ n' hv => ?_)
      obtain ⟨rfl, rfl, rfl⟩ := hv
      show Ev E (xcm E d 0 0 QQ) Y_X12_drawnEnd 34 [(0, .ref (E.2.2.2 + iM)), (1, .int p0), (2, .int x4), (3, .int x5)] [.int q8, .int x4] (xσ q1 R) n 0 0
      refine ev_isub dX12_drawnEnd_34 ?_
      obtain ⟨x9, hx9, h⟩ := xlt_some h
      refine xv_istore_n (L' := [(2, .int x9), (0, .ref (E.2.2.2 + iM)), (1, .int p0), (3, .int x5)]) hx9 dX12_drawnEnd_35 rfl (Nat.le_of_ble_eq_true rfl) rfl ?_
      refine ev_iload_n 3 dX12_drawnEnd_36 rfl rfl ?_
      refine ev_iconst (v := 1) dX12_drawnEnd_37 (by decide) ?_
      refine ev_iadd dX12_drawnEnd_38 ?_
      obtain ⟨x10, hx10, h⟩ := xlt_some h
      refine xv_istore_n (L' := [(3, .int x10), (2, .int x9), (0, .ref (E.2.2.2 + iM)), (1, .int p0)]) hx10 dX12_drawnEnd_39 rfl (Nat.le_of_ble_eq_true rfl) rfl ?_
      refine ev_goto (tgt := 17) dX12_drawnEnd_40 (by decide) ?_
      cases h
      replace hk := xel_l hk
      exact ev_sub [2, 3, 1, 0] rfl (hk)
  · show Ev E (xcm E d 0 0 QQ) Y_X12_drawnEnd 43 [(3, .int q11)] [] (xσ q1 R) n 0 0
    refine ev_iload_n 0 dX12_drawnEnd_43 rfl rfl ?_
    cases h
    exact ev_iret rfl (hQ) dX12_drawnEnd_44 (Nat.zero_le _) (Nat.zero_le _)
def fX12_hand (p0 : Int32) (p1 : Int32) (μ : xm) : Option (Int32 × xm) := xbd (fX12_isLive p0 μ) fun q1 => if q1 = 0 then (some (0, μ)) else (xbd (fX12_isPerson p1) fun q2 => if q2 = 0 then (some (0, μ)) else (xbd (xgI μ iM_hasIt 60 p0) fun v3 => if v3 = p1 then (some (0, μ)) else (xbd (xsI μ iM_hasIt 60 p0 p1) fun μ4 => xbd (xgI μ4 iM_owesIt 60 p0) fun v5 => if v5 = p1 then (xbd (xsI μ4 iM_leftOf 60 p0 0) fun μ8 => some (1, μ8)) else (xbd (xgI μ4 iM_leftOf 60 p0) fun v6 => xbd (xsI μ4 iM_leftOf 60 p0 v6) fun μ7 => some (1, μ7)))))
set_option maxHeartbeats 4000000 in
set_option maxRecDepth 100000 in
theorem kX12_hand {E : xE} {d : Nat} {QQ : xP} (hd : 2 ≤ d) {p0 : Int32} {p1 : Int32} {μ : xm} {R : xr} {n : Nat} (hF : xFin R n)  {res : Int32 × xm} (h : fX12_hand p0 p1 μ = some res) (hQ : QQ (some (.int res.1)) (xσ res.2 R) n) : xCon E d Y_X12_hand 0 0 [.ref (E.2.2.2 + iM), .int p0, .int p1] (xσ μ R) n QQ := by
  refine xCon_of pn_RX12 (Nat.le_of_ble_eq_true rfl) (L0 := [(0, .ref (E.2.2.2 + iM)), (1, .int p0), (2, .int p1)]) rfl ?_
  unfold fX12_hand at h
  refine ev_aload_n 0 dX12_hand_0 rfl rfl ?_
  refine ev_iload_n 1 dX12_hand_1 rfl rfl ?_
  obtain ⟨q1, hq1, h⟩ := xbd_some h
  refine ev_callV (ci := 12) (rest := []) 1 (kX12_isLive (E := E) (d := 1) (QQ := (fun v τ n' => v = some (.int q1) ∧ τ = xσ μ R ∧ n = n')) (Nat.le_refl _) hF hq1 (⟨rfl, rfl, rfl⟩)) my_X12_isLive ⟨m_1664, m_1666, m_77⟩ cl_12 kd_61 (xl hF rfl) rfl rfl (Nat.le_of_ble_eq_true rfl) (Nat.le_trans (by decide) hd) (xlo (by decide) (Nat.le_trans (by decide) hd)) (Nat.zero_le _) (Nat.zero_le _) dX12_hand_2 (fun v τ n' hv => ?_)
  obtain ⟨rfl, rfl, rfl⟩ := hv
  show Ev E (xcm E d 0 0 QQ) Y_X12_hand 5 [(0, .ref (E.2.2.2 + iM)), (1, .int p0), (2, .int p1)] [.int q1] (xσ μ R) n 0 0
  refine ev_if_eq (tgt := 25) dX12_hand_5 (by decide) (fun c5 => ?_) (fun c5 => ?_)
  · replace h := xif_t c5 h
    refine ev_iconst (v := 0) dX12_hand_25 (by decide) ?_
    cases h
    exact ev_zret rfl (Or.inl rfl) (hQ) dX12_hand_26 (Nat.zero_le _) (Nat.zero_le _)
  · replace h := xif_f c5 h
    refine ev_iload_n 2 dX12_hand_8 rfl rfl ?_
    obtain ⟨q2, hq2, h⟩ := xbd_some h
    refine ev_callS (As := [.int p1]) (rest := []) 1 (kX12_isPerson (E := E) (d := 0) (QQ := (fun v τ n' => v = some (.int q2) ∧ τ = xσ μ R ∧ n = n')) (Nat.le_refl _)  hq2 (⟨rfl, rfl, rfl⟩)) my_X12_isPerson ⟨m_1456, m_1457⟩ rfl rfl (Nat.le_of_ble_eq_true rfl) (Nat.le_trans (by decide) hd) (xlo (by decide) (Nat.le_trans (by decide) hd)) (Nat.zero_le _) (Nat.zero_le _) dX12_hand_9 (fun v τ n' hv => ?_)
    obtain ⟨rfl, rfl, rfl⟩ := hv
    show Ev E (xcm E d 0 0 QQ) Y_X12_hand 12 [(0, .ref (E.2.2.2 + iM)), (1, .int p0), (2, .int p1)] [.int q2] (xσ μ R) n 0 0
    refine ev_if_eq (tgt := 25) dX12_hand_12 (by decide) (fun c12 => ?_) (fun c12 => ?_)
    · replace h := xif_t c12 h
      refine ev_iconst (v := 0) dX12_hand_25 (by decide) ?_
      cases h
      exact ev_zret rfl (Or.inl rfl) (hQ) dX12_hand_26 (Nat.zero_le _) (Nat.zero_le _)
    · replace h := xif_f c12 h
      refine ev_aload_n 0 dX12_hand_15 rfl rfl ?_
      refine xv_getF (a := iM_hasIt) cl_12 lk_RX12_81 kd_61 (xl hF rfl) (fun _ => rfl) (fr_61_39 hF) dX12_hand_16 ?_
      refine ev_iload_n 1 dX12_hand_19 rfl rfl ?_
      obtain ⟨v3, hv3, h⟩ := xbd_some h
      refine xv_iald kd_85 (xl hF rfl) hv3 dX12_hand_20 ?_
      refine ev_iload_n 2 dX12_hand_21 rfl rfl ?_
      refine ev_icmp_ne (tgt := 27) dX12_hand_22 (by decide) (fun c22 => ?_) (fun c22 => ?_)
      · replace h := xif_f c22 h
        refine ev_aload_n 0 dX12_hand_27 rfl rfl ?_
        refine xv_getF (a := iM_hasIt) cl_12 lk_RX12_81 kd_61 (xl hF rfl) (fun _ => rfl) (fr_61_39 hF) dX12_hand_28 ?_
        refine ev_iload_n 1 dX12_hand_31 rfl rfl ?_
        refine ev_iload_n 2 dX12_hand_32 rfl rfl ?_
        obtain ⟨μ4, hμ4, h⟩ := xbd_some h
        refine xv_iast kd_85 (xl hF rfl) hμ4 dX12_hand_33 ?_
        refine ev_aload_n 0 dX12_hand_34 rfl rfl ?_
        refine xv_getF (a := iM_leftOf) cl_12 lk_RX12_84 kd_61 (xl hF rfl) (fun _ => rfl) (fr_61_40 hF) dX12_hand_35 ?_
        refine ev_iload_n 1 dX12_hand_38 rfl rfl ?_
        refine ev_aload_n 0 dX12_hand_39 rfl rfl ?_
        refine xv_getF (a := iM_owesIt) cl_12 lk_RX12_78 kd_61 (xl hF rfl) (fun _ => rfl) (fr_61_38 hF) dX12_hand_40 ?_
        refine ev_iload_n 1 dX12_hand_43 rfl rfl ?_
        obtain ⟨v5, hv5, h⟩ := xbd_some h
        refine xv_iald kd_84 (xl hF rfl) hv5 dX12_hand_44 ?_
        refine ev_iload_n 2 dX12_hand_45 rfl rfl ?_
        refine ev_icmp_ne (tgt := 53) dX12_hand_46 (by decide) (fun c46 => ?_) (fun c46 => ?_)
        · replace h := xif_f c46 h
          refine ev_aload_n 0 dX12_hand_53 rfl rfl ?_
          refine xv_getF (a := iM_leftOf) cl_12 lk_RX12_84 kd_61 (xl hF rfl) (fun _ => rfl) (fr_61_40 hF) dX12_hand_54 ?_
          refine ev_iload_n 1 dX12_hand_57 rfl rfl ?_
          obtain ⟨v6, hv6, h⟩ := xbd_some h
          refine xv_iald kd_86 (xl hF rfl) hv6 dX12_hand_58 ?_
          obtain ⟨μ7, hμ7, h⟩ := xbd_some h
          refine xv_iast kd_86 (xl hF rfl) hμ7 dX12_hand_59 ?_
          refine ev_iconst (v := 1) dX12_hand_60 (by decide) ?_
          cases h
          exact ev_zret rfl (Or.inr rfl) (hQ) dX12_hand_61 (Nat.zero_le _) (Nat.zero_le _)
        · replace h := xif_t c46 h
          refine ev_iconst (v := 0) dX12_hand_49 (by decide) ?_
          refine ev_goto (tgt := 59) dX12_hand_50 (by decide) ?_
          obtain ⟨μ8, hμ8, h⟩ := xbd_some h
          refine xv_iast kd_86 (xl hF rfl) hμ8 dX12_hand_59 ?_
          refine ev_iconst (v := 1) dX12_hand_60 (by decide) ?_
          cases h
          exact ev_zret rfl (Or.inr rfl) (hQ) dX12_hand_61 (Nat.zero_le _) (Nat.zero_le _)
      · replace h := xif_t c22 h
        refine ev_iconst (v := 0) dX12_hand_25 (by decide) ?_
        cases h
        exact ev_zret rfl (Or.inl rfl) (hQ) dX12_hand_26 (Nat.zero_le _) (Nat.zero_le _)
def fX12_keeperOf_b4 (x1 : Int32) (x2 : Int32) (p0 : Int32) (μ : xm) : Option ((Int32 × Int32) ⊕ (Int32)) := if 8 ≤ x2 then (some (.inr x1)) else (xbd (fX12_isOf p0 x2 μ) fun q4 => if q4 = 0 then (xlt (x2 + 1) fun x5 => some (.inl (x1, x5))) else (if x1 = (-1) then (xlt (x2 + 1) fun x6 => some (.inl (x2, x6))) else (xbd (xgI μ iM_cameAt 192 ((8 * p0) + x2)) fun v7 => xbd (xgI μ iM_cameAt 192 ((8 * p0) + x1)) fun v8 => if v7 ≤ v8 then (xlt (x2 + 1) fun x9 => some (.inl (x1, x9))) else (xlt (x2 + 1) fun x10 => some (.inl (x2, x10))))))
def fX12_keeperOf (p0 : Int32) (μ : xm) : Option (Int32) := xbd (xloop xfu (fun v => fX12_keeperOf_b4 v.1 v.2 p0 μ) ((-1), 0)) fun q11 => some q11
set_option maxHeartbeats 4000000 in
set_option maxRecDepth 100000 in
theorem kX12_keeperOf {E : xE} {d : Nat} {QQ : xP} (hd : 2 ≤ d) {p0 : Int32} {μ : xm} {R : xr} {n : Nat} (hF : xFin R n)  {res : Int32} (h : fX12_keeperOf p0 μ = some res) (hQ : QQ (some (.int res)) (xσ μ R) n) : xCon E d Y_X12_keeperOf 0 0 [.ref (E.2.2.2 + iM), .int p0] (xσ μ R) n QQ := by
  refine xCon_of pn_RX12 (Nat.le_of_ble_eq_true rfl) (L0 := [(0, .ref (E.2.2.2 + iM)), (1, .int p0)]) rfl ?_
  unfold fX12_keeperOf at h
  refine ev_iconst (v := (-1)) dX12_keeperOf_0 (by decide) ?_
  refine xv_istore_n (L' := [(2, .int (-1)), (0, .ref (E.2.2.2 + iM)), (1, .int p0)]) rfl dX12_keeperOf_1 rfl (Nat.le_of_ble_eq_true rfl) rfl ?_
  refine ev_iconst (v := 0) dX12_keeperOf_2 (by decide) ?_
  refine xv_istore_n (L' := [(3, .int 0), (2, .int (-1)), (0, .ref (E.2.2.2 + iM)), (1, .int p0)]) rfl dX12_keeperOf_3 rfl (Nat.le_of_ble_eq_true rfl) rfl ?_
  obtain ⟨q11, hq11, h⟩ := xbd_some h
  refine ev_sub (L' := [(0, .ref (E.2.2.2 + iM)), (1, .int p0), (2, .int (-1)), (3, .int 0)]) [2, 3, 1, 0] rfl ?_
  refine xloop_run (fun v => Ev E (xcm E d 0 0 QQ) Y_X12_keeperOf 4 [(0, .ref (E.2.2.2 + iM)), (1, .int p0), (2, .int v.1), (3, .int v.2)] [] (xσ μ R) n 0 0) (fun v => Ev E (xcm E d 0 0 QQ) Y_X12_keeperOf 57 [(2, .int v)] [] (xσ μ R) n 0 0) ?_ _ _ _ hq11 ?_
  · rintro ⟨x1, x2⟩ y3 h hk
    replace h : fX12_keeperOf_b4 x1 x2 p0 μ = some y3 := h
    show Ev E (xcm E d 0 0 QQ) Y_X12_keeperOf 4 [(0, .ref (E.2.2.2 + iM)), (1, .int p0), (2, .int x1), (3, .int x2)] [] (xσ μ R) n 0 0
    unfold fX12_keeperOf_b4 at h
    refine ev_iload_n 3 dX12_keeperOf_4 rfl rfl ?_
    refine ev_bipush (v := 8) dX12_keeperOf_5 (by decide) ?_
    refine ev_icmp_ge (tgt := 57) dX12_keeperOf_7 (by decide) (fun c7 => ?_) (fun c7 => ?_)
    · replace h := xif_t c7 h
      cases h
      replace hk := xel_r hk
      exact ev_sub [2] rfl (hk)
    · replace h := xif_f c7 h
      refine ev_aload_n 0 dX12_keeperOf_10 rfl rfl ?_
      refine ev_iload_n 1 dX12_keeperOf_11 rfl rfl ?_
      refine ev_iload_n 3 dX12_keeperOf_12 rfl rfl ?_
      obtain ⟨q4, hq4, h⟩ := xbd_some h
      refine ev_callV (ci := 12) (rest := []) 2 (kX12_isOf (E := E) (d := 1) (QQ := (fun v τ n' => v = some (.int q4) ∧ τ = xσ μ R ∧ n = n')) (Nat.le_refl _) hF hq4 (⟨rfl, rfl, rfl⟩)) my_X12_isOf ⟨m_1470, m_1472, m_40⟩ cl_12 kd_61 (xl hF rfl) rfl rfl (Nat.le_of_ble_eq_true rfl) (Nat.le_trans (by decide) hd) (xlo (by decide) (Nat.le_trans (by decide) hd)) (Nat.zero_le _) (Nat.zero_le _) dX12_keeperOf_13 (fun v τ n' hv => ?_)
      obtain ⟨rfl, rfl, rfl⟩ := hv
      show Ev E (xcm E d 0 0 QQ) Y_X12_keeperOf 16 [(0, .ref (E.2.2.2 + iM)), (1, .int p0), (2, .int x1), (3, .int x2)] [.int q4] (xσ μ R) n 0 0
      refine ev_if_eq (tgt := 51) dX12_keeperOf_16 (by decide) (fun c16 => ?_) (fun c16 => ?_)
      · replace h := xif_t c16 h
        obtain ⟨x5, hx5, h⟩ := xlt_some h
        refine ev_iinc (L' := [(3, .int x5), (0, .ref (E.2.2.2 + iM)), (1, .int p0), (2, .int x1)]) 3 dX12_keeperOf_51 rfl ((by rfl : x2 + Int32.ofInt 1 = x2 + 1).trans hx5) (Nat.le_of_ble_eq_true rfl) rfl ?_
        refine ev_goto (tgt := 4) dX12_keeperOf_54 (by decide) ?_
        cases h
        replace hk := xel_l hk
        exact ev_sub [1, 2, 3, 0] rfl (hk)
      · replace h := xif_f c16 h
        refine ev_iload_n 2 dX12_keeperOf_19 rfl rfl ?_
        refine ev_iconst (v := (-1)) dX12_keeperOf_20 (by decide) ?_
        refine ev_icmp_eq (tgt := 49) dX12_keeperOf_21 (by decide) (fun c21 => ?_) (fun c21 => ?_)
        · replace h := xif_t c21 h
          refine ev_iload_n 3 dX12_keeperOf_49 rfl rfl ?_
          refine xv_istore_n (L' := [(2, .int x2), (0, .ref (E.2.2.2 + iM)), (1, .int p0), (3, .int x2)]) rfl dX12_keeperOf_50 rfl (Nat.le_of_ble_eq_true rfl) rfl ?_
          obtain ⟨x6, hx6, h⟩ := xlt_some h
          refine ev_iinc (L' := [(3, .int x6), (2, .int x2), (0, .ref (E.2.2.2 + iM)), (1, .int p0)]) 3 dX12_keeperOf_51 rfl ((by rfl : x2 + Int32.ofInt 1 = x2 + 1).trans hx6) (Nat.le_of_ble_eq_true rfl) rfl ?_
          refine ev_goto (tgt := 4) dX12_keeperOf_54 (by decide) ?_
          cases h
          replace hk := xel_l hk
          exact ev_sub [2, 3, 1, 0] rfl (hk)
        · replace h := xif_f c21 h
          refine ev_aload_n 0 dX12_keeperOf_24 rfl rfl ?_
          refine xv_getF (a := iM_cameAt) cl_12 lk_RX12_22 kd_61 (xl hF rfl) (fun _ => rfl) (fr_61_8 hF) dX12_keeperOf_25 ?_
          refine ev_bipush (v := 8) dX12_keeperOf_28 (by decide) ?_
          refine ev_iload_n 1 dX12_keeperOf_30 rfl rfl ?_
          refine ev_imul dX12_keeperOf_31 ?_
          refine ev_iload_n 3 dX12_keeperOf_32 rfl rfl ?_
          refine ev_iadd dX12_keeperOf_33 ?_
          obtain ⟨v7, hv7, h⟩ := xbd_some h
          refine xv_iald kd_66 (xl hF rfl) hv7 dX12_keeperOf_34 ?_
          refine ev_aload_n 0 dX12_keeperOf_35 rfl rfl ?_
          refine xv_getF (a := iM_cameAt) cl_12 lk_RX12_22 kd_61 (xl hF rfl) (fun _ => rfl) (fr_61_8 hF) dX12_keeperOf_36 ?_
          refine ev_bipush (v := 8) dX12_keeperOf_39 (by decide) ?_
          refine ev_iload_n 1 dX12_keeperOf_41 rfl rfl ?_
          refine ev_imul dX12_keeperOf_42 ?_
          refine ev_iload_n 2 dX12_keeperOf_43 rfl rfl ?_
          refine ev_iadd dX12_keeperOf_44 ?_
          obtain ⟨v8, hv8, h⟩ := xbd_some h
          refine xv_iald kd_66 (xl hF rfl) hv8 dX12_keeperOf_45 ?_
          refine ev_icmp_le (tgt := 51) dX12_keeperOf_46 (by decide) (fun c46 => ?_) (fun c46 => ?_)
          · replace h := xif_t c46 h
            obtain ⟨x9, hx9, h⟩ := xlt_some h
            refine ev_iinc (L' := [(3, .int x9), (0, .ref (E.2.2.2 + iM)), (1, .int p0), (2, .int x1)]) 3 dX12_keeperOf_51 rfl ((by rfl : x2 + Int32.ofInt 1 = x2 + 1).trans hx9) (Nat.le_of_ble_eq_true rfl) rfl ?_
            refine ev_goto (tgt := 4) dX12_keeperOf_54 (by decide) ?_
            cases h
            replace hk := xel_l hk
            exact ev_sub [1, 2, 3, 0] rfl (hk)
          · replace h := xif_f c46 h
            refine ev_iload_n 3 dX12_keeperOf_49 rfl rfl ?_
            refine xv_istore_n (L' := [(2, .int x2), (0, .ref (E.2.2.2 + iM)), (1, .int p0), (3, .int x2)]) rfl dX12_keeperOf_50 rfl (Nat.le_of_ble_eq_true rfl) rfl ?_
            obtain ⟨x10, hx10, h⟩ := xlt_some h
            refine ev_iinc (L' := [(3, .int x10), (2, .int x2), (0, .ref (E.2.2.2 + iM)), (1, .int p0)]) 3 dX12_keeperOf_51 rfl ((by rfl : x2 + Int32.ofInt 1 = x2 + 1).trans hx10) (Nat.le_of_ble_eq_true rfl) rfl ?_
            refine ev_goto (tgt := 4) dX12_keeperOf_54 (by decide) ?_
            cases h
            replace hk := xel_l hk
            exact ev_sub [2, 3, 1, 0] rfl (hk)
  · show Ev E (xcm E d 0 0 QQ) Y_X12_keeperOf 57 [(2, .int q11)] [] (xσ μ R) n 0 0
    refine ev_iload_n 0 dX12_keeperOf_57 rfl rfl ?_
    cases h
    exact ev_iret rfl (hQ) dX12_keeperOf_58 (Nat.zero_le _) (Nat.zero_le _)
def fX12_keeps (p0 : Int32) (p1 : Int32) (p2 : Int32) (μ : xm) : Option (Int32) := xbd (fX12_isOf p0 p1 μ) fun q1 => if q1 = 0 then (some (-1)) else (xbd (fX12_isOf p0 p2 μ) fun q2 => if q2 = 0 then (some (-1)) else (if p1 = p2 then (some (-1)) else (xbd (xgI μ iM_cameAt 192 ((8 * p0) + p1)) fun v3 => if v3 = (-1) then (some (-1)) else (xbd (xgI μ iM_cameAt 192 ((8 * p0) + p2)) fun v4 => if v4 = (-1) then (some (-1)) else (xbd (fX12_keepsAt p0 p1 p2 μ) fun q5 => some q5)))))
set_option maxHeartbeats 4000000 in
set_option maxRecDepth 100000 in
theorem kX12_keeps {E : xE} {d : Nat} {QQ : xP} (hd : 2 ≤ d) {p0 : Int32} {p1 : Int32} {p2 : Int32} {μ : xm} {R : xr} {n : Nat} (hF : xFin R n)  {res : Int32} (h : fX12_keeps p0 p1 p2 μ = some res) (hQ : QQ (some (.int res)) (xσ μ R) n) : xCon E d Y_X12_keeps 0 0 [.ref (E.2.2.2 + iM), .int p0, .int p1, .int p2] (xσ μ R) n QQ := by
  refine xCon_of pn_RX12 (Nat.le_of_ble_eq_true rfl) (L0 := [(0, .ref (E.2.2.2 + iM)), (1, .int p0), (2, .int p1), (3, .int p2)]) rfl ?_
  unfold fX12_keeps at h
  refine ev_aload_n 0 dX12_keeps_0 rfl rfl ?_
  refine ev_iload_n 1 dX12_keeps_1 rfl rfl ?_
  refine ev_iload_n 2 dX12_keeps_2 rfl rfl ?_
  obtain ⟨q1, hq1, h⟩ := xbd_some h
  refine ev_callV (ci := 12) (rest := []) 2 (kX12_isOf (E := E) (d := 1) (QQ := (fun v τ n' => v = some (.int q1) ∧ τ = xσ μ R ∧ n = n')) (Nat.le_refl _) hF hq1 (⟨rfl, rfl, rfl⟩)) my_X12_isOf ⟨m_1470, m_1472, m_40⟩ cl_12 kd_61 (xl hF rfl) rfl rfl (Nat.le_of_ble_eq_true rfl) (Nat.le_trans (by decide) hd) (xlo (by decide) (Nat.le_trans (by decide) hd)) (Nat.zero_le _) (Nat.zero_le _) dX12_keeps_3 (fun v τ n' hv => ?_)
  obtain ⟨rfl, rfl, rfl⟩ := hv
  show Ev E (xcm E d 0 0 QQ) Y_X12_keeps 6 [(0, .ref (E.2.2.2 + iM)), (1, .int p0), (2, .int p1), (3, .int p2)] [.int q1] (xσ μ R) n 0 0
  refine ev_if_eq (tgt := 53) dX12_keeps_6 (by decide) (fun c6 => ?_) (fun c6 => ?_)
  · replace h := xif_t c6 h
    refine ev_iconst (v := (-1)) dX12_keeps_53 (by decide) ?_
    refine ev_goto (tgt := 64) dX12_keeps_54 (by decide) ?_
    cases h
    exact ev_iret rfl (hQ) dX12_keeps_64 (Nat.zero_le _) (Nat.zero_le _)
  · replace h := xif_f c6 h
    refine ev_aload_n 0 dX12_keeps_9 rfl rfl ?_
    refine ev_iload_n 1 dX12_keeps_10 rfl rfl ?_
    refine ev_iload_n 3 dX12_keeps_11 rfl rfl ?_
    obtain ⟨q2, hq2, h⟩ := xbd_some h
    refine ev_callV (ci := 12) (rest := []) 2 (kX12_isOf (E := E) (d := 1) (QQ := (fun v τ n' => v = some (.int q2) ∧ τ = xσ μ R ∧ n = n')) (Nat.le_refl _) hF hq2 (⟨rfl, rfl, rfl⟩)) my_X12_isOf ⟨m_1470, m_1472, m_40⟩ cl_12 kd_61 (xl hF rfl) rfl rfl (Nat.le_of_ble_eq_true rfl) (Nat.le_trans (by decide) hd) (xlo (by decide) (Nat.le_trans (by decide) hd)) (Nat.zero_le _) (Nat.zero_le _) dX12_keeps_12 (fun v τ n' hv => ?_)
    obtain ⟨rfl, rfl, rfl⟩ := hv
    show Ev E (xcm E d 0 0 QQ) Y_X12_keeps 15 [(0, .ref (E.2.2.2 + iM)), (1, .int p0), (2, .int p1), (3, .int p2)] [.int q2] (xσ μ R) n 0 0
    refine ev_if_eq (tgt := 53) dX12_keeps_15 (by decide) (fun c15 => ?_) (fun c15 => ?_)
    · replace h := xif_t c15 h
      refine ev_iconst (v := (-1)) dX12_keeps_53 (by decide) ?_
      refine ev_goto (tgt := 64) dX12_keeps_54 (by decide) ?_
      cases h
      exact ev_iret rfl (hQ) dX12_keeps_64 (Nat.zero_le _) (Nat.zero_le _)
    · replace h := xif_f c15 h
      refine ev_iload_n 2 dX12_keeps_18 rfl rfl ?_
      refine ev_iload_n 3 dX12_keeps_19 rfl rfl ?_
      refine ev_icmp_eq (tgt := 53) dX12_keeps_20 (by decide) (fun c20 => ?_) (fun c20 => ?_)
      · replace h := xif_t c20 h
        refine ev_iconst (v := (-1)) dX12_keeps_53 (by decide) ?_
        refine ev_goto (tgt := 64) dX12_keeps_54 (by decide) ?_
        cases h
        exact ev_iret rfl (hQ) dX12_keeps_64 (Nat.zero_le _) (Nat.zero_le _)
      · replace h := xif_f c20 h
        refine ev_aload_n 0 dX12_keeps_23 rfl rfl ?_
        refine xv_getF (a := iM_cameAt) cl_12 lk_RX12_22 kd_61 (xl hF rfl) (fun _ => rfl) (fr_61_8 hF) dX12_keeps_24 ?_
        refine ev_bipush (v := 8) dX12_keeps_27 (by decide) ?_
        refine ev_iload_n 1 dX12_keeps_29 rfl rfl ?_
        refine ev_imul dX12_keeps_30 ?_
        refine ev_iload_n 2 dX12_keeps_31 rfl rfl ?_
        refine ev_iadd dX12_keeps_32 ?_
        obtain ⟨v3, hv3, h⟩ := xbd_some h
        refine xv_iald kd_66 (xl hF rfl) hv3 dX12_keeps_33 ?_
        refine ev_iconst (v := (-1)) dX12_keeps_34 (by decide) ?_
        refine ev_icmp_eq (tgt := 53) dX12_keeps_35 (by decide) (fun c35 => ?_) (fun c35 => ?_)
        · replace h := xif_t c35 h
          refine ev_iconst (v := (-1)) dX12_keeps_53 (by decide) ?_
          refine ev_goto (tgt := 64) dX12_keeps_54 (by decide) ?_
          cases h
          exact ev_iret rfl (hQ) dX12_keeps_64 (Nat.zero_le _) (Nat.zero_le _)
        · replace h := xif_f c35 h
          refine ev_aload_n 0 dX12_keeps_38 rfl rfl ?_
          refine xv_getF (a := iM_cameAt) cl_12 lk_RX12_22 kd_61 (xl hF rfl) (fun _ => rfl) (fr_61_8 hF) dX12_keeps_39 ?_
          refine ev_bipush (v := 8) dX12_keeps_42 (by decide) ?_
          refine ev_iload_n 1 dX12_keeps_44 rfl rfl ?_
          refine ev_imul dX12_keeps_45 ?_
          refine ev_iload_n 3 dX12_keeps_46 rfl rfl ?_
          refine ev_iadd dX12_keeps_47 ?_
          obtain ⟨v4, hv4, h⟩ := xbd_some h
          refine xv_iald kd_66 (xl hF rfl) hv4 dX12_keeps_48 ?_
          refine ev_iconst (v := (-1)) dX12_keeps_49 (by decide) ?_
          refine ev_icmp_ne (tgt := 57) dX12_keeps_50 (by decide) (fun c50 => ?_) (fun c50 => ?_)
          · replace h := xif_f c50 h
            refine ev_aload_n 0 dX12_keeps_57 rfl rfl ?_
            refine ev_iload_n 1 dX12_keeps_58 rfl rfl ?_
            refine ev_iload_n 2 dX12_keeps_59 rfl rfl ?_
            refine ev_iload_n 3 dX12_keeps_60 rfl rfl ?_
            obtain ⟨q5, hq5, h⟩ := xbd_some h
            refine ev_callV (ci := 12) (rest := []) 3 (kX12_keepsAt (E := E) (d := 0) (QQ := (fun v τ n' => v = some (.int q5) ∧ τ = xσ μ R ∧ n = n')) (Nat.le_refl _) hF hq5 (⟨rfl, rfl, rfl⟩)) my_X12_keepsAt ⟨m_1494, m_1496, m_44⟩ cl_12 kd_61 (xl hF rfl) rfl rfl (Nat.le_of_ble_eq_true rfl) (Nat.le_trans (by decide) hd) (xlo (by decide) (Nat.le_trans (by decide) hd)) (Nat.zero_le _) (Nat.zero_le _) dX12_keeps_61 (fun v τ n' hv => ?_)
            obtain ⟨rfl, rfl, rfl⟩ := hv
            show Ev E (xcm E d 0 0 QQ) Y_X12_keeps 64 [(0, .ref (E.2.2.2 + iM)), (1, .int p0), (2, .int p1), (3, .int p2)] [.int q5] (xσ μ R) n 0 0
            cases h
            exact ev_iret rfl (hQ) dX12_keeps_64 (Nat.zero_le _) (Nat.zero_le _)
          · replace h := xif_t c50 h
            refine ev_iconst (v := (-1)) dX12_keeps_53 (by decide) ?_
            refine ev_goto (tgt := 64) dX12_keeps_54 (by decide) ?_
            cases h
            exact ev_iret rfl (hQ) dX12_keeps_64 (Nat.zero_le _) (Nat.zero_le _)
def fX12_lateWeight_b6 (x1 : Int32) (x2 : Int32) (p0 : Int32) (p1 : Int32) (p2 : Int32) (μ : xm) : Option ((Int32 × Int32) ⊕ (Int32)) := xbd (fX12_endsOf p0 μ) fun q4 => if q4 ≤ x2 then (some (.inr x1)) else (xbd (fX12_wayAt p0 x2 p2 μ) fun q5 => if q5 ≤ p1 then (xlt (x1 + 0) fun x6 => xlt (x2 + 1) fun x7 => some (.inl (x6, x7))) else (xbd (fX12_weightAt p0 x2 μ) fun q8 => xlt (x1 + q8) fun x9 => xlt (x2 + 1) fun x10 => some (.inl (x9, x10))))
def fX12_lateWeight (p0 : Int32) (p1 : Int32) (p2 : Int32) (μ : xm) : Option (Int32) := xbd (xloop xfu (fun v => fX12_lateWeight_b6 v.1 v.2 p0 p1 p2 μ) (0, 0)) fun q11 => some q11
set_option maxHeartbeats 4000000 in
set_option maxRecDepth 100000 in
theorem kX12_lateWeight {E : xE} {d : Nat} {QQ : xP} (hd : 2 ≤ d) {p0 : Int32} {p1 : Int32} {p2 : Int32} {μ : xm} {R : xr} {n : Nat} (hF : xFin R n)  {res : Int32} (h : fX12_lateWeight p0 p1 p2 μ = some res) (hQ : QQ (some (.int res)) (xσ μ R) n) : xCon E d Y_X12_lateWeight 0 0 [.ref (E.2.2.2 + iM), .int p0, .int p1, .int p2] (xσ μ R) n QQ := by
  refine xCon_of pn_RX12 (Nat.le_of_ble_eq_true rfl) (L0 := [(0, .ref (E.2.2.2 + iM)), (1, .int p0), (2, .int p1), (3, .int p2)]) rfl ?_
  unfold fX12_lateWeight at h
  refine ev_iconst (v := 0) dX12_lateWeight_0 (by decide) ?_
  refine xv_istore (L' := [(4, .int 0), (0, .ref (E.2.2.2 + iM)), (1, .int p0), (2, .int p1), (3, .int p2)]) rfl dX12_lateWeight_1 (Nat.le_of_ble_eq_true rfl) rfl ?_
  refine ev_iconst (v := 0) dX12_lateWeight_3 (by decide) ?_
  refine xv_istore (L' := [(5, .int 0), (4, .int 0), (0, .ref (E.2.2.2 + iM)), (1, .int p0), (2, .int p1), (3, .int p2)]) rfl dX12_lateWeight_4 (Nat.le_of_ble_eq_true rfl) rfl ?_
  obtain ⟨q11, hq11, h⟩ := xbd_some h
  refine ev_sub (L' := [(0, .ref (E.2.2.2 + iM)), (1, .int p0), (2, .int p1), (3, .int p2), (4, .int 0), (5, .int 0)]) [2, 3, 4, 5, 1, 0] rfl ?_
  refine xloop_run (fun v => Ev E (xcm E d 0 0 QQ) Y_X12_lateWeight 6 [(0, .ref (E.2.2.2 + iM)), (1, .int p0), (2, .int p1), (3, .int p2), (4, .int v.1), (5, .int v.2)] [] (xσ μ R) n 0 0) (fun v => Ev E (xcm E d 0 0 QQ) Y_X12_lateWeight 50 [(4, .int v)] [] (xσ μ R) n 0 0) ?_ _ _ _ hq11 ?_
  · rintro ⟨x1, x2⟩ y3 h hk
    replace h : fX12_lateWeight_b6 x1 x2 p0 p1 p2 μ = some y3 := h
    show Ev E (xcm E d 0 0 QQ) Y_X12_lateWeight 6 [(0, .ref (E.2.2.2 + iM)), (1, .int p0), (2, .int p1), (3, .int p2), (4, .int x1), (5, .int x2)] [] (xσ μ R) n 0 0
    unfold fX12_lateWeight_b6 at h
    refine ev_iload 5 dX12_lateWeight_6 rfl ?_
    refine ev_aload_n 0 dX12_lateWeight_8 rfl rfl ?_
    refine ev_iload_n 1 dX12_lateWeight_9 rfl rfl ?_
    obtain ⟨q4, hq4, h⟩ := xbd_some h
    refine ev_callV (ci := 12) (rest := [.int x2]) 1 (kX12_endsOf (E := E) (d := 0) (QQ := (fun v τ n' => v = some (.int q4) ∧ τ = xσ μ R ∧ n = n')) (Nat.le_refl _) hF hq4 (⟨rfl, rfl, rfl⟩)) my_X12_endsOf ⟨m_1754, m_1756, m_88⟩ cl_12 kd_61 (xl hF rfl) rfl rfl (Nat.le_of_ble_eq_true rfl) (Nat.le_trans (by decide) hd) (xlo (by decide) (Nat.le_trans (by decide) hd)) (Nat.zero_le _) (Nat.zero_le _) dX12_lateWeight_10 (fun v τ n' hv => ?_)
    obtain ⟨rfl, rfl, rfl⟩ := hv
    show Ev E (xcm E d 0 0 QQ) Y_X12_lateWeight 13 [(0, .ref (E.2.2.2 + iM)), (1, .int p0), (2, .int p1), (3, .int p2), (4, .int x1), (5, .int x2)] [.int q4, .int x2] (xσ μ R) n 0 0
    refine ev_icmp_ge (tgt := 50) dX12_lateWeight_13 (by decide) (fun c13 => ?_) (fun c13 => ?_)
    · replace h := xif_t c13 h
      cases h
      replace hk := xel_r hk
      exact ev_sub [4] rfl (hk)
    · replace h := xif_f c13 h
      refine ev_iload 4 dX12_lateWeight_16 rfl ?_
      refine ev_aload_n 0 dX12_lateWeight_18 rfl rfl ?_
      refine ev_iload_n 1 dX12_lateWeight_19 rfl rfl ?_
      refine ev_iload 5 dX12_lateWeight_20 rfl ?_
      refine ev_iload_n 3 dX12_lateWeight_22 rfl rfl ?_
      obtain ⟨q5, hq5, h⟩ := xbd_some h
      refine ev_callV (ci := 12) (rest := [.int x1]) 3 (kX12_wayAt (E := E) (d := 1) (QQ := (fun v τ n' => v = some (.int q5) ∧ τ = xσ μ R ∧ n = n')) (Nat.le_refl _) hF hq5 (⟨rfl, rfl, rfl⟩)) my_X12_wayAt ⟨m_1758, m_1760, m_89⟩ cl_12 kd_61 (xl hF rfl) rfl rfl (Nat.le_of_ble_eq_true rfl) (Nat.le_trans (by decide) hd) (xlo (by decide) (Nat.le_trans (by decide) hd)) (Nat.zero_le _) (Nat.zero_le _) dX12_lateWeight_23 (fun v τ n' hv => ?_)
      obtain ⟨rfl, rfl, rfl⟩ := hv
      show Ev E (xcm E d 0 0 QQ) Y_X12_lateWeight 26 [(0, .ref (E.2.2.2 + iM)), (1, .int p0), (2, .int p1), (3, .int p2), (4, .int x1), (5, .int x2)] [.int q5, .int x1] (xσ μ R) n 0 0
      refine ev_iload_n 2 dX12_lateWeight_26 rfl rfl ?_
      refine ev_icmp_le (tgt := 40) dX12_lateWeight_27 (by decide) (fun c27 => ?_) (fun c27 => ?_)
      · replace h := xif_t c27 h
        refine ev_iconst (v := 0) dX12_lateWeight_40 (by decide) ?_
        refine ev_iadd dX12_lateWeight_41 ?_
        obtain ⟨x6, hx6, h⟩ := xlt_some h
        refine xv_istore (L' := [(4, .int x6), (0, .ref (E.2.2.2 + iM)), (1, .int p0), (2, .int p1), (3, .int p2), (5, .int x2)]) hx6 dX12_lateWeight_42 (Nat.le_of_ble_eq_true rfl) rfl ?_
        obtain ⟨x7, hx7, h⟩ := xlt_some h
        refine ev_iinc (L' := [(5, .int x7), (4, .int x6), (0, .ref (E.2.2.2 + iM)), (1, .int p0), (2, .int p1), (3, .int p2)]) 5 dX12_lateWeight_44 rfl ((by rfl : x2 + Int32.ofInt 1 = x2 + 1).trans hx7) (Nat.le_of_ble_eq_true rfl) rfl ?_
        refine ev_goto (tgt := 6) dX12_lateWeight_47 (by decide) ?_
        cases h
        replace hk := xel_l hk
        exact ev_sub [2, 3, 4, 5, 1, 0] rfl (hk)
      · replace h := xif_f c27 h
        refine ev_aload_n 0 dX12_lateWeight_30 rfl rfl ?_
        refine ev_iload_n 1 dX12_lateWeight_31 rfl rfl ?_
        refine ev_iload 5 dX12_lateWeight_32 rfl ?_
        obtain ⟨q8, hq8, h⟩ := xbd_some h
        refine ev_callV (ci := 12) (rest := [.int x1]) 2 (kX12_weightAt (E := E) (d := 0) (QQ := (fun v τ n' => v = some (.int q8) ∧ τ = xσ μ R ∧ n = n')) (Nat.le_refl _) hF hq8 (⟨rfl, rfl, rfl⟩)) my_X12_weightAt ⟨m_1762, m_1764, m_90⟩ cl_12 kd_61 (xl hF rfl) rfl rfl (Nat.le_of_ble_eq_true rfl) (Nat.le_trans (by decide) hd) (xlo (by decide) (Nat.le_trans (by decide) hd)) (Nat.zero_le _) (Nat.zero_le _) dX12_lateWeight_34 (fun v τ n' hv => ?_)
        obtain ⟨rfl, rfl, rfl⟩ := hv
        show Ev E (xcm E d 0 0 QQ) Y_X12_lateWeight 37 [(0, .ref (E.2.2.2 + iM)), (1, .int p0), (2, .int p1), (3, .int p2), (4, .int x1), (5, .int x2)] [.int q8, .int x1] (xσ μ R) n 0 0
        refine ev_goto (tgt := 41) dX12_lateWeight_37 (by decide) ?_
        refine ev_iadd dX12_lateWeight_41 ?_
        obtain ⟨x9, hx9, h⟩ := xlt_some h
        refine xv_istore (L' := [(4, .int x9), (0, .ref (E.2.2.2 + iM)), (1, .int p0), (2, .int p1), (3, .int p2), (5, .int x2)]) hx9 dX12_lateWeight_42 (Nat.le_of_ble_eq_true rfl) rfl ?_
        obtain ⟨x10, hx10, h⟩ := xlt_some h
        refine ev_iinc (L' := [(5, .int x10), (4, .int x9), (0, .ref (E.2.2.2 + iM)), (1, .int p0), (2, .int p1), (3, .int p2)]) 5 dX12_lateWeight_44 rfl ((by rfl : x2 + Int32.ofInt 1 = x2 + 1).trans hx10) (Nat.le_of_ble_eq_true rfl) rfl ?_
        refine ev_goto (tgt := 6) dX12_lateWeight_47 (by decide) ?_
        cases h
        replace hk := xel_l hk
        exact ev_sub [2, 3, 4, 5, 1, 0] rfl (hk)
  · show Ev E (xcm E d 0 0 QQ) Y_X12_lateWeight 50 [(4, .int q11)] [] (xσ μ R) n 0 0
    refine ev_iload 0 dX12_lateWeight_50 rfl ?_
    cases h
    exact ev_iret rfl (hQ) dX12_lateWeight_52 (Nat.zero_le _) (Nat.zero_le _)
def fX12_laysGoers_b7 (x2 : Int32) (μ3 : xm) (p0 : Int32) : Option ((Int32 × xm) ⊕ (xm)) := if 8 ≤ x2 then (some (.inr μ3)) else (xbd (fX12_isOf p0 x2 μ3) fun q5 => if q5 = 0 then (xlt (x2 + 1) fun x10 => some (.inl (x10, μ3))) else (xbd (xsI μ3 iM_goer 4 (μ3.1 iM 61) x2) fun μ6 => xbd (xsI μ6 iM_aheadOf 4 (μ6.1 iM 61) 0) fun μ7 => xlt (xpI μ7 iM 61 ((μ7.1 iM 61) + 1)) fun μ8 => xlt (x2 + 1) fun x9 => some (.inl (x9, μ8))))
def fX12_laysGoers (p0 : Int32) (μ : xm) : Option (xm) := xlt (xpI μ iM 61 0) fun μ1 => xbd (xloop xfu (fun v => fX12_laysGoers_b7 v.1 v.2 p0) (0, μ1)) fun q11 => some q11
set_option maxHeartbeats 4000000 in
set_option maxRecDepth 100000 in
theorem kX12_laysGoers {E : xE} {d : Nat} {QQ : xP} (hd : 2 ≤ d) {p0 : Int32} {μ : xm} {R : xr} {n : Nat} (hF : xFin R n)  {res : xm} (h : fX12_laysGoers p0 μ = some res) (hQ : QQ none (xσ res R) n) : xCon E d Y_X12_laysGoers 0 0 [.ref (E.2.2.2 + iM), .int p0] (xσ μ R) n QQ := by
  refine xCon_of pn_RX12 (Nat.le_of_ble_eq_true rfl) (L0 := [(0, .ref (E.2.2.2 + iM)), (1, .int p0)]) rfl ?_
  unfold fX12_laysGoers at h
  refine ev_aload_n 0 dX12_laysGoers_0 rfl rfl ?_
  refine ev_iconst (v := 0) dX12_laysGoers_1 (by decide) ?_
  obtain ⟨μ1, hμ1, h⟩ := xlt_some h
  refine xv_putI cl_12 lk_RX12_439 rfl kd_61 (xl hF rfl) rfl rfl (fun _ => rfl) hμ1 dX12_laysGoers_2 ?_
  refine ev_iconst (v := 0) dX12_laysGoers_5 (by decide) ?_
  refine xv_istore_n (L' := [(2, .int 0), (0, .ref (E.2.2.2 + iM)), (1, .int p0)]) rfl dX12_laysGoers_6 rfl (Nat.le_of_ble_eq_true rfl) rfl ?_
  obtain ⟨q11, hq11, h⟩ := xbd_some h
  refine ev_sub (L' := [(0, .ref (E.2.2.2 + iM)), (1, .int p0), (2, .int 0)]) [1, 2, 0] rfl ?_
  refine xloop_run (fun v => Ev E (xcm E d 0 0 QQ) Y_X12_laysGoers 7 [(0, .ref (E.2.2.2 + iM)), (1, .int p0), (2, .int v.1)] [] (xσ v.2 R) n 0 0) (fun v => Ev E (xcm E d 0 0 QQ) Y_X12_laysGoers 61 [] [] (xσ v R) n 0 0) ?_ _ _ _ hq11 ?_
  · rintro ⟨x2, μ3⟩ y4 h hk
    replace h : fX12_laysGoers_b7 x2 μ3 p0 = some y4 := h
    show Ev E (xcm E d 0 0 QQ) Y_X12_laysGoers 7 [(0, .ref (E.2.2.2 + iM)), (1, .int p0), (2, .int x2)] [] (xσ μ3 R) n 0 0
    unfold fX12_laysGoers_b7 at h
    refine ev_iload_n 2 dX12_laysGoers_7 rfl rfl ?_
    refine ev_bipush (v := 8) dX12_laysGoers_8 (by decide) ?_
    refine ev_icmp_ge (tgt := 61) dX12_laysGoers_10 (by decide) (fun c10 => ?_) (fun c10 => ?_)
    · replace h := xif_t c10 h
      cases h
      replace hk := xel_r hk
      exact ev_sub [] rfl (hk)
    · replace h := xif_f c10 h
      refine ev_aload_n 0 dX12_laysGoers_13 rfl rfl ?_
      refine ev_iload_n 1 dX12_laysGoers_14 rfl rfl ?_
      refine ev_iload_n 2 dX12_laysGoers_15 rfl rfl ?_
      obtain ⟨q5, hq5, h⟩ := xbd_some h
      refine ev_callV (ci := 12) (rest := []) 2 (kX12_isOf (E := E) (d := 1) (QQ := (fun v τ n' => v = some (.int q5) ∧ τ = xσ μ3 R ∧ n = n')) (Nat.le_refl _) hF hq5 (⟨rfl, rfl, rfl⟩)) my_X12_isOf ⟨m_1470, m_1472, m_40⟩ cl_12 kd_61 (xl hF rfl) rfl rfl (Nat.le_of_ble_eq_true rfl) (Nat.le_trans (by decide) hd) (xlo (by decide) (Nat.le_trans (by decide) hd)) (Nat.zero_le _) (Nat.zero_le _) dX12_laysGoers_16 (fun v τ n' hv => ?_)
      obtain ⟨rfl, rfl, rfl⟩ := hv
      show Ev E (xcm E d 0 0 QQ) Y_X12_laysGoers 19 [(0, .ref (E.2.2.2 + iM)), (1, .int p0), (2, .int x2)] [.int q5] (xσ μ3 R) n 0 0
      refine ev_if_ne (tgt := 25) dX12_laysGoers_19 (by decide) (fun c19 => ?_) (fun c19 => ?_)
      · replace h := xif_f c19 h
        refine ev_aload_n 0 dX12_laysGoers_25 rfl rfl ?_
        refine xv_getF (a := iM_goer) cl_12 lk_RX12_136 kd_61 (xl hF rfl) (fun _ => rfl) (fr_61_62 hF) dX12_laysGoers_26 ?_
        refine ev_aload_n 0 dX12_laysGoers_29 rfl rfl ?_
        refine xv_getI cl_12 lk_RX12_439 kd_61 (xl hF rfl) (fun _ => rfl) dX12_laysGoers_30 ?_
        refine ev_iload_n 2 dX12_laysGoers_33 rfl rfl ?_
        obtain ⟨μ6, hμ6, h⟩ := xbd_some h
        refine xv_iast kd_103 (xl hF rfl) hμ6 dX12_laysGoers_34 ?_
        refine ev_aload_n 0 dX12_laysGoers_35 rfl rfl ?_
        refine xv_getF (a := iM_aheadOf) cl_12 lk_RX12_139 kd_61 (xl hF rfl) (fun _ => rfl) (fr_61_63 hF) dX12_laysGoers_36 ?_
        refine ev_aload_n 0 dX12_laysGoers_39 rfl rfl ?_
        refine xv_getI cl_12 lk_RX12_439 kd_61 (xl hF rfl) (fun _ => rfl) dX12_laysGoers_40 ?_
        refine ev_iconst (v := 0) dX12_laysGoers_43 (by decide) ?_
        obtain ⟨μ7, hμ7, h⟩ := xbd_some h
        refine xv_iast kd_104 (xl hF rfl) hμ7 dX12_laysGoers_44 ?_
        refine ev_aload_n 0 dX12_laysGoers_45 rfl rfl ?_
        refine ev_aload_n 0 dX12_laysGoers_46 rfl rfl ?_
        refine xv_getI cl_12 lk_RX12_439 kd_61 (xl hF rfl) (fun _ => rfl) dX12_laysGoers_47 ?_
        refine ev_iconst (v := 1) dX12_laysGoers_50 (by decide) ?_
        refine ev_iadd dX12_laysGoers_51 ?_
        obtain ⟨μ8, hμ8, h⟩ := xlt_some h
        refine xv_putI cl_12 lk_RX12_439 rfl kd_61 (xl hF rfl) rfl rfl (fun _ => rfl) hμ8 dX12_laysGoers_52 ?_
        obtain ⟨x9, hx9, h⟩ := xlt_some h
        refine ev_iinc (L' := [(2, .int x9), (0, .ref (E.2.2.2 + iM)), (1, .int p0)]) 2 dX12_laysGoers_55 rfl ((by rfl : x2 + Int32.ofInt 1 = x2 + 1).trans hx9) (Nat.le_of_ble_eq_true rfl) rfl ?_
        refine ev_goto (tgt := 7) dX12_laysGoers_58 (by decide) ?_
        cases h
        replace hk := xel_l hk
        exact ev_sub [1, 2, 0] rfl (hk)
      · replace h := xif_t c19 h
        refine ev_goto (tgt := 55) dX12_laysGoers_22 (by decide) ?_
        obtain ⟨x10, hx10, h⟩ := xlt_some h
        refine ev_iinc (L' := [(2, .int x10), (0, .ref (E.2.2.2 + iM)), (1, .int p0)]) 2 dX12_laysGoers_55 rfl ((by rfl : x2 + Int32.ofInt 1 = x2 + 1).trans hx10) (Nat.le_of_ble_eq_true rfl) rfl ?_
        refine ev_goto (tgt := 7) dX12_laysGoers_58 (by decide) ?_
        cases h
        replace hk := xel_l hk
        exact ev_sub [1, 2, 0] rfl (hk)
  · show Ev E (xcm E d 0 0 QQ) Y_X12_laysGoers 61 [] [] (xσ q11 R) n 0 0
    cases h
    exact ev_vret rfl (hQ) dX12_laysGoers_61 (Nat.zero_le _) (Nat.zero_le _)
def fX12_noteIs (p0 : Int32) (p1 : Int32) (μ : xm) : Option (Int32) := xbd (fX12_isNote p0 μ) fun q1 => if q1 = 0 then (some (-1000)) else (if p1 = 0 then (xbd (xgI μ iM_owesIt 60 p0) fun v2 => some v2) else (if p1 = 1 then (xbd (xgI μ iM_hasIt 60 p0) fun v3 => some v3) else (if p1 = 2 then (xbd (xgI μ iM_leftOf 60 p0) fun v4 => some v4) else (if p1 = 3 then (xbd (xgI μ iM_madeOn 60 p0) fun v5 => some v5) else (if p1 = 4 then (xbd (xgI μ iM_lapseOf 60 p0) fun v6 => some v6) else (if p1 = 5 then (xbd (fX12_isLive p0 μ) fun q7 => if q7 = 0 then (some 0) else (some 1)) else (some (-1000))))))))
set_option maxHeartbeats 4000000 in
set_option maxRecDepth 100000 in
theorem kX12_noteIs {E : xE} {d : Nat} {QQ : xP} (hd : 2 ≤ d) {p0 : Int32} {p1 : Int32} {μ : xm} {R : xr} {n : Nat} (hF : xFin R n)  {res : Int32} (h : fX12_noteIs p0 p1 μ = some res) (hQ : QQ (some (.int res)) (xσ μ R) n) : xCon E d Y_X12_noteIs 0 0 [.ref (E.2.2.2 + iM), .int p0, .int p1] (xσ μ R) n QQ := by
  refine xCon_of pn_RX12 (Nat.le_of_ble_eq_true rfl) (L0 := [(0, .ref (E.2.2.2 + iM)), (1, .int p0), (2, .int p1)]) rfl ?_
  unfold fX12_noteIs at h
  refine ev_aload_n 0 dX12_noteIs_0 rfl rfl ?_
  refine ev_iload_n 1 dX12_noteIs_1 rfl rfl ?_
  obtain ⟨q1, hq1, h⟩ := xbd_some h
  refine ev_callV (ci := 12) (rest := []) 1 (kX12_isNote (E := E) (d := 0) (QQ := (fun v τ n' => v = some (.int q1) ∧ τ = xσ μ R ∧ n = n')) (Nat.le_refl _) hF hq1 (⟨rfl, rfl, rfl⟩)) my_X12_isNote ⟨m_1660, m_1662, m_76⟩ cl_12 kd_61 (xl hF rfl) rfl rfl (Nat.le_of_ble_eq_true rfl) (Nat.le_trans (by decide) hd) (xlo (by decide) (Nat.le_trans (by decide) hd)) (Nat.zero_le _) (Nat.zero_le _) dX12_noteIs_2 (fun v τ n' hv => ?_)
  obtain ⟨rfl, rfl, rfl⟩ := hv
  show Ev E (xcm E d 0 0 QQ) Y_X12_noteIs 5 [(0, .ref (E.2.2.2 + iM)), (1, .int p0), (2, .int p1)] [.int q1] (xσ μ R) n 0 0
  refine ev_if_ne (tgt := 12) dX12_noteIs_5 (by decide) (fun c5 => ?_) (fun c5 => ?_)
  · replace h := xif_f c5 h
    refine ev_iload_n 2 dX12_noteIs_12 rfl rfl ?_
    by_cases c13_0 : p1 = 0
    · replace h := xif_t c13_0 h
      refine ev_switch (tgt := 52) (off := 39) dX12_noteIs_13 (xsw_in (v := 0) (by rw [c13_0]; rfl) (by decide +kernel)) (by decide) ?_
      refine ev_aload_n 0 dX12_noteIs_52 rfl rfl ?_
      refine xv_getF (a := iM_owesIt) cl_12 lk_RX12_78 kd_61 (xl hF rfl) (fun _ => rfl) (fr_61_38 hF) dX12_noteIs_53 ?_
      refine ev_iload_n 1 dX12_noteIs_56 rfl rfl ?_
      obtain ⟨v2, hv2, h⟩ := xbd_some h
      refine xv_iald kd_84 (xl hF rfl) hv2 dX12_noteIs_57 ?_
      cases h
      exact ev_iret rfl (hQ) dX12_noteIs_58 (Nat.zero_le _) (Nat.zero_le _)
    · replace h := xif_f c13_0 h
      by_cases c13_1 : p1 = 1
      · replace h := xif_t c13_1 h
        refine ev_switch (tgt := 59) (off := 46) dX12_noteIs_13 (xsw_in (v := 1) (by rw [c13_1]; rfl) (by decide +kernel)) (by decide) ?_
        refine ev_aload_n 0 dX12_noteIs_59 rfl rfl ?_
        refine xv_getF (a := iM_hasIt) cl_12 lk_RX12_81 kd_61 (xl hF rfl) (fun _ => rfl) (fr_61_39 hF) dX12_noteIs_60 ?_
        refine ev_iload_n 1 dX12_noteIs_63 rfl rfl ?_
        obtain ⟨v3, hv3, h⟩ := xbd_some h
        refine xv_iald kd_85 (xl hF rfl) hv3 dX12_noteIs_64 ?_
        cases h
        exact ev_iret rfl (hQ) dX12_noteIs_65 (Nat.zero_le _) (Nat.zero_le _)
      · replace h := xif_f c13_1 h
        by_cases c13_2 : p1 = 2
        · replace h := xif_t c13_2 h
          refine ev_switch (tgt := 66) (off := 53) dX12_noteIs_13 (xsw_in (v := 2) (by rw [c13_2]; rfl) (by decide +kernel)) (by decide) ?_
          refine ev_aload_n 0 dX12_noteIs_66 rfl rfl ?_
          refine xv_getF (a := iM_leftOf) cl_12 lk_RX12_84 kd_61 (xl hF rfl) (fun _ => rfl) (fr_61_40 hF) dX12_noteIs_67 ?_
          refine ev_iload_n 1 dX12_noteIs_70 rfl rfl ?_
          obtain ⟨v4, hv4, h⟩ := xbd_some h
          refine xv_iald kd_86 (xl hF rfl) hv4 dX12_noteIs_71 ?_
          cases h
          exact ev_iret rfl (hQ) dX12_noteIs_72 (Nat.zero_le _) (Nat.zero_le _)
        · replace h := xif_f c13_2 h
          by_cases c13_3 : p1 = 3
          · replace h := xif_t c13_3 h
            refine ev_switch (tgt := 73) (off := 60) dX12_noteIs_13 (xsw_in (v := 3) (by rw [c13_3]; rfl) (by decide +kernel)) (by decide) ?_
            refine ev_aload_n 0 dX12_noteIs_73 rfl rfl ?_
            refine xv_getF (a := iM_madeOn) cl_12 lk_RX12_87 kd_61 (xl hF rfl) (fun _ => rfl) (fr_61_41 hF) dX12_noteIs_74 ?_
            refine ev_iload_n 1 dX12_noteIs_77 rfl rfl ?_
            obtain ⟨v5, hv5, h⟩ := xbd_some h
            refine xv_iald kd_87 (xl hF rfl) hv5 dX12_noteIs_78 ?_
            cases h
            exact ev_iret rfl (hQ) dX12_noteIs_79 (Nat.zero_le _) (Nat.zero_le _)
          · replace h := xif_f c13_3 h
            by_cases c13_4 : p1 = 4
            · replace h := xif_t c13_4 h
              refine ev_switch (tgt := 80) (off := 67) dX12_noteIs_13 (xsw_in (v := 4) (by rw [c13_4]; rfl) (by decide +kernel)) (by decide) ?_
              refine ev_aload_n 0 dX12_noteIs_80 rfl rfl ?_
              refine xv_getF (a := iM_lapseOf) cl_12 lk_RX12_90 kd_61 (xl hF rfl) (fun _ => rfl) (fr_61_42 hF) dX12_noteIs_81 ?_
              refine ev_iload_n 1 dX12_noteIs_84 rfl rfl ?_
              obtain ⟨v6, hv6, h⟩ := xbd_some h
              refine xv_iald kd_88 (xl hF rfl) hv6 dX12_noteIs_85 ?_
              cases h
              exact ev_iret rfl (hQ) dX12_noteIs_86 (Nat.zero_le _) (Nat.zero_le _)
            · replace h := xif_f c13_4 h
              by_cases c13_5 : p1 = 5
              · replace h := xif_t c13_5 h
                refine ev_switch (tgt := 87) (off := 74) dX12_noteIs_13 (xsw_in (v := 5) (by rw [c13_5]; rfl) (by decide +kernel)) (by decide) ?_
                refine ev_aload_n 0 dX12_noteIs_87 rfl rfl ?_
                refine ev_iload_n 1 dX12_noteIs_88 rfl rfl ?_
                obtain ⟨q7, hq7, h⟩ := xbd_some h
                refine ev_callV (ci := 12) (rest := []) 1 (kX12_isLive (E := E) (d := 1) (QQ := (fun v τ n' => v = some (.int q7) ∧ τ = xσ μ R ∧ n = n')) (Nat.le_refl _) hF hq7 (⟨rfl, rfl, rfl⟩)) my_X12_isLive ⟨m_1664, m_1666, m_77⟩ cl_12 kd_61 (xl hF rfl) rfl rfl (Nat.le_of_ble_eq_true rfl) (Nat.le_trans (by decide) hd) (xlo (by decide) (Nat.le_trans (by decide) hd)) (Nat.zero_le _) (Nat.zero_le _) dX12_noteIs_89 (fun v τ n' hv => ?_)
                obtain ⟨rfl, rfl, rfl⟩ := hv
                show Ev E (xcm E d 0 0 QQ) Y_X12_noteIs 92 [(0, .ref (E.2.2.2 + iM)), (1, .int p0), (2, .int p1)] [.int q7] (xσ μ R) n 0 0
                refine ev_if_eq (tgt := 99) dX12_noteIs_92 (by decide) (fun c92 => ?_) (fun c92 => ?_)
                · replace h := xif_t c92 h
                  refine ev_iconst (v := 0) dX12_noteIs_99 (by decide) ?_
                  cases h
                  exact ev_iret rfl (hQ) dX12_noteIs_100 (Nat.zero_le _) (Nat.zero_le _)
                · replace h := xif_f c92 h
                  refine ev_iconst (v := 1) dX12_noteIs_95 (by decide) ?_
                  refine ev_goto (tgt := 100) dX12_noteIs_96 (by decide) ?_
                  cases h
                  exact ev_iret rfl (hQ) dX12_noteIs_100 (Nat.zero_le _) (Nat.zero_le _)
              · replace h := xif_f c13_5 h
                refine ev_switch (tgt := 101) (off := 88) dX12_noteIs_13 (xsw_out [0, 1, 2, 3, 4, 5] (List.forall_mem_cons.mpr ⟨(xne (c := 0) rfl c13_0), (List.forall_mem_cons.mpr ⟨(xne (c := 1) rfl c13_1), (List.forall_mem_cons.mpr ⟨(xne (c := 2) rfl c13_2), (List.forall_mem_cons.mpr ⟨(xne (c := 3) rfl c13_3), (List.forall_mem_cons.mpr ⟨(xne (c := 4) rfl c13_4), (List.forall_mem_cons.mpr ⟨(xne (c := 5) rfl c13_5), (fun _ e => absurd e List.not_mem_nil)⟩)⟩)⟩)⟩)⟩)⟩) (by decide +kernel)) (by decide) ?_
                refine ev_sipush (v := (-1000)) dX12_noteIs_101 (by decide) ?_
                cases h
                exact ev_iret rfl (hQ) dX12_noteIs_104 (Nat.zero_le _) (Nat.zero_le _)
  · replace h := xif_t c5 h
    refine ev_sipush (v := (-1000)) dX12_noteIs_8 (by decide) ?_
    cases h
    exact ev_iret rfl (hQ) dX12_noteIs_11 (Nat.zero_le _) (Nat.zero_le _)
def fX12_owed_j92 (μ : xm) (x1 : Int32) (x2 : Int32) : Option ((Int32 × Int32) ⊕ (Int32)) := xbd (xgI μ iM_leftOf 60 x2) fun v7 => xlt (x1 + v7) fun x8 => xlt (x2 + 1) fun x9 => some (.inl (x8, x9))
def fX12_owed_j76 (p1 : Int32) (μ : xm) (x1 : Int32) (x2 : Int32) : Option ((Int32 × Int32) ⊕ (Int32)) := if p1 = (-1) then (fX12_owed_j92 μ x1 x2) else (xbd (xgI μ iM_hasIt 60 x2) fun v10 => if v10 = p1 then (fX12_owed_j92 μ x1 x2) else (xlt (x1 + 0) fun x11 => xlt (x2 + 1) fun x12 => some (.inl (x11, x12))))
def fX12_owed_b41 (x1 : Int32) (x2 : Int32) (p0 : Int32) (p1 : Int32) (μ : xm) : Option ((Int32 × Int32) ⊕ (Int32)) := if (μ.1 iM 37) ≤ x2 then (some (.inr x1)) else (xbd (fX12_isLive x2 μ) fun q4 => if q4 = 0 then (xlt (x1 + 0) fun x5 => xlt (x2 + 1) fun x6 => some (.inl (x5, x6))) else (if p0 = (-1) then (fX12_owed_j76 p1 μ x1 x2) else (xbd (xgI μ iM_owesIt 60 x2) fun v13 => if v13 = p0 then (fX12_owed_j76 p1 μ x1 x2) else (xlt (x1 + 0) fun x14 => xlt (x2 + 1) fun x15 => some (.inl (x14, x15))))))
def fX12_owed_j36 (p0 : Int32) (p1 : Int32) (μ : xm) : Option (Int32) := xbd (xloop xfu (fun v => fX12_owed_b41 v.1 v.2 p0 p1 μ) (0, 0)) fun q16 => some q16
def fX12_owed_j24 (p0 : Int32) (p1 : Int32) (μ : xm) : Option (Int32) := if p0 = (-1) then (fX12_owed_j36 p0 p1 μ) else (if p0 = p1 then (some (-1)) else (fX12_owed_j36 p0 p1 μ))
def fX12_owed_j12 (p0 : Int32) (p1 : Int32) (μ : xm) : Option (Int32) := if p1 = (-1) then (fX12_owed_j24 p0 p1 μ) else (xbd (fX12_isPerson p1) fun q17 => if q17 = 0 then (some (-1)) else (fX12_owed_j24 p0 p1 μ))
def fX12_owed (p0 : Int32) (p1 : Int32) (μ : xm) : Option (Int32) := if p0 = (-1) then (fX12_owed_j12 p0 p1 μ) else (xbd (fX12_isPerson p0) fun q18 => if q18 = 0 then (some (-1)) else (fX12_owed_j12 p0 p1 μ))
set_option maxHeartbeats 4000000 in
set_option maxRecDepth 100000 in
theorem kX12_owed {E : xE} {d : Nat} {QQ : xP} (hd : 2 ≤ d) {p0 : Int32} {p1 : Int32} {μ : xm} {R : xr} {n : Nat} (hF : xFin R n)  {res : Int32} (h : fX12_owed p0 p1 μ = some res) (hQ : QQ (some (.int res)) (xσ μ R) n) : xCon E d Y_X12_owed 0 0 [.ref (E.2.2.2 + iM), .int p0, .int p1] (xσ μ R) n QQ := by
  refine xCon_of pn_RX12 (Nat.le_of_ble_eq_true rfl) (L0 := [(0, .ref (E.2.2.2 + iM)), (1, .int p0), (2, .int p1)]) rfl ?_
  unfold fX12_owed at h
  refine ev_iload_n 1 dX12_owed_0 rfl rfl ?_
  refine ev_iconst (v := (-1)) dX12_owed_1 (by decide) ?_
  have j12 : fX12_owed_j12 p0 p1 μ = some res → Ev E (xcm E d 0 0 QQ) Y_X12_owed 12 [(0, .ref (E.2.2.2 + iM)), (1, .int p0), (2, .int p1)] [] (xσ μ R) n 0 0 := by
    intro h
    unfold fX12_owed_j12 at h
    refine ev_iload_n 2 dX12_owed_12 rfl rfl ?_
    refine ev_iconst (v := (-1)) dX12_owed_13 (by decide) ?_
    have j24 : fX12_owed_j24 p0 p1 μ = some res → Ev E (xcm E d 0 0 QQ) Y_X12_owed 24 [(0, .ref (E.2.2.2 + iM)), (1, .int p0), (2, .int p1)] [] (xσ μ R) n 0 0 := by
      intro h
      unfold fX12_owed_j24 at h
      refine ev_iload_n 1 dX12_owed_24 rfl rfl ?_
      refine ev_iconst (v := (-1)) dX12_owed_25 (by decide) ?_
      have j36 : fX12_owed_j36 p0 p1 μ = some res → Ev E (xcm E d 0 0 QQ) Y_X12_owed 36 [(0, .ref (E.2.2.2 + iM)), (1, .int p0), (2, .int p1)] [] (xσ μ R) n 0 0 := by
        intro h
        unfold fX12_owed_j36 at h
        refine ev_iconst (v := 0) dX12_owed_36 (by decide) ?_
        refine xv_istore_n (L' := [(3, .int 0), (0, .ref (E.2.2.2 + iM)), (1, .int p0), (2, .int p1)]) rfl dX12_owed_37 rfl (Nat.le_of_ble_eq_true rfl) rfl ?_
        refine ev_iconst (v := 0) dX12_owed_38 (by decide) ?_
        refine xv_istore (L' := [(4, .int 0), (3, .int 0), (0, .ref (E.2.2.2 + iM)), (1, .int p0), (2, .int p1)]) rfl dX12_owed_39 (Nat.le_of_ble_eq_true rfl) rfl ?_
        obtain ⟨q16, hq16, h⟩ := xbd_some h
        refine ev_sub (L' := [(0, .ref (E.2.2.2 + iM)), (1, .int p0), (2, .int p1), (3, .int 0), (4, .int 0)]) [2, 3, 4, 1, 0] rfl ?_
        refine xloop_run (fun v => Ev E (xcm E d 0 0 QQ) Y_X12_owed 41 [(0, .ref (E.2.2.2 + iM)), (1, .int p0), (2, .int p1), (3, .int v.1), (4, .int v.2)] [] (xσ μ R) n 0 0) (fun v => Ev E (xcm E d 0 0 QQ) Y_X12_owed 111 [(3, .int v)] [] (xσ μ R) n 0 0) ?_ _ _ _ hq16 ?_
        · rintro ⟨x1, x2⟩ y3 h hk
          replace h : fX12_owed_b41 x1 x2 p0 p1 μ = some y3 := h
          show Ev E (xcm E d 0 0 QQ) Y_X12_owed 41 [(0, .ref (E.2.2.2 + iM)), (1, .int p0), (2, .int p1), (3, .int x1), (4, .int x2)] [] (xσ μ R) n 0 0
          unfold fX12_owed_b41 at h
          refine ev_iload 4 dX12_owed_41 rfl ?_
          refine ev_aload_n 0 dX12_owed_43 rfl rfl ?_
          refine xv_getI cl_12 lk_RX12_328 kd_61 (xl hF rfl) (fun _ => rfl) dX12_owed_44 ?_
          refine ev_icmp_ge (tgt := 111) dX12_owed_47 (by decide) (fun c47 => ?_) (fun c47 => ?_)
          · replace h := xif_t c47 h
            cases h
            replace hk := xel_r hk
            exact ev_sub [3] rfl (hk)
          · replace h := xif_f c47 h
            refine ev_iload_n 3 dX12_owed_50 rfl rfl ?_
            refine ev_aload_n 0 dX12_owed_51 rfl rfl ?_
            refine ev_iload 4 dX12_owed_52 rfl ?_
            obtain ⟨q4, hq4, h⟩ := xbd_some h
            refine ev_callV (ci := 12) (rest := [.int x1]) 1 (kX12_isLive (E := E) (d := 1) (QQ := (fun v τ n' => v = some (.int q4) ∧ τ = xσ μ R ∧ n = n')) (Nat.le_refl _) hF hq4 (⟨rfl, rfl, rfl⟩)) my_X12_isLive ⟨m_1664, m_1666, m_77⟩ cl_12 kd_61 (xl hF rfl) rfl rfl (Nat.le_of_ble_eq_true rfl) (Nat.le_trans (by decide) hd) (xlo (by decide) (Nat.le_trans (by decide) hd)) (Nat.zero_le _) (Nat.zero_le _) dX12_owed_54 (fun v τ n' hv => ?_)
            obtain ⟨rfl, rfl, rfl⟩ := hv
            show Ev E (xcm E d 0 0 QQ) Y_X12_owed 57 [(0, .ref (E.2.2.2 + iM)), (1, .int p0), (2, .int p1), (3, .int x1), (4, .int x2)] [.int q4, .int x1] (xσ μ R) n 0 0
            refine ev_if_eq (tgt := 102) dX12_owed_57 (by decide) (fun c57 => ?_) (fun c57 => ?_)
            · replace h := xif_t c57 h
              refine ev_iconst (v := 0) dX12_owed_102 (by decide) ?_
              refine ev_iadd dX12_owed_103 ?_
              obtain ⟨x5, hx5, h⟩ := xlt_some h
              refine xv_istore_n (L' := [(3, .int x5), (0, .ref (E.2.2.2 + iM)), (1, .int p0), (2, .int p1), (4, .int x2)]) hx5 dX12_owed_104 rfl (Nat.le_of_ble_eq_true rfl) rfl ?_
              obtain ⟨x6, hx6, h⟩ := xlt_some h
              refine ev_iinc (L' := [(4, .int x6), (3, .int x5), (0, .ref (E.2.2.2 + iM)), (1, .int p0), (2, .int p1)]) 4 dX12_owed_105 rfl ((by rfl : x2 + Int32.ofInt 1 = x2 + 1).trans hx6) (Nat.le_of_ble_eq_true rfl) rfl ?_
              refine ev_goto (tgt := 41) dX12_owed_108 (by decide) ?_
              cases h
              replace hk := xel_l hk
              exact ev_sub [2, 3, 4, 1, 0] rfl (hk)
            · replace h := xif_f c57 h
              refine ev_iload_n 1 dX12_owed_60 rfl rfl ?_
              refine ev_iconst (v := (-1)) dX12_owed_61 (by decide) ?_
              have j76 : fX12_owed_j76 p1 μ x1 x2 = some y3 → Ev E (xcm E d 0 0 QQ) Y_X12_owed 76 [(0, .ref (E.2.2.2 + iM)), (1, .int p0), (2, .int p1), (4, .int x2)] [.int x1] (xσ μ R) n 0 0 := by
                intro h
                unfold fX12_owed_j76 at h
                refine ev_iload_n 2 dX12_owed_76 rfl rfl ?_
                refine ev_iconst (v := (-1)) dX12_owed_77 (by decide) ?_
                have j92 : fX12_owed_j92 μ x1 x2 = some y3 → Ev E (xcm E d 0 0 QQ) Y_X12_owed 92 [(0, .ref (E.2.2.2 + iM)), (1, .int p0), (2, .int p1), (4, .int x2)] [.int x1] (xσ μ R) n 0 0 := by
                  intro h
                  unfold fX12_owed_j92 at h
                  refine ev_aload_n 0 dX12_owed_92 rfl rfl ?_
                  refine xv_getF (a := iM_leftOf) cl_12 lk_RX12_84 kd_61 (xl hF rfl) (fun _ => rfl) (fr_61_40 hF) dX12_owed_93 ?_
                  refine ev_iload 3 dX12_owed_96 rfl ?_
                  obtain ⟨v7, hv7, h⟩ := xbd_some h
                  refine xv_iald kd_86 (xl hF rfl) hv7 dX12_owed_98 ?_
                  refine ev_goto (tgt := 103) dX12_owed_99 (by decide) ?_
                  refine ev_iadd dX12_owed_103 ?_
                  obtain ⟨x8, hx8, h⟩ := xlt_some h
                  refine xv_istore_n (L' := [(3, .int x8), (0, .ref (E.2.2.2 + iM)), (1, .int p0), (2, .int p1), (4, .int x2)]) hx8 dX12_owed_104 rfl (Nat.le_of_ble_eq_true rfl) rfl ?_
                  obtain ⟨x9, hx9, h⟩ := xlt_some h
                  refine ev_iinc (L' := [(4, .int x9), (3, .int x8), (0, .ref (E.2.2.2 + iM)), (1, .int p0), (2, .int p1)]) 4 dX12_owed_105 rfl ((by rfl : x2 + Int32.ofInt 1 = x2 + 1).trans hx9) (Nat.le_of_ble_eq_true rfl) rfl ?_
                  refine ev_goto (tgt := 41) dX12_owed_108 (by decide) ?_
                  cases h
                  replace hk := xel_l hk
                  exact ev_sub [2, 3, 4, 1, 0] rfl (hk)
                refine ev_icmp_eq (tgt := 92) dX12_owed_78 (by decide) (fun c78 => ?_) (fun c78 => ?_)
                · replace h := xif_t c78 h
                  exact ev_sub [0, 1, 2, 3] rfl (j92 h)
                · replace h := xif_f c78 h
                  refine ev_aload_n 0 dX12_owed_81 rfl rfl ?_
                  refine xv_getF (a := iM_hasIt) cl_12 lk_RX12_81 kd_61 (xl hF rfl) (fun _ => rfl) (fr_61_39 hF) dX12_owed_82 ?_
                  refine ev_iload 3 dX12_owed_85 rfl ?_
                  obtain ⟨v10, hv10, h⟩ := xbd_some h
                  refine xv_iald kd_85 (xl hF rfl) hv10 dX12_owed_87 ?_
                  refine ev_iload_n 2 dX12_owed_88 rfl rfl ?_
                  refine ev_icmp_ne (tgt := 102) dX12_owed_89 (by decide) (fun c89 => ?_) (fun c89 => ?_)
                  · replace h := xif_f c89 h
                    refine ev_iconst (v := 0) dX12_owed_102 (by decide) ?_
                    refine ev_iadd dX12_owed_103 ?_
                    obtain ⟨x11, hx11, h⟩ := xlt_some h
                    refine xv_istore_n (L' := [(3, .int x11), (0, .ref (E.2.2.2 + iM)), (1, .int p0), (2, .int p1), (4, .int x2)]) hx11 dX12_owed_104 rfl (Nat.le_of_ble_eq_true rfl) rfl ?_
                    obtain ⟨x12, hx12, h⟩ := xlt_some h
                    refine ev_iinc (L' := [(4, .int x12), (3, .int x11), (0, .ref (E.2.2.2 + iM)), (1, .int p0), (2, .int p1)]) 4 dX12_owed_105 rfl ((by rfl : x2 + Int32.ofInt 1 = x2 + 1).trans hx12) (Nat.le_of_ble_eq_true rfl) rfl ?_
                    refine ev_goto (tgt := 41) dX12_owed_108 (by decide) ?_
                    cases h
                    replace hk := xel_l hk
                    exact ev_sub [2, 3, 4, 1, 0] rfl (hk)
                  · replace h := xif_t c89 h
                    exact ev_sub [0, 1, 2, 3] rfl (j92 h)
              refine ev_icmp_eq (tgt := 76) dX12_owed_62 (by decide) (fun c62 => ?_) (fun c62 => ?_)
              · replace h := xif_t c62 h
                exact ev_sub [0, 1, 2, 4] rfl (j76 h)
              · replace h := xif_f c62 h
                refine ev_aload_n 0 dX12_owed_65 rfl rfl ?_
                refine xv_getF (a := iM_owesIt) cl_12 lk_RX12_78 kd_61 (xl hF rfl) (fun _ => rfl) (fr_61_38 hF) dX12_owed_66 ?_
                refine ev_iload 4 dX12_owed_69 rfl ?_
                obtain ⟨v13, hv13, h⟩ := xbd_some h
                refine xv_iald kd_84 (xl hF rfl) hv13 dX12_owed_71 ?_
                refine ev_iload_n 1 dX12_owed_72 rfl rfl ?_
                refine ev_icmp_ne (tgt := 102) dX12_owed_73 (by decide) (fun c73 => ?_) (fun c73 => ?_)
                · replace h := xif_f c73 h
                  refine ev_iconst (v := 0) dX12_owed_102 (by decide) ?_
                  refine ev_iadd dX12_owed_103 ?_
                  obtain ⟨x14, hx14, h⟩ := xlt_some h
                  refine xv_istore_n (L' := [(3, .int x14), (0, .ref (E.2.2.2 + iM)), (1, .int p0), (2, .int p1), (4, .int x2)]) hx14 dX12_owed_104 rfl (Nat.le_of_ble_eq_true rfl) rfl ?_
                  obtain ⟨x15, hx15, h⟩ := xlt_some h
                  refine ev_iinc (L' := [(4, .int x15), (3, .int x14), (0, .ref (E.2.2.2 + iM)), (1, .int p0), (2, .int p1)]) 4 dX12_owed_105 rfl ((by rfl : x2 + Int32.ofInt 1 = x2 + 1).trans hx15) (Nat.le_of_ble_eq_true rfl) rfl ?_
                  refine ev_goto (tgt := 41) dX12_owed_108 (by decide) ?_
                  cases h
                  replace hk := xel_l hk
                  exact ev_sub [2, 3, 4, 1, 0] rfl (hk)
                · replace h := xif_t c73 h
                  exact ev_sub [0, 1, 2, 4] rfl (j76 h)
        · show Ev E (xcm E d 0 0 QQ) Y_X12_owed 111 [(3, .int q16)] [] (xσ μ R) n 0 0
          refine ev_iload_n 0 dX12_owed_111 rfl rfl ?_
          cases h
          exact ev_iret rfl (hQ) dX12_owed_112 (Nat.zero_le _) (Nat.zero_le _)
      refine ev_icmp_eq (tgt := 36) dX12_owed_26 (by decide) (fun c26 => ?_) (fun c26 => ?_)
      · replace h := xif_t c26 h
        exact ev_sub [0, 1, 2] rfl (j36 h)
      · replace h := xif_f c26 h
        refine ev_iload_n 1 dX12_owed_29 rfl rfl ?_
        refine ev_iload_n 2 dX12_owed_30 rfl rfl ?_
        refine ev_icmp_ne (tgt := 36) dX12_owed_31 (by decide) (fun c31 => ?_) (fun c31 => ?_)
        · replace h := xif_f c31 h
          exact ev_sub [0, 1, 2] rfl (j36 h)
        · replace h := xif_t c31 h
          refine ev_iconst (v := (-1)) dX12_owed_34 (by decide) ?_
          cases h
          exact ev_iret rfl (hQ) dX12_owed_35 (Nat.zero_le _) (Nat.zero_le _)
    refine ev_icmp_eq (tgt := 24) dX12_owed_14 (by decide) (fun c14 => ?_) (fun c14 => ?_)
    · replace h := xif_t c14 h
      exact ev_sub [0, 1, 2] rfl (j24 h)
    · replace h := xif_f c14 h
      refine ev_iload_n 2 dX12_owed_17 rfl rfl ?_
      obtain ⟨q17, hq17, h⟩ := xbd_some h
      refine ev_callS (As := [.int p1]) (rest := []) 1 (kX12_isPerson (E := E) (d := 0) (QQ := (fun v τ n' => v = some (.int q17) ∧ τ = xσ μ R ∧ n = n')) (Nat.le_refl _)  hq17 (⟨rfl, rfl, rfl⟩)) my_X12_isPerson ⟨m_1456, m_1457⟩ rfl rfl (Nat.le_of_ble_eq_true rfl) (Nat.le_trans (by decide) hd) (xlo (by decide) (Nat.le_trans (by decide) hd)) (Nat.zero_le _) (Nat.zero_le _) dX12_owed_18 (fun v τ n' hv => ?_)
      obtain ⟨rfl, rfl, rfl⟩ := hv
      show Ev E (xcm E d 0 0 QQ) Y_X12_owed 21 [(0, .ref (E.2.2.2 + iM)), (1, .int p0), (2, .int p1)] [.int q17] (xσ μ R) n 0 0
      refine ev_if_eq (tgt := 34) dX12_owed_21 (by decide) (fun c21 => ?_) (fun c21 => ?_)
      · replace h := xif_t c21 h
        refine ev_iconst (v := (-1)) dX12_owed_34 (by decide) ?_
        cases h
        exact ev_iret rfl (hQ) dX12_owed_35 (Nat.zero_le _) (Nat.zero_le _)
      · replace h := xif_f c21 h
        exact ev_sub [0, 1, 2] rfl (j24 h)
  refine ev_icmp_eq (tgt := 12) dX12_owed_2 (by decide) (fun c2 => ?_) (fun c2 => ?_)
  · replace h := xif_t c2 h
    exact ev_sub [0, 1, 2] rfl (j12 h)
  · replace h := xif_f c2 h
    refine ev_iload_n 1 dX12_owed_5 rfl rfl ?_
    obtain ⟨q18, hq18, h⟩ := xbd_some h
    refine ev_callS (As := [.int p0]) (rest := []) 1 (kX12_isPerson (E := E) (d := 0) (QQ := (fun v τ n' => v = some (.int q18) ∧ τ = xσ μ R ∧ n = n')) (Nat.le_refl _)  hq18 (⟨rfl, rfl, rfl⟩)) my_X12_isPerson ⟨m_1456, m_1457⟩ rfl rfl (Nat.le_of_ble_eq_true rfl) (Nat.le_trans (by decide) hd) (xlo (by decide) (Nat.le_trans (by decide) hd)) (Nat.zero_le _) (Nat.zero_le _) dX12_owed_6 (fun v τ n' hv => ?_)
    obtain ⟨rfl, rfl, rfl⟩ := hv
    show Ev E (xcm E d 0 0 QQ) Y_X12_owed 9 [(0, .ref (E.2.2.2 + iM)), (1, .int p0), (2, .int p1)] [.int q18] (xσ μ R) n 0 0
    refine ev_if_eq (tgt := 34) dX12_owed_9 (by decide) (fun c9 => ?_) (fun c9 => ?_)
    · replace h := xif_t c9 h
      refine ev_iconst (v := (-1)) dX12_owed_34 (by decide) ?_
      cases h
      exact ev_iret rfl (hQ) dX12_owed_35 (Nat.zero_le _) (Nat.zero_le _)
    · replace h := xif_f c9 h
      exact ev_sub [0, 1, 2] rfl (j12 h)
def fX12_readsNumber_b10 (μ3 : xm) (x1 : Int32) : Option ((xm) ⊕ ((xm) ⊕ (Int32 × xm))) := xbd (fX12_isDigit μ3) fun q5 => if q5 = 0 then (some (.inr (.inl μ3))) else (if (μ3.1 iM 12) = (x1 + 5) then (xbd (fX12_wrongAt 2 (μ3.1 iM 12) μ3) fun q9 => xbd (xz q9.1) fun z10 => some (.inr (.inr (z10, q9.2)))) else (xbd (fX12_here μ3) fun q6 => xlt (xpI μ3 iM 19 (((10 * (μ3.1 iM 19)) + q6) - 48)) fun μ7 => xlt (xpI μ7 iM 12 ((μ7.1 iM 12) + 1)) fun μ8 => some (.inl μ8)))
def fX12_readsNumber (μ : xm) : Option (Int32 × xm) := xlt (μ.1 iM 12) fun x1 => xlt (xpI μ iM 19 0) fun μ2 => xbd (xloop xfu (fun v => fX12_readsNumber_b10 v x1) μ2) fun q11 => xsm q11 (fun q12 => some (1, q12)) (fun q13 => some q13)
set_option maxHeartbeats 4000000 in
set_option maxRecDepth 100000 in
theorem kX12_readsNumber {E : xE} {d : Nat} {QQ : xP} (hd : 2 ≤ d)  {μ : xm} {R : xr} {n : Nat} (hF : xFin R n)  {res : Int32 × xm} (h : fX12_readsNumber μ = some res) (hQ : QQ (some (.int res.1)) (xσ res.2 R) n) : xCon E d Y_X12_readsNumber 0 0 [.ref (E.2.2.2 + iM)] (xσ μ R) n QQ := by
  refine xCon_of pn_RX12 (Nat.le_of_ble_eq_true rfl) (L0 := [(0, .ref (E.2.2.2 + iM))]) rfl ?_
  unfold fX12_readsNumber at h
  refine ev_aload_n 0 dX12_readsNumber_0 rfl rfl ?_
  refine xv_getI cl_12 lk_RX12_210 kd_61 (xl hF rfl) (fun _ => rfl) dX12_readsNumber_1 ?_
  obtain ⟨x1, hx1, h⟩ := xlt_some h
  refine xv_istore_n (L' := [(1, .int x1), (0, .ref (E.2.2.2 + iM))]) hx1 dX12_readsNumber_4 rfl (Nat.le_of_ble_eq_true rfl) rfl ?_
  refine ev_aload_n 1 dX12_readsNumber_5 rfl rfl ?_
  refine ev_iconst (v := 0) dX12_readsNumber_6 (by decide) ?_
  obtain ⟨μ2, hμ2, h⟩ := xlt_some h
  refine xv_putI cl_12 lk_RX12_226 rfl kd_61 (xl hF rfl) rfl rfl (fun _ => rfl) hμ2 dX12_readsNumber_7 ?_
  obtain ⟨q11, hq11, h⟩ := xbd_some h
  refine ev_sub (L' := [(0, .ref (E.2.2.2 + iM)), (1, .int x1)]) [1, 0] rfl ?_
  refine xloop_run (fun v => Ev E (xcm E d 0 0 QQ) Y_X12_readsNumber 10 [(0, .ref (E.2.2.2 + iM)), (1, .int x1)] [] (xσ v R) n 0 0) (xel (fun v => Ev E (xcm E d 0 0 QQ) Y_X12_readsNumber 69 [] [] (xσ v R) n 0 0) (fun v => QQ (some (.int v.1)) (xσ v.2 R) n)) ?_ _ _ _ hq11 ?_
  · rintro μ3 y4 h hk
    replace h : fX12_readsNumber_b10 μ3 x1 = some y4 := h
    show Ev E (xcm E d 0 0 QQ) Y_X12_readsNumber 10 [(0, .ref (E.2.2.2 + iM)), (1, .int x1)] [] (xσ μ3 R) n 0 0
    unfold fX12_readsNumber_b10 at h
    refine ev_aload_n 0 dX12_readsNumber_10 rfl rfl ?_
    obtain ⟨q5, hq5, h⟩ := xbd_some h
    refine ev_callV (ci := 12) (rest := []) 0 (kX12_isDigit (E := E) (d := 1) (QQ := (fun v τ n' => v = some (.int q5) ∧ τ = xσ μ3 R ∧ n = n')) (Nat.le_refl _) hF hq5 (⟨rfl, rfl, rfl⟩)) my_X12_isDigit ⟨m_1555, m_1557, m_56⟩ cl_12 kd_61 (xl hF rfl) rfl rfl (Nat.le_of_ble_eq_true rfl) (Nat.le_trans (by decide) hd) (xlo (by decide) (Nat.le_trans (by decide) hd)) (Nat.zero_le _) (Nat.zero_le _) dX12_readsNumber_11 (fun v τ n' hv => ?_)
    obtain ⟨rfl, rfl, rfl⟩ := hv
    show Ev E (xcm E d 0 0 QQ) Y_X12_readsNumber 14 [(0, .ref (E.2.2.2 + iM)), (1, .int x1)] [.int q5] (xσ μ3 R) n 0 0
    refine ev_if_eq (tgt := 69) dX12_readsNumber_14 (by decide) (fun c14 => ?_) (fun c14 => ?_)
    · replace h := xif_t c14 h
      cases h
      replace hk := xel_r hk
      replace hk := xel_l hk
      exact ev_sub [] rfl (hk)
    · replace h := xif_f c14 h
      refine ev_aload_n 0 dX12_readsNumber_17 rfl rfl ?_
      refine xv_getI cl_12 lk_RX12_210 kd_61 (xl hF rfl) (fun _ => rfl) dX12_readsNumber_18 ?_
      refine ev_iload_n 1 dX12_readsNumber_21 rfl rfl ?_
      refine ev_iconst (v := 5) dX12_readsNumber_22 (by decide) ?_
      refine ev_iadd dX12_readsNumber_23 ?_
      refine ev_icmp_ne (tgt := 37) dX12_readsNumber_24 (by decide) (fun c24 => ?_) (fun c24 => ?_)
      · replace h := xif_f c24 h
        refine ev_aload_n 0 dX12_readsNumber_37 rfl rfl ?_
        refine ev_bipush (v := 10) dX12_readsNumber_38 (by decide) ?_
        refine ev_aload_n 0 dX12_readsNumber_40 rfl rfl ?_
        refine xv_getI cl_12 lk_RX12_226 kd_61 (xl hF rfl) (fun _ => rfl) dX12_readsNumber_41 ?_
        refine ev_imul dX12_readsNumber_44 ?_
        refine ev_aload_n 0 dX12_readsNumber_45 rfl rfl ?_
        obtain ⟨q6, hq6, h⟩ := xbd_some h
        refine ev_callV (ci := 12) (rest := [.int (10 * (μ3.1 iM 19)), .ref (E.2.2.2 + iM)]) 0 (kX12_here (E := E) (d := 0) (QQ := (fun v τ n' => v = some (.int q6) ∧ τ = xσ μ3 R ∧ n = n')) (Nat.le_refl _) hF hq6 (⟨rfl, rfl, rfl⟩)) my_X12_here ⟨m_1534, m_1536, m_51⟩ cl_12 kd_61 (xl hF rfl) rfl rfl (Nat.le_of_ble_eq_true rfl) (Nat.le_trans (by decide) hd) (xlo (by decide) (Nat.le_trans (by decide) hd)) (Nat.zero_le _) (Nat.zero_le _) dX12_readsNumber_46 (fun v τ n' hv => ?_)
        obtain ⟨rfl, rfl, rfl⟩ := hv
        show Ev E (xcm E d 0 0 QQ) Y_X12_readsNumber 49 [(0, .ref (E.2.2.2 + iM)), (1, .int x1)] [.int q6, .int (10 * (μ3.1 iM 19)), .ref (E.2.2.2 + iM)] (xσ μ3 R) n 0 0
        refine ev_iadd dX12_readsNumber_49 ?_
        refine ev_bipush (v := 48) dX12_readsNumber_50 (by decide) ?_
        refine ev_isub dX12_readsNumber_52 ?_
        obtain ⟨μ7, hμ7, h⟩ := xlt_some h
        refine xv_putI cl_12 lk_RX12_226 rfl kd_61 (xl hF rfl) rfl rfl (fun _ => rfl) hμ7 dX12_readsNumber_53 ?_
        refine ev_aload_n 0 dX12_readsNumber_56 rfl rfl ?_
        refine ev_aload_n 0 dX12_readsNumber_57 rfl rfl ?_
        refine xv_getI cl_12 lk_RX12_210 kd_61 (xl hF rfl) (fun _ => rfl) dX12_readsNumber_58 ?_
        refine ev_iconst (v := 1) dX12_readsNumber_61 (by decide) ?_
        refine ev_iadd dX12_readsNumber_62 ?_
        obtain ⟨μ8, hμ8, h⟩ := xlt_some h
        refine xv_putI cl_12 lk_RX12_210 rfl kd_61 (xl hF rfl) rfl rfl (fun _ => rfl) hμ8 dX12_readsNumber_63 ?_
        refine ev_goto (tgt := 10) dX12_readsNumber_66 (by decide) ?_
        cases h
        replace hk := xel_l hk
        exact ev_sub [0, 1] rfl (hk)
      · replace h := xif_t c24 h
        refine ev_aload_n 0 dX12_readsNumber_27 rfl rfl ?_
        refine ev_iconst (v := 2) dX12_readsNumber_28 (by decide) ?_
        refine ev_aload_n 0 dX12_readsNumber_29 rfl rfl ?_
        refine xv_getI cl_12 lk_RX12_210 kd_61 (xl hF rfl) (fun _ => rfl) dX12_readsNumber_30 ?_
        obtain ⟨q9, hq9, h⟩ := xbd_some h
        refine ev_callV (ci := 12) (rest := []) 2 (kX12_wrongAt (E := E) (d := 0) (QQ := (fun v τ n' => v = some (.int q9.1) ∧ τ = xσ q9.2 R ∧ n = n')) (Nat.le_refl _) hF hq9 (⟨rfl, rfl, rfl⟩)) my_X12_wrongAt ⟨m_1538, m_1540, m_52⟩ cl_12 kd_61 (xl hF rfl) rfl rfl (Nat.le_of_ble_eq_true rfl) (Nat.le_trans (by decide) hd) (xlo (by decide) (Nat.le_trans (by decide) hd)) (Nat.zero_le _) (Nat.zero_le _) dX12_readsNumber_33 (fun v τ n' hv => ?_)
        obtain ⟨rfl, rfl, rfl⟩ := hv
        show Ev E (xcm E d 0 0 QQ) Y_X12_readsNumber 36 [(0, .ref (E.2.2.2 + iM)), (1, .int x1)] [.int q9.1] (xσ q9.2 R) n 0 0
        obtain ⟨z10, hz10, h⟩ := xbd_some h
        obtain ⟨hzz10, hez10⟩ := xz_some hz10
        rw [hez10]
        cases h
        replace hk := xel_r hk
        replace hk := xel_r hk
        exact ev_zret rfl hzz10 (hk) dX12_readsNumber_36 (Nat.zero_le _) (Nat.zero_le _)
  · rcases q11 with q12 | q13
    · replace h := xsm_l h
      show Ev E (xcm E d 0 0 QQ) Y_X12_readsNumber 69 [] [] (xσ q12 R) n 0 0
      refine ev_iconst (v := 1) dX12_readsNumber_69 (by decide) ?_
      cases h
      exact ev_zret rfl (Or.inr rfl) (hQ) dX12_readsNumber_70 (Nat.zero_le _) (Nat.zero_le _)
    · replace h := xsm_r h
      cases h
      exact hQ
def fX12_take (p0 : Int32) (p1 : Int32) (p2 : Int32) (μ : xm) : Option (Int32 × xm) := xbd (fX12_isLive p0 μ) fun q1 => if q1 = 0 then (some ((-1), μ)) else (xbd (fX12_in p1 1 60) fun q2 => if q2 = 0 then (some ((-1), μ)) else (xbd (xgI μ iM_leftOf 60 p0) fun v3 => if v3 < p1 then (some ((-1), μ)) else (xbd (fX12_in p2 0 23) fun q4 => if q4 = 0 then (some ((-1), μ)) else (xbd (xgI μ iM_owesIt 60 p0) fun v5 => xlt ((24 * v5) + p2) fun x6 => xbd (xgI μ iM_hasIt 60 p0) fun v7 => xlt ((24 * v7) + p2) fun x8 => xbd (xgI μ iM_gaveIn 192 x6) fun v9 => if 60 < (v9 + p1) then (some ((-1), μ)) else (xbd (xgI μ iM_tookIn 192 x8) fun v10 => if (v10 + p1) ≤ 60 then (xbd (xgI μ iM_gaveIn 192 x6) fun v11 => xbd (xsI μ iM_gaveIn 192 x6 (v11 + p1)) fun μ12 => xbd (xgI μ12 iM_tookIn 192 x8) fun v13 => xbd (xsI μ12 iM_tookIn 192 x8 (v13 + p1)) fun μ14 => xbd (xgI μ14 iM_leftOf 60 p0) fun v15 => xbd (xsI μ14 iM_leftOf 60 p0 (v15 - p1)) fun μ16 => xbd (xgI μ16 iM_leftOf 60 p0) fun v17 => some (v17, μ16)) else (some ((-1), μ)))))))
set_option maxHeartbeats 4000000 in
set_option maxRecDepth 100000 in
theorem kX12_take {E : xE} {d : Nat} {QQ : xP} (hd : 2 ≤ d) {p0 : Int32} {p1 : Int32} {p2 : Int32} {μ : xm} {R : xr} {n : Nat} (hF : xFin R n)  {res : Int32 × xm} (h : fX12_take p0 p1 p2 μ = some res) (hQ : QQ (some (.int res.1)) (xσ res.2 R) n) : xCon E d Y_X12_take 0 0 [.ref (E.2.2.2 + iM), .int p0, .int p1, .int p2] (xσ μ R) n QQ := by
  refine xCon_of pn_RX12 (Nat.le_of_ble_eq_true rfl) (L0 := [(0, .ref (E.2.2.2 + iM)), (1, .int p0), (2, .int p1), (3, .int p2)]) rfl ?_
  unfold fX12_take at h
  refine ev_aload_n 0 dX12_take_0 rfl rfl ?_
  refine ev_iload_n 1 dX12_take_1 rfl rfl ?_
  obtain ⟨q1, hq1, h⟩ := xbd_some h
  refine ev_callV (ci := 12) (rest := []) 1 (kX12_isLive (E := E) (d := 1) (QQ := (fun v τ n' => v = some (.int q1) ∧ τ = xσ μ R ∧ n = n')) (Nat.le_refl _) hF hq1 (⟨rfl, rfl, rfl⟩)) my_X12_isLive ⟨m_1664, m_1666, m_77⟩ cl_12 kd_61 (xl hF rfl) rfl rfl (Nat.le_of_ble_eq_true rfl) (Nat.le_trans (by decide) hd) (xlo (by decide) (Nat.le_trans (by decide) hd)) (Nat.zero_le _) (Nat.zero_le _) dX12_take_2 (fun v τ n' hv => ?_)
  obtain ⟨rfl, rfl, rfl⟩ := hv
  show Ev E (xcm E d 0 0 QQ) Y_X12_take 5 [(0, .ref (E.2.2.2 + iM)), (1, .int p0), (2, .int p1), (3, .int p2)] [.int q1] (xσ μ R) n 0 0
  refine ev_if_eq (tgt := 38) dX12_take_5 (by decide) (fun c5 => ?_) (fun c5 => ?_)
  · replace h := xif_t c5 h
    refine ev_iconst (v := (-1)) dX12_take_38 (by decide) ?_
    cases h
    exact ev_iret rfl (hQ) dX12_take_39 (Nat.zero_le _) (Nat.zero_le _)
  · replace h := xif_f c5 h
    refine ev_iload_n 2 dX12_take_8 rfl rfl ?_
    refine ev_iconst (v := 1) dX12_take_9 (by decide) ?_
    refine ev_bipush (v := 60) dX12_take_10 (by decide) ?_
    obtain ⟨q2, hq2, h⟩ := xbd_some h
    refine ev_callS (As := [.int p1, .int 1, .int 60]) (rest := []) 3 (kX12_in (E := E) (d := 0) (QQ := (fun v τ n' => v = some (.int q2) ∧ τ = xσ μ R ∧ n = n')) (Nat.le_refl _)  hq2 (⟨rfl, rfl, rfl⟩)) my_X12_in ⟨m_1449, m_1450⟩ rfl rfl (Nat.le_of_ble_eq_true rfl) (Nat.le_trans (by decide) hd) (xlo (by decide) (Nat.le_trans (by decide) hd)) (Nat.zero_le _) (Nat.zero_le _) dX12_take_12 (fun v τ n' hv => ?_)
    obtain ⟨rfl, rfl, rfl⟩ := hv
    show Ev E (xcm E d 0 0 QQ) Y_X12_take 15 [(0, .ref (E.2.2.2 + iM)), (1, .int p0), (2, .int p1), (3, .int p2)] [.int q2] (xσ μ R) n 0 0
    refine ev_if_eq (tgt := 38) dX12_take_15 (by decide) (fun c15 => ?_) (fun c15 => ?_)
    · replace h := xif_t c15 h
      refine ev_iconst (v := (-1)) dX12_take_38 (by decide) ?_
      cases h
      exact ev_iret rfl (hQ) dX12_take_39 (Nat.zero_le _) (Nat.zero_le _)
    · replace h := xif_f c15 h
      refine ev_aload_n 0 dX12_take_18 rfl rfl ?_
      refine xv_getF (a := iM_leftOf) cl_12 lk_RX12_84 kd_61 (xl hF rfl) (fun _ => rfl) (fr_61_40 hF) dX12_take_19 ?_
      refine ev_iload_n 1 dX12_take_22 rfl rfl ?_
      obtain ⟨v3, hv3, h⟩ := xbd_some h
      refine xv_iald kd_86 (xl hF rfl) hv3 dX12_take_23 ?_
      refine ev_iload_n 2 dX12_take_24 rfl rfl ?_
      refine ev_icmp_lt (tgt := 38) dX12_take_25 (by decide) (fun c25 => ?_) (fun c25 => ?_)
      · replace h := xif_t c25 h
        refine ev_iconst (v := (-1)) dX12_take_38 (by decide) ?_
        cases h
        exact ev_iret rfl (hQ) dX12_take_39 (Nat.zero_le _) (Nat.zero_le _)
      · replace h := xif_f c25 h
        refine ev_iload_n 3 dX12_take_28 rfl rfl ?_
        refine ev_iconst (v := 0) dX12_take_29 (by decide) ?_
        refine ev_bipush (v := 23) dX12_take_30 (by decide) ?_
        obtain ⟨q4, hq4, h⟩ := xbd_some h
        refine ev_callS (As := [.int p2, .int 0, .int 23]) (rest := []) 3 (kX12_in (E := E) (d := 0) (QQ := (fun v τ n' => v = some (.int q4) ∧ τ = xσ μ R ∧ n = n')) (Nat.le_refl _)  hq4 (⟨rfl, rfl, rfl⟩)) my_X12_in ⟨m_1449, m_1450⟩ rfl rfl (Nat.le_of_ble_eq_true rfl) (Nat.le_trans (by decide) hd) (xlo (by decide) (Nat.le_trans (by decide) hd)) (Nat.zero_le _) (Nat.zero_le _) dX12_take_32 (fun v τ n' hv => ?_)
        obtain ⟨rfl, rfl, rfl⟩ := hv
        show Ev E (xcm E d 0 0 QQ) Y_X12_take 35 [(0, .ref (E.2.2.2 + iM)), (1, .int p0), (2, .int p1), (3, .int p2)] [.int q4] (xσ μ R) n 0 0
        refine ev_if_ne (tgt := 40) dX12_take_35 (by decide) (fun c35 => ?_) (fun c35 => ?_)
        · replace h := xif_f c35 h
          refine ev_bipush (v := 24) dX12_take_40 (by decide) ?_
          refine ev_aload_n 0 dX12_take_42 rfl rfl ?_
          refine xv_getF (a := iM_owesIt) cl_12 lk_RX12_78 kd_61 (xl hF rfl) (fun _ => rfl) (fr_61_38 hF) dX12_take_43 ?_
          refine ev_iload_n 1 dX12_take_46 rfl rfl ?_
          obtain ⟨v5, hv5, h⟩ := xbd_some h
          refine xv_iald kd_84 (xl hF rfl) hv5 dX12_take_47 ?_
          refine ev_imul dX12_take_48 ?_
          refine ev_iload_n 3 dX12_take_49 rfl rfl ?_
          refine ev_iadd dX12_take_50 ?_
          obtain ⟨x6, hx6, h⟩ := xlt_some h
          refine xv_istore (L' := [(4, .int x6), (0, .ref (E.2.2.2 + iM)), (1, .int p0), (2, .int p1), (3, .int p2)]) hx6 dX12_take_51 (Nat.le_of_ble_eq_true rfl) rfl ?_
          refine ev_bipush (v := 24) dX12_take_53 (by decide) ?_
          refine ev_aload_n 1 dX12_take_55 rfl rfl ?_
          refine xv_getF (a := iM_hasIt) cl_12 lk_RX12_81 kd_61 (xl hF rfl) (fun _ => rfl) (fr_61_39 hF) dX12_take_56 ?_
          refine ev_iload_n 2 dX12_take_59 rfl rfl ?_
          obtain ⟨v7, hv7, h⟩ := xbd_some h
          refine xv_iald kd_85 (xl hF rfl) hv7 dX12_take_60 ?_
          refine ev_imul dX12_take_61 ?_
          refine ev_iload_n 4 dX12_take_62 rfl rfl ?_
          refine ev_iadd dX12_take_63 ?_
          obtain ⟨x8, hx8, h⟩ := xlt_some h
          refine xv_istore (L' := [(5, .int x8), (4, .int x6), (0, .ref (E.2.2.2 + iM)), (1, .int p0), (2, .int p1), (3, .int p2)]) hx8 dX12_take_64 (Nat.le_of_ble_eq_true rfl) rfl ?_
          refine ev_aload_n 2 dX12_take_66 rfl rfl ?_
          refine xv_getF (a := iM_gaveIn) cl_12 lk_RX12_96 kd_61 (xl hF rfl) (fun _ => rfl) (fr_61_44 hF) dX12_take_67 ?_
          refine ev_iload 1 dX12_take_70 rfl ?_
          obtain ⟨v9, hv9, h⟩ := xbd_some h
          refine xv_iald kd_90 (xl hF rfl) hv9 dX12_take_72 ?_
          refine ev_iload_n 4 dX12_take_73 rfl rfl ?_
          refine ev_iadd dX12_take_74 ?_
          refine ev_bipush (v := 60) dX12_take_75 (by decide) ?_
          refine ev_icmp_gt (tgt := 94) dX12_take_77 (by decide) (fun c77 => ?_) (fun c77 => ?_)
          · replace h := xif_t c77 h
            refine ev_iconst (v := (-1)) dX12_take_94 (by decide) ?_
            cases h
            exact ev_iret rfl (hQ) dX12_take_95 (Nat.zero_le _) (Nat.zero_le _)
          · replace h := xif_f c77 h
            refine ev_aload_n 2 dX12_take_80 rfl rfl ?_
            refine xv_getF (a := iM_tookIn) cl_12 lk_RX12_93 kd_61 (xl hF rfl) (fun _ => rfl) (fr_61_43 hF) dX12_take_81 ?_
            refine ev_iload 0 dX12_take_84 rfl ?_
            obtain ⟨v10, hv10, h⟩ := xbd_some h
            refine xv_iald kd_89 (xl hF rfl) hv10 dX12_take_86 ?_
            refine ev_iload_n 4 dX12_take_87 rfl rfl ?_
            refine ev_iadd dX12_take_88 ?_
            refine ev_bipush (v := 60) dX12_take_89 (by decide) ?_
            refine ev_icmp_le (tgt := 96) dX12_take_91 (by decide) (fun c91 => ?_) (fun c91 => ?_)
            · replace h := xif_t c91 h
              refine ev_aload_n 2 dX12_take_96 rfl rfl ?_
              refine xv_getF (a := iM_gaveIn) cl_12 lk_RX12_96 kd_61 (xl hF rfl) (fun _ => rfl) (fr_61_44 hF) dX12_take_97 ?_
              refine ev_iload 1 dX12_take_100 rfl ?_
              refine ev_aload_n 2 dX12_take_102 rfl rfl ?_
              refine xv_getF (a := iM_gaveIn) cl_12 lk_RX12_96 kd_61 (xl hF rfl) (fun _ => rfl) (fr_61_44 hF) dX12_take_103 ?_
              refine ev_iload 1 dX12_take_106 rfl ?_
              obtain ⟨v11, hv11, h⟩ := xbd_some h
              refine xv_iald kd_90 (xl hF rfl) hv11 dX12_take_108 ?_
              refine ev_iload_n 4 dX12_take_109 rfl rfl ?_
              refine ev_iadd dX12_take_110 ?_
              obtain ⟨μ12, hμ12, h⟩ := xbd_some h
              refine xv_iast kd_90 (xl hF rfl) hμ12 dX12_take_111 ?_
              refine ev_aload_n 2 dX12_take_112 rfl rfl ?_
              refine xv_getF (a := iM_tookIn) cl_12 lk_RX12_93 kd_61 (xl hF rfl) (fun _ => rfl) (fr_61_43 hF) dX12_take_113 ?_
              refine ev_iload 0 dX12_take_116 rfl ?_
              refine ev_aload_n 2 dX12_take_118 rfl rfl ?_
              refine xv_getF (a := iM_tookIn) cl_12 lk_RX12_93 kd_61 (xl hF rfl) (fun _ => rfl) (fr_61_43 hF) dX12_take_119 ?_
              refine ev_iload 0 dX12_take_122 rfl ?_
              obtain ⟨v13, hv13, h⟩ := xbd_some h
              refine xv_iald kd_89 (xl hF rfl) hv13 dX12_take_124 ?_
              refine ev_iload_n 4 dX12_take_125 rfl rfl ?_
              refine ev_iadd dX12_take_126 ?_
              obtain ⟨μ14, hμ14, h⟩ := xbd_some h
              refine xv_iast kd_89 (xl hF rfl) hμ14 dX12_take_127 ?_
              refine ev_aload_n 2 dX12_take_128 rfl rfl ?_
              refine xv_getF (a := iM_leftOf) cl_12 lk_RX12_84 kd_61 (xl hF rfl) (fun _ => rfl) (fr_61_40 hF) dX12_take_129 ?_
              refine ev_iload_n 3 dX12_take_132 rfl rfl ?_
              refine ev_aload_n 2 dX12_take_133 rfl rfl ?_
              refine xv_getF (a := iM_leftOf) cl_12 lk_RX12_84 kd_61 (xl hF rfl) (fun _ => rfl) (fr_61_40 hF) dX12_take_134 ?_
              refine ev_iload_n 3 dX12_take_137 rfl rfl ?_
              obtain ⟨v15, hv15, h⟩ := xbd_some h
              refine xv_iald kd_86 (xl hF rfl) hv15 dX12_take_138 ?_
              refine ev_iload_n 4 dX12_take_139 rfl rfl ?_
              refine ev_isub dX12_take_140 ?_
              obtain ⟨μ16, hμ16, h⟩ := xbd_some h
              refine xv_iast kd_86 (xl hF rfl) hμ16 dX12_take_141 ?_
              refine ev_aload_n 2 dX12_take_142 rfl rfl ?_
              refine xv_getF (a := iM_leftOf) cl_12 lk_RX12_84 kd_61 (xl hF rfl) (fun _ => rfl) (fr_61_40 hF) dX12_take_143 ?_
              refine ev_iload_n 3 dX12_take_146 rfl rfl ?_
              obtain ⟨v17, hv17, h⟩ := xbd_some h
              refine xv_iald kd_86 (xl hF rfl) hv17 dX12_take_147 ?_
              cases h
              exact ev_iret rfl (hQ) dX12_take_148 (Nat.zero_le _) (Nat.zero_le _)
            · replace h := xif_f c91 h
              refine ev_iconst (v := (-1)) dX12_take_94 (by decide) ?_
              cases h
              exact ev_iret rfl (hQ) dX12_take_95 (Nat.zero_le _) (Nat.zero_le _)
        · replace h := xif_t c35 h
          refine ev_iconst (v := (-1)) dX12_take_38 (by decide) ?_
          cases h
          exact ev_iret rfl (hQ) dX12_take_39 (Nat.zero_le _) (Nat.zero_le _)
