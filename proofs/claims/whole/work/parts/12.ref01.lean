def fX12_bits_b4 (x1 : Int32) (x2 : Int32) (p0 : Int32) : Option ((Int32 × Int32) ⊕ (Int32)) := if 8 ≤ x2 then (some (.inr x1)) else (xlt (x1 + ((p0 >>> (x2 &&& 31)) &&& 1)) fun x4 => xlt (x2 + 1) fun x5 => some (.inl (x4, x5)))
def fX12_bits (p0 : Int32) : Option (Int32) := xbd (xloop xfu (fun v => fX12_bits_b4 v.1 v.2 p0) (0, 0)) fun q6 => some q6
set_option maxHeartbeats 4000000 in
set_option maxRecDepth 100000 in
theorem kX12_bits {E : xE} {d : Nat} {QQ : xP} (hd : 0 ≤ d) {p0 : Int32} {μ : xm} {R : xr} {n : Nat}  {res : Int32} (h : fX12_bits p0 = some res) (hQ : QQ (some (.int res)) (xσ μ R) n) : xCon E d Y_X12_bits 0 0 [.int p0] (xσ μ R) n QQ := by
  refine xCon_of pn_RX12 (Nat.le_of_ble_eq_true rfl) (L0 := [(0, .int p0)]) rfl ?_
  unfold fX12_bits at h
  refine ev_iconst (v := 0) dX12_bits_0 (by decide) ?_
  refine xv_istore_n (L' := [(1, .int 0), (0, .int p0)]) rfl dX12_bits_1 rfl (Nat.le_of_ble_eq_true rfl) rfl ?_
  refine ev_iconst (v := 0) dX12_bits_2 (by decide) ?_
  refine xv_istore_n (L' := [(2, .int 0), (1, .int 0), (0, .int p0)]) rfl dX12_bits_3 rfl (Nat.le_of_ble_eq_true rfl) rfl ?_
  obtain ⟨q6, hq6, h⟩ := xbd_some h
  refine ev_sub (L' := [(0, .int p0), (1, .int 0), (2, .int 0)]) [2, 1, 0] rfl ?_
  refine xloop_run (fun v => Ev E (xcm E d 0 0 QQ) Y_X12_bits 4 [(0, .int p0), (1, .int v.1), (2, .int v.2)] [] (xσ μ R) n 0 0) (fun v => Ev E (xcm E d 0 0 QQ) Y_X12_bits 24 [(1, .int v)] [] (xσ μ R) n 0 0) ?_ _ _ _ hq6 ?_
  · rintro ⟨x1, x2⟩ y3 h hk
    replace h : fX12_bits_b4 x1 x2 p0 = some y3 := h
    show Ev E (xcm E d 0 0 QQ) Y_X12_bits 4 [(0, .int p0), (1, .int x1), (2, .int x2)] [] (xσ μ R) n 0 0
    unfold fX12_bits_b4 at h
    refine ev_iload_n 2 dX12_bits_4 rfl rfl ?_
    refine ev_bipush (v := 8) dX12_bits_5 (by decide) ?_
    refine ev_icmp_ge (tgt := 24) dX12_bits_7 (by decide) (fun c7 => ?_) (fun c7 => ?_)
    · replace h := xif_t c7 h
      cases h
      replace hk := xel_r hk
      exact ev_sub [1] rfl (hk)
    · replace h := xif_f c7 h
      refine ev_iload_n 1 dX12_bits_10 rfl rfl ?_
      refine ev_iload_n 0 dX12_bits_11 rfl rfl ?_
      refine ev_iload_n 2 dX12_bits_12 rfl rfl ?_
      refine ev_ishr dX12_bits_13 ?_
      refine ev_iconst (v := 1) dX12_bits_14 (by decide) ?_
      refine ev_iand dX12_bits_15 ?_
      refine ev_iadd dX12_bits_16 ?_
      obtain ⟨x4, hx4, h⟩ := xlt_some h
      refine xv_istore_n (L' := [(1, .int x4), (0, .int p0), (2, .int x2)]) hx4 dX12_bits_17 rfl (Nat.le_of_ble_eq_true rfl) rfl ?_
      obtain ⟨x5, hx5, h⟩ := xlt_some h
      refine ev_iinc (L' := [(2, .int x5), (1, .int x4), (0, .int p0)]) 2 dX12_bits_18 rfl ((by rfl : x2 + Int32.ofInt 1 = x2 + 1).trans hx5) (Nat.le_of_ble_eq_true rfl) rfl ?_
      refine ev_goto (tgt := 4) dX12_bits_21 (by decide) ?_
      cases h
      replace hk := xel_l hk
      exact ev_sub [2, 1, 0] rfl (hk)
  · show Ev E (xcm E d 0 0 QQ) Y_X12_bits 24 [(1, .int q6)] [] (xσ μ R) n 0 0
    refine ev_iload_n 0 dX12_bits_24 rfl rfl ?_
    cases h
    exact ev_iret rfl (hQ) dX12_bits_25 (Nat.zero_le _) (Nat.zero_le _)
def fX12_bridgeWeight (p0 : Int32) (μ : xm) : Option (Int32) := if p0 = 0 then (some ((μ.1 iM 54) - (μ.1 iM 53))) else (some (μ.1 iM 53))
set_option maxHeartbeats 4000000 in
set_option maxRecDepth 100000 in
theorem kX12_bridgeWeight {E : xE} {d : Nat} {QQ : xP} (hd : 0 ≤ d) {p0 : Int32} {μ : xm} {R : xr} {n : Nat} (hF : xFin R n)  {res : Int32} (h : fX12_bridgeWeight p0 μ = some res) (hQ : QQ (some (.int res)) (xσ μ R) n) : xCon E d Y_X12_bridgeWeight 0 0 [.ref (E.2.2.2 + iM), .int p0] (xσ μ R) n QQ := by
  refine xCon_of pn_RX12 (Nat.le_of_ble_eq_true rfl) (L0 := [(0, .ref (E.2.2.2 + iM)), (1, .int p0)]) rfl ?_
  unfold fX12_bridgeWeight at h
  refine ev_iload_n 1 dX12_bridgeWeight_0 rfl rfl ?_
  refine ev_if_eq (tgt := 11) dX12_bridgeWeight_1 (by decide) (fun c1 => ?_) (fun c1 => ?_)
  · replace h := xif_t c1 h
    refine ev_aload_n 0 dX12_bridgeWeight_11 rfl rfl ?_
    refine xv_getI cl_12 lk_RX12_148 kd_61 (xl hF rfl) (fun _ => rfl) dX12_bridgeWeight_12 ?_
    refine ev_aload_n 0 dX12_bridgeWeight_15 rfl rfl ?_
    refine xv_getI cl_12 lk_RX12_374 kd_61 (xl hF rfl) (fun _ => rfl) dX12_bridgeWeight_16 ?_
    refine ev_isub dX12_bridgeWeight_19 ?_
    cases h
    exact ev_iret rfl (hQ) dX12_bridgeWeight_20 (Nat.zero_le _) (Nat.zero_le _)
  · replace h := xif_f c1 h
    refine ev_aload_n 0 dX12_bridgeWeight_4 rfl rfl ?_
    refine xv_getI cl_12 lk_RX12_374 kd_61 (xl hF rfl) (fun _ => rfl) dX12_bridgeWeight_5 ?_
    refine ev_goto (tgt := 20) dX12_bridgeWeight_8 (by decide) ?_
    cases h
    exact ev_iret rfl (hQ) dX12_bridgeWeight_20 (Nat.zero_le _) (Nat.zero_le _)
def fX12_dayCost_b11 (x2 : Int32) (x3 : Int32) (μ : xm) : Option ((Int32 × Int32) ⊕ (Int32)) := if (μ.1 iM 61) ≤ x3 then (some (.inr x2)) else (xbd (xgI μ iM_comesAt 4 x3) fun v5 => if v5 ≤ x2 then (xlt (x3 + 1) fun x6 => some (.inl (x2, x6))) else (xbd (xgI μ iM_comesAt 4 x3) fun v7 => xlt (x3 + 1) fun x8 => some (.inl (v7, x8))))
def fX12_dayCost_j134 (x20 : Int32) (p1 : Int32) (p2 : Int32) (μ : xm) (x15 : Int64) (x16 : Int32) : Option ((Int64 × Int32) ⊕ (Int64)) := if x16 = p1 then (xlt (x16 + 1) fun x21 => some (.inl (x15, x21))) else (xbd (xgI μ iM_comesAt 4 p1) fun v22 => if v22 ≤ x20 then (xlt (x16 + 1) fun x23 => some (.inl (x15, x23))) else (xbd (xgI μ iM_comesAt 4 p1) fun v24 => xlt (x15 + (((v24 - x20).toInt64) * p2.toInt64)) fun x25 => xlt (x16 + 1) fun x26 => some (.inl (x25, x26))))
def fX12_dayCost_b93 (x15 : Int64) (x16 : Int32) (p0 : Int32) (p1 : Int32) (p2 : Int32) (μ : xm) : Option ((Int64 × Int32) ⊕ (Int64)) := if (μ.1 iM 61) ≤ x16 then (some (.inr x15)) else (xbd (xgI μ iM_comesAt 4 x16) fun v18 => xbd (xgI μ iM_minuteOf 24 p0) fun v19 => if v18 ≤ v19 then (xbd (xgI μ iM_minuteOf 24 p0) fun v27 => fX12_dayCost_j134 v27 p1 p2 μ x15 x16) else (xbd (xgI μ iM_comesAt 4 x16) fun v28 => fX12_dayCost_j134 v28 p1 p2 μ x15 x16))
def fX12_dayCost (p0 : Int32) (p1 : Int32) (p2 : Int32) (μ : xm) : Option (Int64) := xbd (xgI μ iM_minuteOf 24 p0) fun v1 => xbd (xloop xfu (fun v => fX12_dayCost_b11 v.1 v.2 μ) (v1, 0)) fun q9 => xbd (xgI μ iM_comesAt 4 p1) fun v10 => xbd (xgI μ iM_goer 4 p1) fun v11 => xbd (xgI μ iM_minuteOf 24 p0) fun v12 => xbd (xgI μ iM_worthOf 192 ((24 * v11) + (v12 / 60))) fun v13 => xlt (((q9 - v10).toInt64) * v13.toInt64) fun x14 => xbd (xloop xfu (fun v => fX12_dayCost_b93 v.1 v.2 p0 p1 p2 μ) (x14, 0)) fun q29 => some q29
set_option maxHeartbeats 4000000 in
set_option maxRecDepth 100000 in
theorem kX12_dayCost {E : xE} {d : Nat} {QQ : xP} (hd : 0 ≤ d) {p0 : Int32} {p1 : Int32} {p2 : Int32} {μ : xm} {R : xr} {n : Nat} (hF : xFin R n)  {res : Int64} (h : fX12_dayCost p0 p1 p2 μ = some res) (hQ : QQ (some (.long res)) (xσ μ R) n) : xCon E d Y_X12_dayCost 0 0 [.ref (E.2.2.2 + iM), .int p0, .int p1, .int p2] (xσ μ R) n QQ := by
  refine xCon_of pn_RX12 (Nat.le_of_ble_eq_true rfl) (L0 := [(0, .ref (E.2.2.2 + iM)), (1, .int p0), (2, .int p1), (3, .int p2)]) rfl ?_
  unfold fX12_dayCost at h
  refine ev_aload_n 0 dX12_dayCost_0 rfl rfl ?_
  refine xv_getF (a := iM_minuteOf) cl_12 lk_RX12_16 kd_61 (xl hF rfl) (fun _ => rfl) (fr_61_6 hF) dX12_dayCost_1 ?_
  refine ev_iload_n 1 dX12_dayCost_4 rfl rfl ?_
  obtain ⟨v1, hv1, h⟩ := xbd_some h
  refine xv_iald kd_64 (xl hF rfl) hv1 dX12_dayCost_5 ?_
  refine xv_istore (L' := [(4, .int v1), (0, .ref (E.2.2.2 + iM)), (1, .int p0), (2, .int p1), (3, .int p2)]) rfl dX12_dayCost_6 (Nat.le_of_ble_eq_true rfl) rfl ?_
  refine ev_iconst (v := 0) dX12_dayCost_8 (by decide) ?_
  refine xv_istore (L' := [(5, .int 0), (4, .int v1), (0, .ref (E.2.2.2 + iM)), (1, .int p0), (2, .int p1), (3, .int p2)]) rfl dX12_dayCost_9 (Nat.le_of_ble_eq_true rfl) rfl ?_
  obtain ⟨q9, hq9, h⟩ := xbd_some h
  refine ev_sub (L' := [(0, .ref (E.2.2.2 + iM)), (1, .int p0), (2, .int p1), (3, .int p2), (4, .int v1), (5, .int 0)]) [2, 3, 4, 5, 1, 0] rfl ?_
  refine xloop_run (fun v => Ev E (xcm E d 0 0 QQ) Y_X12_dayCost 11 [(0, .ref (E.2.2.2 + iM)), (1, .int p0), (2, .int p1), (3, .int p2), (4, .int v.1), (5, .int v.2)] [] (xσ μ R) n 0 0) (fun v => Ev E (xcm E d 0 0 QQ) Y_X12_dayCost 52 [(0, .ref (E.2.2.2 + iM)), (1, .int p0), (2, .int p1), (3, .int p2), (4, .int v)] [] (xσ μ R) n 0 0) ?_ _ _ _ hq9 ?_
  · rintro ⟨x2, x3⟩ y4 h hk
    replace h : fX12_dayCost_b11 x2 x3 μ = some y4 := h
    show Ev E (xcm E d 0 0 QQ) Y_X12_dayCost 11 [(0, .ref (E.2.2.2 + iM)), (1, .int p0), (2, .int p1), (3, .int p2), (4, .int x2), (5, .int x3)] [] (xσ μ R) n 0 0
    unfold fX12_dayCost_b11 at h
    refine ev_iload 5 dX12_dayCost_11 rfl ?_
    refine ev_aload_n 0 dX12_dayCost_13 rfl rfl ?_
    refine xv_getI cl_12 lk_RX12_439 kd_61 (xl hF rfl) (fun _ => rfl) dX12_dayCost_14 ?_
    refine ev_icmp_ge (tgt := 52) dX12_dayCost_17 (by decide) (fun c17 => ?_) (fun c17 => ?_)
    · replace h := xif_t c17 h
      cases h
      replace hk := xel_r hk
      exact ev_sub [0, 1, 2, 3, 4] rfl (hk)
    · replace h := xif_f c17 h
      refine ev_aload_n 0 dX12_dayCost_20 rfl rfl ?_
      refine xv_getF (a := iM_comesAt) cl_12 lk_RX12_145 kd_61 (xl hF rfl) (fun _ => rfl) (fr_61_65 hF) dX12_dayCost_21 ?_
      refine ev_iload 5 dX12_dayCost_24 rfl ?_
      obtain ⟨v5, hv5, h⟩ := xbd_some h
      refine xv_iald kd_106 (xl hF rfl) hv5 dX12_dayCost_26 ?_
      refine ev_iload 4 dX12_dayCost_27 rfl ?_
      refine ev_icmp_le (tgt := 42) dX12_dayCost_29 (by decide) (fun c29 => ?_) (fun c29 => ?_)
      · replace h := xif_t c29 h
        refine ev_iload 4 dX12_dayCost_42 rfl ?_
        refine xv_istore (L' := [(4, .int x2), (0, .ref (E.2.2.2 + iM)), (1, .int p0), (2, .int p1), (3, .int p2), (5, .int x3)]) rfl dX12_dayCost_44 (Nat.le_of_ble_eq_true rfl) rfl ?_
        obtain ⟨x6, hx6, h⟩ := xlt_some h
        refine ev_iinc (L' := [(5, .int x6), (4, .int x2), (0, .ref (E.2.2.2 + iM)), (1, .int p0), (2, .int p1), (3, .int p2)]) 5 dX12_dayCost_46 rfl ((by rfl : x3 + Int32.ofInt 1 = x3 + 1).trans hx6) (Nat.le_of_ble_eq_true rfl) rfl ?_
        refine ev_goto (tgt := 11) dX12_dayCost_49 (by decide) ?_
        cases h
        replace hk := xel_l hk
        exact ev_sub [2, 3, 4, 5, 1, 0] rfl (hk)
      · replace h := xif_f c29 h
        refine ev_aload_n 0 dX12_dayCost_32 rfl rfl ?_
        refine xv_getF (a := iM_comesAt) cl_12 lk_RX12_145 kd_61 (xl hF rfl) (fun _ => rfl) (fr_61_65 hF) dX12_dayCost_33 ?_
        refine ev_iload 5 dX12_dayCost_36 rfl ?_
        obtain ⟨v7, hv7, h⟩ := xbd_some h
        refine xv_iald kd_106 (xl hF rfl) hv7 dX12_dayCost_38 ?_
        refine ev_goto (tgt := 44) dX12_dayCost_39 (by decide) ?_
        refine xv_istore (L' := [(4, .int v7), (0, .ref (E.2.2.2 + iM)), (1, .int p0), (2, .int p1), (3, .int p2), (5, .int x3)]) rfl dX12_dayCost_44 (Nat.le_of_ble_eq_true rfl) rfl ?_
        obtain ⟨x8, hx8, h⟩ := xlt_some h
        refine ev_iinc (L' := [(5, .int x8), (4, .int v7), (0, .ref (E.2.2.2 + iM)), (1, .int p0), (2, .int p1), (3, .int p2)]) 5 dX12_dayCost_46 rfl ((by rfl : x3 + Int32.ofInt 1 = x3 + 1).trans hx8) (Nat.le_of_ble_eq_true rfl) rfl ?_
        refine ev_goto (tgt := 11) dX12_dayCost_49 (by decide) ?_
        cases h
        replace hk := xel_l hk
        exact ev_sub [2, 3, 4, 5, 1, 0] rfl (hk)
  · show Ev E (xcm E d 0 0 QQ) Y_X12_dayCost 52 [(0, .ref (E.2.2.2 + iM)), (1, .int p0), (2, .int p1), (3, .int p2), (4, .int q9)] [] (xσ μ R) n 0 0
    refine ev_iload 4 dX12_dayCost_52 rfl ?_
    refine ev_aload_n 0 dX12_dayCost_54 rfl rfl ?_
    refine xv_getF (a := iM_comesAt) cl_12 lk_RX12_145 kd_61 (xl hF rfl) (fun _ => rfl) (fr_61_65 hF) dX12_dayCost_55 ?_
    refine ev_iload_n 2 dX12_dayCost_58 rfl rfl ?_
    obtain ⟨v10, hv10, h⟩ := xbd_some h
    refine xv_iald kd_106 (xl hF rfl) hv10 dX12_dayCost_59 ?_
    refine ev_isub dX12_dayCost_60 ?_
    refine ev_i2l dX12_dayCost_61 ?_
    refine ev_aload_n 0 dX12_dayCost_62 rfl rfl ?_
    refine xv_getF (a := iM_worthOf) cl_12 lk_RX12_7 kd_61 (xl hF rfl) (fun _ => rfl) (fr_61_4 hF) dX12_dayCost_63 ?_
    refine ev_bipush (v := 24) dX12_dayCost_66 (by decide) ?_
    refine ev_aload_n 0 dX12_dayCost_68 rfl rfl ?_
    refine xv_getF (a := iM_goer) cl_12 lk_RX12_136 kd_61 (xl hF rfl) (fun _ => rfl) (fr_61_62 hF) dX12_dayCost_69 ?_
    refine ev_iload_n 2 dX12_dayCost_72 rfl rfl ?_
    obtain ⟨v11, hv11, h⟩ := xbd_some h
    refine xv_iald kd_103 (xl hF rfl) hv11 dX12_dayCost_73 ?_
    refine ev_imul dX12_dayCost_74 ?_
    refine ev_aload_n 0 dX12_dayCost_75 rfl rfl ?_
    refine xv_getF (a := iM_minuteOf) cl_12 lk_RX12_16 kd_61 (xl hF rfl) (fun _ => rfl) (fr_61_6 hF) dX12_dayCost_76 ?_
    refine ev_iload_n 1 dX12_dayCost_79 rfl rfl ?_
    obtain ⟨v12, hv12, h⟩ := xbd_some h
    refine xv_iald kd_64 (xl hF rfl) hv12 dX12_dayCost_80 ?_
    refine ev_bipush (v := 60) dX12_dayCost_81 (by decide) ?_
    refine ev_idiv dX12_dayCost_83 (by decide) ?_
    refine ev_iadd dX12_dayCost_84 ?_
    obtain ⟨v13, hv13, h⟩ := xbd_some h
    refine xv_iald kd_62 (xl hF rfl) hv13 dX12_dayCost_85 ?_
    refine ev_i2l dX12_dayCost_86 ?_
    refine ev_lmul dX12_dayCost_87 ?_
    obtain ⟨x14, hx14, h⟩ := xlt_some h
    refine xv_lstore (L' := [(5, .long x14), (0, .ref (E.2.2.2 + iM)), (1, .int p0), (2, .int p1), (3, .int p2), (4, .int q9)]) hx14 dX12_dayCost_88 (Nat.le_of_ble_eq_true rfl) rfl ?_
    refine ev_iconst (v := 0) dX12_dayCost_90 (by decide) ?_
    refine xv_istore (L' := [(7, .int 0), (5, .long x14), (0, .ref (E.2.2.2 + iM)), (1, .int p0), (2, .int p1), (3, .int p2), (4, .int q9)]) rfl dX12_dayCost_91 (Nat.le_of_ble_eq_true rfl) rfl ?_
    obtain ⟨q29, hq29, h⟩ := xbd_some h
    refine ev_sub (L' := [(0, .ref (E.2.2.2 + iM)), (1, .int p0), (2, .int p1), (3, .int p2), (5, .long x14), (7, .int 0)]) [2, 3, 4, 5, 1, 0] rfl ?_
    refine xloop_run (fun v => Ev E (xcm E d 0 0 QQ) Y_X12_dayCost 93 [(0, .ref (E.2.2.2 + iM)), (1, .int p0), (2, .int p1), (3, .int p2), (5, .long v.1), (7, .int v.2)] [] (xσ μ R) n 0 0) (fun v => Ev E (xcm E d 0 0 QQ) Y_X12_dayCost 177 [(5, .long v)] [] (xσ μ R) n 0 0) ?_ _ _ _ hq29 ?_
    · rintro ⟨x15, x16⟩ y17 h hk
      replace h : fX12_dayCost_b93 x15 x16 p0 p1 p2 μ = some y17 := h
      show Ev E (xcm E d 0 0 QQ) Y_X12_dayCost 93 [(0, .ref (E.2.2.2 + iM)), (1, .int p0), (2, .int p1), (3, .int p2), (5, .long x15), (7, .int x16)] [] (xσ μ R) n 0 0
      unfold fX12_dayCost_b93 at h
      refine ev_iload 5 dX12_dayCost_93 rfl ?_
      refine ev_aload_n 0 dX12_dayCost_95 rfl rfl ?_
      refine xv_getI cl_12 lk_RX12_439 kd_61 (xl hF rfl) (fun _ => rfl) dX12_dayCost_96 ?_
      refine ev_icmp_ge (tgt := 177) dX12_dayCost_99 (by decide) (fun c99 => ?_) (fun c99 => ?_)
      · replace h := xif_t c99 h
        cases h
        replace hk := xel_r hk
        exact ev_sub [4] rfl (hk)
      · replace h := xif_f c99 h
        refine ev_aload_n 0 dX12_dayCost_102 rfl rfl ?_
        refine xv_getF (a := iM_comesAt) cl_12 lk_RX12_145 kd_61 (xl hF rfl) (fun _ => rfl) (fr_61_65 hF) dX12_dayCost_103 ?_
        refine ev_iload 5 dX12_dayCost_106 rfl ?_
        obtain ⟨v18, hv18, h⟩ := xbd_some h
        refine xv_iald kd_106 (xl hF rfl) hv18 dX12_dayCost_108 ?_
        refine ev_aload_n 0 dX12_dayCost_109 rfl rfl ?_
        refine xv_getF (a := iM_minuteOf) cl_12 lk_RX12_16 kd_61 (xl hF rfl) (fun _ => rfl) (fr_61_6 hF) dX12_dayCost_110 ?_
        refine ev_iload_n 1 dX12_dayCost_113 rfl rfl ?_
        obtain ⟨v19, hv19, h⟩ := xbd_some h
        refine xv_iald kd_64 (xl hF rfl) hv19 dX12_dayCost_114 ?_
        have j134 : ∀ (x20 : Int32), fX12_dayCost_j134 x20 p1 p2 μ x15 x16 = some y17 → Ev E (xcm E d 0 0 QQ) Y_X12_dayCost 134 [(0, .ref (E.2.2.2 + iM)), (1, .int p0), (2, .int p1), (3, .int p2), (5, .long x15), (7, .int x16)] [.int x20] (xσ μ R) n 0 0 := by
          intro x20 h
          unfold fX12_dayCost_j134 at h
          refine xv_istore (L' := [(8, .int x20), (0, .ref (E.2.2.2 + iM)), (1, .int p0), (2, .int p1), (3, .int p2), (5, .long x15), (7, .int x16)]) rfl dX12_dayCost_134 (Nat.le_of_ble_eq_true rfl) rfl ?_
          refine ev_iload 6 dX12_dayCost_136 rfl ?_
          refine ev_iload_n 3 dX12_dayCost_138 rfl rfl ?_
          refine ev_icmp_eq (tgt := 171) dX12_dayCost_139 (by decide) (fun c139 => ?_) (fun c139 => ?_)
          · replace h := xif_t c139 h
            obtain ⟨x21, hx21, h⟩ := xlt_some h
            refine ev_iinc (L' := [(7, .int x21), (8, .int x20), (0, .ref (E.2.2.2 + iM)), (1, .int p0), (2, .int p1), (3, .int p2), (5, .long x15)]) 6 dX12_dayCost_171 rfl ((by rfl : x16 + Int32.ofInt 1 = x16 + 1).trans hx21) (Nat.le_of_ble_eq_true rfl) rfl ?_
            refine ev_goto (tgt := 93) dX12_dayCost_174 (by decide) ?_
            cases h
            replace hk := xel_l hk
            exact ev_sub [2, 3, 4, 5, 6, 0] rfl (hk)
          · replace h := xif_f c139 h
            refine ev_aload_n 1 dX12_dayCost_142 rfl rfl ?_
            refine xv_getF (a := iM_comesAt) cl_12 lk_RX12_145 kd_61 (xl hF rfl) (fun _ => rfl) (fr_61_65 hF) dX12_dayCost_143 ?_
            refine ev_iload_n 3 dX12_dayCost_146 rfl rfl ?_
            obtain ⟨v22, hv22, h⟩ := xbd_some h
            refine xv_iald kd_106 (xl hF rfl) hv22 dX12_dayCost_147 ?_
            refine ev_iload 0 dX12_dayCost_148 rfl ?_
            refine ev_icmp_le (tgt := 171) dX12_dayCost_150 (by decide) (fun c150 => ?_) (fun c150 => ?_)
            · replace h := xif_t c150 h
              obtain ⟨x23, hx23, h⟩ := xlt_some h
              refine ev_iinc (L' := [(7, .int x23), (8, .int x20), (0, .ref (E.2.2.2 + iM)), (1, .int p0), (2, .int p1), (3, .int p2), (5, .long x15)]) 6 dX12_dayCost_171 rfl ((by rfl : x16 + Int32.ofInt 1 = x16 + 1).trans hx23) (Nat.le_of_ble_eq_true rfl) rfl ?_
              refine ev_goto (tgt := 93) dX12_dayCost_174 (by decide) ?_
              cases h
              replace hk := xel_l hk
              exact ev_sub [2, 3, 4, 5, 6, 0] rfl (hk)
            · replace h := xif_f c150 h
              refine ev_lload 5 dX12_dayCost_153 rfl ?_
              refine ev_aload_n 1 dX12_dayCost_155 rfl rfl ?_
              refine xv_getF (a := iM_comesAt) cl_12 lk_RX12_145 kd_61 (xl hF rfl) (fun _ => rfl) (fr_61_65 hF) dX12_dayCost_156 ?_
              refine ev_iload_n 3 dX12_dayCost_159 rfl rfl ?_
              obtain ⟨v24, hv24, h⟩ := xbd_some h
              refine xv_iald kd_106 (xl hF rfl) hv24 dX12_dayCost_160 ?_
              refine ev_iload 0 dX12_dayCost_161 rfl ?_
              refine ev_isub dX12_dayCost_163 ?_
              refine ev_i2l dX12_dayCost_164 ?_
              refine ev_iload_n 4 dX12_dayCost_165 rfl rfl ?_
              refine ev_i2l dX12_dayCost_166 ?_
              refine ev_lmul dX12_dayCost_167 ?_
              refine ev_ladd dX12_dayCost_168 ?_
              obtain ⟨x25, hx25, h⟩ := xlt_some h
              refine xv_lstore (L' := [(5, .long x25), (8, .int x20), (0, .ref (E.2.2.2 + iM)), (1, .int p0), (2, .int p1), (3, .int p2), (7, .int x16)]) hx25 dX12_dayCost_169 (Nat.le_of_ble_eq_true rfl) rfl ?_
              obtain ⟨x26, hx26, h⟩ := xlt_some h
              refine ev_iinc (L' := [(7, .int x26), (5, .long x25), (8, .int x20), (0, .ref (E.2.2.2 + iM)), (1, .int p0), (2, .int p1), (3, .int p2)]) 6 dX12_dayCost_171 rfl ((by rfl : x16 + Int32.ofInt 1 = x16 + 1).trans hx26) (Nat.le_of_ble_eq_true rfl) rfl ?_
              refine ev_goto (tgt := 93) dX12_dayCost_174 (by decide) ?_
              cases h
              replace hk := xel_l hk
              exact ev_sub [3, 4, 5, 6, 1, 0] rfl (hk)
        refine ev_icmp_le (tgt := 128) dX12_dayCost_115 (by decide) (fun c115 => ?_) (fun c115 => ?_)
        · replace h := xif_t c115 h
          refine ev_aload_n 0 dX12_dayCost_128 rfl rfl ?_
          refine xv_getF (a := iM_minuteOf) cl_12 lk_RX12_16 kd_61 (xl hF rfl) (fun _ => rfl) (fr_61_6 hF) dX12_dayCost_129 ?_
          refine ev_iload_n 1 dX12_dayCost_132 rfl rfl ?_
          obtain ⟨v27, hv27, h⟩ := xbd_some h
          refine xv_iald kd_64 (xl hF rfl) hv27 dX12_dayCost_133 ?_
          exact ev_sub [0, 1, 2, 3, 4, 5] rfl (j134 _ h)
        · replace h := xif_f c115 h
          refine ev_aload_n 0 dX12_dayCost_118 rfl rfl ?_
          refine xv_getF (a := iM_comesAt) cl_12 lk_RX12_145 kd_61 (xl hF rfl) (fun _ => rfl) (fr_61_65 hF) dX12_dayCost_119 ?_
          refine ev_iload 5 dX12_dayCost_122 rfl ?_
          obtain ⟨v28, hv28, h⟩ := xbd_some h
          refine xv_iald kd_106 (xl hF rfl) hv28 dX12_dayCost_124 ?_
          refine ev_goto (tgt := 134) dX12_dayCost_125 (by decide) ?_
          exact ev_sub [0, 1, 2, 3, 4, 5] rfl (j134 _ h)
    · show Ev E (xcm E d 0 0 QQ) Y_X12_dayCost 177 [(5, .long q29)] [] (xσ μ R) n 0 0
      refine ev_lload 0 dX12_dayCost_177 rfl ?_
      cases h
      exact ev_lret rfl (hQ) dX12_dayCost_179 (Nat.zero_le _) (Nat.zero_le _)
def fX12_dearest_b5 (x1 : Int32) (x2 : Int32) (p0 : Int32) (p1 : Int32) (μ : xm) : Option ((Int32 × Int32) ⊕ (Int32)) := if (24 * p1) ≤ x2 then (some (.inr x1)) else (xbd (xgI μ iM_isUsed 168 x2) fun v4 => if v4 = 0 then (if x1 = (-1) then (xlt (x2 + 1) fun x6 => some (.inl (x2, x6))) else (xbd (xgI μ iM_worthOf 192 ((24 * p0) + (x2 - x2 / 24 * 24))) fun v7 => xbd (xgI μ iM_worthOf 192 ((24 * p0) + (x1 - x1 / 24 * 24))) fun v8 => if v7 ≤ v8 then (xlt (x2 + 1) fun x9 => some (.inl (x1, x9))) else (xlt (x2 + 1) fun x10 => some (.inl (x2, x10))))) else (xlt (x2 + 1) fun x5 => some (.inl (x1, x5))))
def fX12_dearest (p0 : Int32) (p1 : Int32) (μ : xm) : Option (Int32) := xbd (xloop xfu (fun v => fX12_dearest_b5 v.1 v.2 p0 p1 μ) ((-1), 0)) fun q11 => some q11
set_option maxHeartbeats 4000000 in
set_option maxRecDepth 100000 in
theorem kX12_dearest {E : xE} {d : Nat} {QQ : xP} (hd : 0 ≤ d) {p0 : Int32} {p1 : Int32} {μ : xm} {R : xr} {n : Nat} (hF : xFin R n)  {res : Int32} (h : fX12_dearest p0 p1 μ = some res) (hQ : QQ (some (.int res)) (xσ μ R) n) : xCon E d Y_X12_dearest 0 0 [.ref (E.2.2.2 + iM), .int p0, .int p1] (xσ μ R) n QQ := by
  refine xCon_of pn_RX12 (Nat.le_of_ble_eq_true rfl) (L0 := [(0, .ref (E.2.2.2 + iM)), (1, .int p0), (2, .int p1)]) rfl ?_
  unfold fX12_dearest at h
  refine ev_iconst (v := (-1)) dX12_dearest_0 (by decide) ?_
  refine xv_istore_n (L' := [(3, .int (-1)), (0, .ref (E.2.2.2 + iM)), (1, .int p0), (2, .int p1)]) rfl dX12_dearest_1 rfl (Nat.le_of_ble_eq_true rfl) rfl ?_
  refine ev_iconst (v := 0) dX12_dearest_2 (by decide) ?_
  refine xv_istore (L' := [(4, .int 0), (3, .int (-1)), (0, .ref (E.2.2.2 + iM)), (1, .int p0), (2, .int p1)]) rfl dX12_dearest_3 (Nat.le_of_ble_eq_true rfl) rfl ?_
  obtain ⟨q11, hq11, h⟩ := xbd_some h
  refine ev_sub (L' := [(0, .ref (E.2.2.2 + iM)), (1, .int p0), (2, .int p1), (3, .int (-1)), (4, .int 0)]) [2, 3, 4, 1, 0] rfl ?_
  refine xloop_run (fun v => Ev E (xcm E d 0 0 QQ) Y_X12_dearest 5 [(0, .ref (E.2.2.2 + iM)), (1, .int p0), (2, .int p1), (3, .int v.1), (4, .int v.2)] [] (xσ μ R) n 0 0) (fun v => Ev E (xcm E d 0 0 QQ) Y_X12_dearest 70 [(3, .int v)] [] (xσ μ R) n 0 0) ?_ _ _ _ hq11 ?_
  · rintro ⟨x1, x2⟩ y3 h hk
    replace h : fX12_dearest_b5 x1 x2 p0 p1 μ = some y3 := h
    show Ev E (xcm E d 0 0 QQ) Y_X12_dearest 5 [(0, .ref (E.2.2.2 + iM)), (1, .int p0), (2, .int p1), (3, .int x1), (4, .int x2)] [] (xσ μ R) n 0 0
    unfold fX12_dearest_b5 at h
    refine ev_iload 4 dX12_dearest_5 rfl ?_
    refine ev_bipush (v := 24) dX12_dearest_7 (by decide) ?_
    refine ev_iload_n 2 dX12_dearest_9 rfl rfl ?_
    refine ev_imul dX12_dearest_10 ?_
    refine ev_icmp_ge (tgt := 70) dX12_dearest_11 (by decide) (fun c11 => ?_) (fun c11 => ?_)
    · replace h := xif_t c11 h
      cases h
      replace hk := xel_r hk
      exact ev_sub [3] rfl (hk)
    · replace h := xif_f c11 h
      refine ev_aload_n 0 dX12_dearest_14 rfl rfl ?_
      refine xv_getF (a := iM_isUsed) cl_12 lk_RX12_102 kd_61 (xl hF rfl) (fun _ => rfl) (fr_61_46 hF) dX12_dearest_15 ?_
      refine ev_iload 4 dX12_dearest_18 rfl ?_
      obtain ⟨v4, hv4, h⟩ := xbd_some h
      refine xv_zald kd_92 (xl hF rfl) hv4 dX12_dearest_20 ?_
      refine ev_if_ne (tgt := 64) dX12_dearest_21 (by decide) (fun c21 => ?_) (fun c21 => ?_)
      · replace h := xif_f c21 h
        obtain ⟨x5, hx5, h⟩ := xlt_some h
        refine ev_iinc (L' := [(4, .int x5), (0, .ref (E.2.2.2 + iM)), (1, .int p0), (2, .int p1), (3, .int x1)]) 4 dX12_dearest_64 rfl ((by rfl : x2 + Int32.ofInt 1 = x2 + 1).trans hx5) (Nat.le_of_ble_eq_true rfl) rfl ?_
        refine ev_goto (tgt := 5) dX12_dearest_67 (by decide) ?_
        cases h
        replace hk := xel_l hk
        exact ev_sub [1, 2, 3, 4, 0] rfl (hk)
      · replace h := xif_t c21 h
        refine ev_iload_n 3 dX12_dearest_24 rfl rfl ?_
        refine ev_iconst (v := (-1)) dX12_dearest_25 (by decide) ?_
        refine ev_icmp_eq (tgt := 61) dX12_dearest_26 (by decide) (fun c26 => ?_) (fun c26 => ?_)
        · replace h := xif_t c26 h
          refine ev_iload 4 dX12_dearest_61 rfl ?_
          refine xv_istore_n (L' := [(3, .int x2), (0, .ref (E.2.2.2 + iM)), (1, .int p0), (2, .int p1), (4, .int x2)]) rfl dX12_dearest_63 rfl (Nat.le_of_ble_eq_true rfl) rfl ?_
          obtain ⟨x6, hx6, h⟩ := xlt_some h
          refine ev_iinc (L' := [(4, .int x6), (3, .int x2), (0, .ref (E.2.2.2 + iM)), (1, .int p0), (2, .int p1)]) 4 dX12_dearest_64 rfl ((by rfl : x2 + Int32.ofInt 1 = x2 + 1).trans hx6) (Nat.le_of_ble_eq_true rfl) rfl ?_
          refine ev_goto (tgt := 5) dX12_dearest_67 (by decide) ?_
          cases h
          replace hk := xel_l hk
          exact ev_sub [2, 3, 4, 1, 0] rfl (hk)
        · replace h := xif_f c26 h
          refine ev_aload_n 0 dX12_dearest_29 rfl rfl ?_
          refine xv_getF (a := iM_worthOf) cl_12 lk_RX12_7 kd_61 (xl hF rfl) (fun _ => rfl) (fr_61_4 hF) dX12_dearest_30 ?_
          refine ev_bipush (v := 24) dX12_dearest_33 (by decide) ?_
          refine ev_iload_n 1 dX12_dearest_35 rfl rfl ?_
          refine ev_imul dX12_dearest_36 ?_
          refine ev_iload 4 dX12_dearest_37 rfl ?_
          refine ev_bipush (v := 24) dX12_dearest_39 (by decide) ?_
          refine ev_irem dX12_dearest_41 (by decide) ?_
          refine ev_iadd dX12_dearest_42 ?_
          obtain ⟨v7, hv7, h⟩ := xbd_some h
          refine xv_iald kd_62 (xl hF rfl) hv7 dX12_dearest_43 ?_
          refine ev_aload_n 0 dX12_dearest_44 rfl rfl ?_
          refine xv_getF (a := iM_worthOf) cl_12 lk_RX12_7 kd_61 (xl hF rfl) (fun _ => rfl) (fr_61_4 hF) dX12_dearest_45 ?_
          refine ev_bipush (v := 24) dX12_dearest_48 (by decide) ?_
          refine ev_iload_n 1 dX12_dearest_50 rfl rfl ?_
          refine ev_imul dX12_dearest_51 ?_
          refine ev_iload_n 3 dX12_dearest_52 rfl rfl ?_
          refine ev_bipush (v := 24) dX12_dearest_53 (by decide) ?_
          refine ev_irem dX12_dearest_55 (by decide) ?_
          refine ev_iadd dX12_dearest_56 ?_
          obtain ⟨v8, hv8, h⟩ := xbd_some h
          refine xv_iald kd_62 (xl hF rfl) hv8 dX12_dearest_57 ?_
          refine ev_icmp_le (tgt := 64) dX12_dearest_58 (by decide) (fun c58 => ?_) (fun c58 => ?_)
          · replace h := xif_t c58 h
            obtain ⟨x9, hx9, h⟩ := xlt_some h
            refine ev_iinc (L' := [(4, .int x9), (0, .ref (E.2.2.2 + iM)), (1, .int p0), (2, .int p1), (3, .int x1)]) 4 dX12_dearest_64 rfl ((by rfl : x2 + Int32.ofInt 1 = x2 + 1).trans hx9) (Nat.le_of_ble_eq_true rfl) rfl ?_
            refine ev_goto (tgt := 5) dX12_dearest_67 (by decide) ?_
            cases h
            replace hk := xel_l hk
            exact ev_sub [1, 2, 3, 4, 0] rfl (hk)
          · replace h := xif_f c58 h
            refine ev_iload 4 dX12_dearest_61 rfl ?_
            refine xv_istore_n (L' := [(3, .int x2), (0, .ref (E.2.2.2 + iM)), (1, .int p0), (2, .int p1), (4, .int x2)]) rfl dX12_dearest_63 rfl (Nat.le_of_ble_eq_true rfl) rfl ?_
            obtain ⟨x10, hx10, h⟩ := xlt_some h
            refine ev_iinc (L' := [(4, .int x10), (3, .int x2), (0, .ref (E.2.2.2 + iM)), (1, .int p0), (2, .int p1)]) 4 dX12_dearest_64 rfl ((by rfl : x2 + Int32.ofInt 1 = x2 + 1).trans hx10) (Nat.le_of_ble_eq_true rfl) rfl ?_
            refine ev_goto (tgt := 5) dX12_dearest_67 (by decide) ?_
            cases h
            replace hk := xel_l hk
            exact ev_sub [2, 3, 4, 1, 0] rfl (hk)
  · show Ev E (xcm E d 0 0 QQ) Y_X12_dearest 70 [(3, .int q11)] [] (xσ μ R) n 0 0
    refine ev_iload_n 0 dX12_dearest_70 rfl rfl ?_
    cases h
    exact ev_iret rfl (hQ) dX12_dearest_71 (Nat.zero_le _) (Nat.zero_le _)
def fX12_draws (μ : xm) : Option (xm) := xlt (xpI μ iM 2 (((25173 * (μ.1 iM 2)) + 13849) - ((25173 * (μ.1 iM 2)) + 13849) / 65536 * 65536)) fun μ1 => some μ1
set_option maxHeartbeats 4000000 in
set_option maxRecDepth 100000 in
theorem kX12_draws {E : xE} {d : Nat} {QQ : xP} (hd : 0 ≤ d)  {μ : xm} {R : xr} {n : Nat} (hF : xFin R n)  {res : xm} (h : fX12_draws μ = some res) (hQ : QQ none (xσ res R) n) : xCon E d Y_X12_draws 0 0 [.ref (E.2.2.2 + iM)] (xσ μ R) n QQ := by
  refine xCon_of pn_RX12 (Nat.le_of_ble_eq_true rfl) (L0 := [(0, .ref (E.2.2.2 + iM))]) rfl ?_
  unfold fX12_draws at h
  refine ev_aload_n 0 dX12_draws_0 rfl rfl ?_
  refine ev_sipush (v := 25173) dX12_draws_1 (by decide) ?_
  refine ev_aload_n 0 dX12_draws_4 rfl rfl ?_
  refine xv_getI cl_12 lk_RX12_152 kd_61 (xl hF rfl) (fun _ => rfl) dX12_draws_5 ?_
  refine ev_imul dX12_draws_8 ?_
  refine ev_sipush (v := 13849) dX12_draws_9 (by decide) ?_
  refine ev_iadd dX12_draws_12 ?_
  refine ev_ldcw (v := 65536) m_1862 dX12_draws_13 ?_
  refine ev_irem dX12_draws_16 (by decide) ?_
  obtain ⟨μ1, hμ1, h⟩ := xlt_some h
  refine xv_putI cl_12 lk_RX12_152 rfl kd_61 (xl hF rfl) rfl rfl (fun _ => rfl) hμ1 dX12_draws_17 ?_
  cases h
  exact ev_vret rfl (hQ) dX12_draws_20 (Nat.zero_le _) (Nat.zero_le _)
def fX12_endsOf (p0 : Int32) (μ : xm) : Option (Int32) := xbd (xgI μ iM_endMany 8 p0) fun v1 => if v1 = 0 then (some 1) else (xbd (xgI μ iM_endMany 8 p0) fun v2 => some v2)
set_option maxHeartbeats 4000000 in
set_option maxRecDepth 100000 in
theorem kX12_endsOf {E : xE} {d : Nat} {QQ : xP} (hd : 0 ≤ d) {p0 : Int32} {μ : xm} {R : xr} {n : Nat} (hF : xFin R n)  {res : Int32} (h : fX12_endsOf p0 μ = some res) (hQ : QQ (some (.int res)) (xσ μ R) n) : xCon E d Y_X12_endsOf 0 0 [.ref (E.2.2.2 + iM), .int p0] (xσ μ R) n QQ := by
  refine xCon_of pn_RX12 (Nat.le_of_ble_eq_true rfl) (L0 := [(0, .ref (E.2.2.2 + iM)), (1, .int p0)]) rfl ?_
  unfold fX12_endsOf at h
  refine ev_aload_n 0 dX12_endsOf_0 rfl rfl ?_
  refine xv_getF (a := iM_endMany) cl_12 lk_RX12_123 kd_61 (xl hF rfl) (fun _ => rfl) (fr_61_57 hF) dX12_endsOf_1 ?_
  refine ev_iload_n 1 dX12_endsOf_4 rfl rfl ?_
  obtain ⟨v1, hv1, h⟩ := xbd_some h
  refine xv_iald kd_99 (xl hF rfl) hv1 dX12_endsOf_5 ?_
  refine ev_if_ne (tgt := 13) dX12_endsOf_6 (by decide) (fun c6 => ?_) (fun c6 => ?_)
  · replace h := xif_f c6 h
    refine ev_aload_n 0 dX12_endsOf_13 rfl rfl ?_
    refine xv_getF (a := iM_endMany) cl_12 lk_RX12_123 kd_61 (xl hF rfl) (fun _ => rfl) (fr_61_57 hF) dX12_endsOf_14 ?_
    refine ev_iload_n 1 dX12_endsOf_17 rfl rfl ?_
    obtain ⟨v2, hv2, h⟩ := xbd_some h
    refine xv_iald kd_99 (xl hF rfl) hv2 dX12_endsOf_18 ?_
    cases h
    exact ev_iret rfl (hQ) dX12_endsOf_19 (Nat.zero_le _) (Nat.zero_le _)
  · replace h := xif_t c6 h
    refine ev_iconst (v := 1) dX12_endsOf_9 (by decide) ?_
    refine ev_goto (tgt := 19) dX12_endsOf_10 (by decide) ?_
    cases h
    exact ev_iret rfl (hQ) dX12_endsOf_19 (Nat.zero_le _) (Nat.zero_le _)
def fX12_factOf (p0 : Int32) : Option (Int32) := if p0 = 97 then (some 1) else (if p0 = 98 then (some 2) else (if p0 = 100 then (some 8) else (if p0 = 103 then (some 4) else (if p0 = 104 then (some 7) else (if p0 = 107 then (some 5) else (if p0 = 110 then (some 3) else (if p0 = 114 then (some 6) else (if p0 = 118 then (some 11) else (if p0 = 119 then (some 0) else (if p0 = 120 then (some 9) else (if p0 = 121 then (some 10) else (some (-1)))))))))))))
set_option maxHeartbeats 4000000 in
set_option maxRecDepth 100000 in
theorem kX12_factOf {E : xE} {d : Nat} {QQ : xP} (hd : 0 ≤ d) {p0 : Int32} {μ : xm} {R : xr} {n : Nat}  {res : Int32} (h : fX12_factOf p0 = some res) (hQ : QQ (some (.int res)) (xσ μ R) n) : xCon E d Y_X12_factOf 0 0 [.int p0] (xσ μ R) n QQ := by
  refine xCon_of pn_RX12 (Nat.le_of_ble_eq_true rfl) (L0 := [(0, .int p0)]) rfl ?_
  unfold fX12_factOf at h
  refine ev_iload_n 0 dX12_factOf_0 rfl rfl ?_
  by_cases c1_0 : p0 = 97
  · replace h := xif_t c1_0 h
    refine ev_switch (tgt := 118) (off := 117) dX12_factOf_1 (xsw_in (v := 97) (by rw [c1_0]; rfl) (by decide +kernel)) (by decide) ?_
    refine ev_iconst (v := 1) dX12_factOf_118 (by decide) ?_
    cases h
    exact ev_iret rfl (hQ) dX12_factOf_119 (Nat.zero_le _) (Nat.zero_le _)
  · replace h := xif_f c1_0 h
    by_cases c1_1 : p0 = 98
    · replace h := xif_t c1_1 h
      refine ev_switch (tgt := 120) (off := 119) dX12_factOf_1 (xsw_in (v := 98) (by rw [c1_1]; rfl) (by decide +kernel)) (by decide) ?_
      refine ev_iconst (v := 2) dX12_factOf_120 (by decide) ?_
      cases h
      exact ev_iret rfl (hQ) dX12_factOf_121 (Nat.zero_le _) (Nat.zero_le _)
    · replace h := xif_f c1_1 h
      by_cases c1_2 : p0 = 100
      · replace h := xif_t c1_2 h
        refine ev_switch (tgt := 134) (off := 133) dX12_factOf_1 (xsw_in (v := 100) (by rw [c1_2]; rfl) (by decide +kernel)) (by decide) ?_
        refine ev_bipush (v := 8) dX12_factOf_134 (by decide) ?_
        cases h
        exact ev_iret rfl (hQ) dX12_factOf_136 (Nat.zero_le _) (Nat.zero_le _)
      · replace h := xif_f c1_2 h
        by_cases c1_3 : p0 = 103
        · replace h := xif_t c1_3 h
          refine ev_switch (tgt := 124) (off := 123) dX12_factOf_1 (xsw_in (v := 103) (by rw [c1_3]; rfl) (by decide +kernel)) (by decide) ?_
          refine ev_iconst (v := 4) dX12_factOf_124 (by decide) ?_
          cases h
          exact ev_iret rfl (hQ) dX12_factOf_125 (Nat.zero_le _) (Nat.zero_le _)
        · replace h := xif_f c1_3 h
          by_cases c1_4 : p0 = 104
          · replace h := xif_t c1_4 h
            refine ev_switch (tgt := 131) (off := 130) dX12_factOf_1 (xsw_in (v := 104) (by rw [c1_4]; rfl) (by decide +kernel)) (by decide) ?_
            refine ev_bipush (v := 7) dX12_factOf_131 (by decide) ?_
            cases h
            exact ev_iret rfl (hQ) dX12_factOf_133 (Nat.zero_le _) (Nat.zero_le _)
          · replace h := xif_f c1_4 h
            by_cases c1_5 : p0 = 107
            · replace h := xif_t c1_5 h
              refine ev_switch (tgt := 126) (off := 125) dX12_factOf_1 (xsw_in (v := 107) (by rw [c1_5]; rfl) (by decide +kernel)) (by decide) ?_
              refine ev_iconst (v := 5) dX12_factOf_126 (by decide) ?_
              cases h
              exact ev_iret rfl (hQ) dX12_factOf_127 (Nat.zero_le _) (Nat.zero_le _)
            · replace h := xif_f c1_5 h
              by_cases c1_6 : p0 = 110
              · replace h := xif_t c1_6 h
                refine ev_switch (tgt := 122) (off := 121) dX12_factOf_1 (xsw_in (v := 110) (by rw [c1_6]; rfl) (by decide +kernel)) (by decide) ?_
                refine ev_iconst (v := 3) dX12_factOf_122 (by decide) ?_
                cases h
                exact ev_iret rfl (hQ) dX12_factOf_123 (Nat.zero_le _) (Nat.zero_le _)
              · replace h := xif_f c1_6 h
                by_cases c1_7 : p0 = 114
                · replace h := xif_t c1_7 h
                  refine ev_switch (tgt := 128) (off := 127) dX12_factOf_1 (xsw_in (v := 114) (by rw [c1_7]; rfl) (by decide +kernel)) (by decide) ?_
                  refine ev_bipush (v := 6) dX12_factOf_128 (by decide) ?_
                  cases h
                  exact ev_iret rfl (hQ) dX12_factOf_130 (Nat.zero_le _) (Nat.zero_le _)
                · replace h := xif_f c1_7 h
                  by_cases c1_8 : p0 = 118
                  · replace h := xif_t c1_8 h
                    refine ev_switch (tgt := 143) (off := 142) dX12_factOf_1 (xsw_in (v := 118) (by rw [c1_8]; rfl) (by decide +kernel)) (by decide) ?_
                    refine ev_bipush (v := 11) dX12_factOf_143 (by decide) ?_
                    cases h
                    exact ev_iret rfl (hQ) dX12_factOf_145 (Nat.zero_le _) (Nat.zero_le _)
                  · replace h := xif_f c1_8 h
                    by_cases c1_9 : p0 = 119
                    · replace h := xif_t c1_9 h
                      refine ev_switch (tgt := 116) (off := 115) dX12_factOf_1 (xsw_in (v := 119) (by rw [c1_9]; rfl) (by decide +kernel)) (by decide) ?_
                      refine ev_iconst (v := 0) dX12_factOf_116 (by decide) ?_
                      cases h
                      exact ev_iret rfl (hQ) dX12_factOf_117 (Nat.zero_le _) (Nat.zero_le _)
                    · replace h := xif_f c1_9 h
                      by_cases c1_10 : p0 = 120
                      · replace h := xif_t c1_10 h
                        refine ev_switch (tgt := 137) (off := 136) dX12_factOf_1 (xsw_in (v := 120) (by rw [c1_10]; rfl) (by decide +kernel)) (by decide) ?_
                        refine ev_bipush (v := 9) dX12_factOf_137 (by decide) ?_
                        cases h
                        exact ev_iret rfl (hQ) dX12_factOf_139 (Nat.zero_le _) (Nat.zero_le _)
                      · replace h := xif_f c1_10 h
                        by_cases c1_11 : p0 = 121
                        · replace h := xif_t c1_11 h
                          refine ev_switch (tgt := 140) (off := 139) dX12_factOf_1 (xsw_in (v := 121) (by rw [c1_11]; rfl) (by decide +kernel)) (by decide) ?_
                          refine ev_bipush (v := 10) dX12_factOf_140 (by decide) ?_
                          cases h
                          exact ev_iret rfl (hQ) dX12_factOf_142 (Nat.zero_le _) (Nat.zero_le _)
                        · replace h := xif_f c1_11 h
                          refine ev_switch (tgt := 146) (off := 145) dX12_factOf_1 (xsw_out [97, 98, 100, 103, 104, 107, 110, 114, 118, 119, 120, 121] (List.forall_mem_cons.mpr ⟨(xne (c := 97) rfl c1_0), (List.forall_mem_cons.mpr ⟨(xne (c := 98) rfl c1_1), (List.forall_mem_cons.mpr ⟨(xne (c := 100) rfl c1_2), (List.forall_mem_cons.mpr ⟨(xne (c := 103) rfl c1_3), (List.forall_mem_cons.mpr ⟨(xne (c := 104) rfl c1_4), (List.forall_mem_cons.mpr ⟨(xne (c := 107) rfl c1_5), (List.forall_mem_cons.mpr ⟨(xne (c := 110) rfl c1_6), (List.forall_mem_cons.mpr ⟨(xne (c := 114) rfl c1_7), (List.forall_mem_cons.mpr ⟨(xne (c := 118) rfl c1_8), (List.forall_mem_cons.mpr ⟨(xne (c := 119) rfl c1_9), (List.forall_mem_cons.mpr ⟨(xne (c := 120) rfl c1_10), (List.forall_mem_cons.mpr ⟨(xne (c := 121) rfl c1_11), (fun _ e => absurd e List.not_mem_nil)⟩)⟩)⟩)⟩)⟩)⟩)⟩)⟩)⟩)⟩)⟩)⟩) (by decide +kernel)) (by decide) ?_
                          refine ev_iconst (v := (-1)) dX12_factOf_146 (by decide) ?_
                          cases h
                          exact ev_iret rfl (hQ) dX12_factOf_147 (Nat.zero_le _) (Nat.zero_le _)
def fX12_gcd_b4 (x1 : Int32) (x2 : Int32) : Option ((Int32 × Int32) ⊕ (Int32)) := if x2 = 0 then (some (.inr x1)) else (xbd (xrem x1 x2) fun v4 => some (.inl (x2, v4)))
def fX12_gcd (p0 : Int32) (p1 : Int32) : Option (Int32) := xbd (xloop xfu (fun v => fX12_gcd_b4 v.1 v.2) (p0, p1)) fun q5 => some q5
set_option maxHeartbeats 4000000 in
set_option maxRecDepth 100000 in
theorem kX12_gcd {E : xE} {d : Nat} {QQ : xP} (hd : 0 ≤ d) {p0 : Int32} {p1 : Int32} {μ : xm} {R : xr} {n : Nat}  {res : Int32} (h : fX12_gcd p0 p1 = some res) (hQ : QQ (some (.int res)) (xσ μ R) n) : xCon E d Y_X12_gcd 0 0 [.int p0, .int p1] (xσ μ R) n QQ := by
  refine xCon_of pn_RX12 (Nat.le_of_ble_eq_true rfl) (L0 := [(0, .int p0), (1, .int p1)]) rfl ?_
  unfold fX12_gcd at h
  refine ev_iload_n 0 dX12_gcd_0 rfl rfl ?_
  refine xv_istore_n (L' := [(2, .int p0), (0, .int p0), (1, .int p1)]) rfl dX12_gcd_1 rfl (Nat.le_of_ble_eq_true rfl) rfl ?_
  refine ev_iload_n 2 dX12_gcd_2 rfl rfl ?_
  refine xv_istore_n (L' := [(3, .int p1), (2, .int p0), (0, .int p0), (1, .int p1)]) rfl dX12_gcd_3 rfl (Nat.le_of_ble_eq_true rfl) rfl ?_
  obtain ⟨q5, hq5, h⟩ := xbd_some h
  refine ev_sub (L' := [(2, .int p0), (3, .int p1)]) [1, 0] rfl ?_
  refine xloop_run (fun v => Ev E (xcm E d 0 0 QQ) Y_X12_gcd 4 [(2, .int v.1), (3, .int v.2)] [] (xσ μ R) n 0 0) (fun v => Ev E (xcm E d 0 0 QQ) Y_X12_gcd 21 [(2, .int v)] [] (xσ μ R) n 0 0) ?_ _ _ _ hq5 ?_
  · rintro ⟨x1, x2⟩ y3 h hk
    replace h : fX12_gcd_b4 x1 x2 = some y3 := h
    show Ev E (xcm E d 0 0 QQ) Y_X12_gcd 4 [(2, .int x1), (3, .int x2)] [] (xσ μ R) n 0 0
    unfold fX12_gcd_b4 at h
    refine ev_iload_n 1 dX12_gcd_4 rfl rfl ?_
    refine ev_if_eq (tgt := 21) dX12_gcd_5 (by decide) (fun c5 => ?_) (fun c5 => ?_)
    · replace h := xif_t c5 h
      cases h
      replace hk := xel_r hk
      exact ev_sub [0] rfl (hk)
    · replace h := xif_f c5 h
      refine ev_iload_n 0 dX12_gcd_8 rfl rfl ?_
      refine ev_iload_n 1 dX12_gcd_9 rfl rfl ?_
      obtain ⟨v4, hv4, h⟩ := xbd_some h
      refine xv_irem hv4 dX12_gcd_10 ?_
      refine xv_istore (L' := [(4, .int v4), (2, .int x1), (3, .int x2)]) rfl dX12_gcd_11 (Nat.le_of_ble_eq_true rfl) rfl ?_
      refine ev_iload_n 2 dX12_gcd_13 rfl rfl ?_
      refine xv_istore_n (L' := [(2, .int x2), (4, .int v4), (3, .int x2)]) rfl dX12_gcd_14 rfl (Nat.le_of_ble_eq_true rfl) rfl ?_
      refine ev_iload 1 dX12_gcd_15 rfl ?_
      refine xv_istore_n (L' := [(3, .int v4), (2, .int x2), (4, .int v4)]) rfl dX12_gcd_17 rfl (Nat.le_of_ble_eq_true rfl) rfl ?_
      refine ev_goto (tgt := 4) dX12_gcd_18 (by decide) ?_
      cases h
      replace hk := xel_l hk
      exact ev_sub [1, 0] rfl (hk)
  · show Ev E (xcm E d 0 0 QQ) Y_X12_gcd 21 [(2, .int q5)] [] (xσ μ R) n 0 0
    refine ev_iload_n 0 dX12_gcd_21 rfl rfl ?_
    cases h
    exact ev_iret rfl (hQ) dX12_gcd_22 (Nat.zero_le _) (Nat.zero_le _)
def fX12_hasOpenSum_b2 (x1 : Int32) (μ : xm) : Option ((Int32) ⊕ ((Unit) ⊕ (Int32))) := if (μ.1 iM 17) ≤ x1 then (some (.inr (.inl ()))) else (xbd (xgI μ iM_waits 220 x1) fun v3 => if (v3 / 1048576) = 14 then (some (.inr (.inr 1))) else (xlt (x1 + 1) fun x4 => some (.inl x4)))
def fX12_hasOpenSum (p0 : Int32) (μ : xm) : Option (Int32) := xbd (xloop xfu (fun v => fX12_hasOpenSum_b2 v μ) p0) fun q5 => xsm q5 (fun q6 => some 0) (fun q7 => some q7)
set_option maxHeartbeats 4000000 in
set_option maxRecDepth 100000 in
theorem kX12_hasOpenSum {E : xE} {d : Nat} {QQ : xP} (hd : 0 ≤ d) {p0 : Int32} {μ : xm} {R : xr} {n : Nat} (hF : xFin R n)  {res : Int32} (h : fX12_hasOpenSum p0 μ = some res) (hQ : QQ (some (.int res)) (xσ μ R) n) : xCon E d Y_X12_hasOpenSum 0 0 [.ref (E.2.2.2 + iM), .int p0] (xσ μ R) n QQ := by
  refine xCon_of pn_RX12 (Nat.le_of_ble_eq_true rfl) (L0 := [(0, .ref (E.2.2.2 + iM)), (1, .int p0)]) rfl ?_
  unfold fX12_hasOpenSum at h
  refine ev_iload_n 1 dX12_hasOpenSum_0 rfl rfl ?_
  refine xv_istore_n (L' := [(2, .int p0), (0, .ref (E.2.2.2 + iM)), (1, .int p0)]) rfl dX12_hasOpenSum_1 rfl (Nat.le_of_ble_eq_true rfl) rfl ?_
  obtain ⟨q5, hq5, h⟩ := xbd_some h
  refine ev_sub (L' := [(0, .ref (E.2.2.2 + iM)), (2, .int p0)]) [1, 0] rfl ?_
  refine xloop_run (fun v => Ev E (xcm E d 0 0 QQ) Y_X12_hasOpenSum 2 [(0, .ref (E.2.2.2 + iM)), (2, .int v)] [] (xσ μ R) n 0 0) (xel (fun v => Ev E (xcm E d 0 0 QQ) Y_X12_hasOpenSum 32 [] [] (xσ μ R) n 0 0) (fun v => QQ (some (.int v)) (xσ μ R) n)) ?_ _ _ _ hq5 ?_
  · rintro x1 y2 h hk
    replace h : fX12_hasOpenSum_b2 x1 μ = some y2 := h
    show Ev E (xcm E d 0 0 QQ) Y_X12_hasOpenSum 2 [(0, .ref (E.2.2.2 + iM)), (2, .int x1)] [] (xσ μ R) n 0 0
    unfold fX12_hasOpenSum_b2 at h
    refine ev_iload_n 1 dX12_hasOpenSum_2 rfl rfl ?_
    refine ev_aload_n 0 dX12_hasOpenSum_3 rfl rfl ?_
    refine xv_getI cl_12 lk_RX12_240 kd_61 (xl hF rfl) (fun _ => rfl) dX12_hasOpenSum_4 ?_
    refine ev_icmp_ge (tgt := 32) dX12_hasOpenSum_7 (by decide) (fun c7 => ?_) (fun c7 => ?_)
    · replace h := xif_t c7 h
      cases h
      replace hk := xel_r hk
      replace hk := xel_l hk
      exact ev_sub [] rfl (hk)
    · replace h := xif_f c7 h
      refine ev_aload_n 0 dX12_hasOpenSum_10 rfl rfl ?_
      refine xv_getF (a := iM_waits) cl_12 lk_RX12_36 kd_61 (xl hF rfl) (fun _ => rfl) (fr_61_22 hF) dX12_hasOpenSum_11 ?_
      refine ev_iload_n 1 dX12_hasOpenSum_14 rfl rfl ?_
      obtain ⟨v3, hv3, h⟩ := xbd_some h
      refine xv_iald kd_70 (xl hF rfl) hv3 dX12_hasOpenSum_15 ?_
      refine ev_ldc (v := 1048576) m_1554 dX12_hasOpenSum_16 ?_
      refine ev_idiv dX12_hasOpenSum_18 (by decide) ?_
      refine ev_bipush (v := 14) dX12_hasOpenSum_19 (by decide) ?_
      refine ev_icmp_ne (tgt := 26) dX12_hasOpenSum_21 (by decide) (fun c21 => ?_) (fun c21 => ?_)
      · replace h := xif_f c21 h
        obtain ⟨x4, hx4, h⟩ := xlt_some h
        refine ev_iinc (L' := [(2, .int x4), (0, .ref (E.2.2.2 + iM))]) 1 dX12_hasOpenSum_26 rfl ((by rfl : x1 + Int32.ofInt 1 = x1 + 1).trans hx4) (Nat.le_of_ble_eq_true rfl) rfl ?_
        refine ev_goto (tgt := 2) dX12_hasOpenSum_29 (by decide) ?_
        cases h
        replace hk := xel_l hk
        exact ev_sub [1, 0] rfl (hk)
      · replace h := xif_t c21 h
        refine ev_iconst (v := 1) dX12_hasOpenSum_24 (by decide) ?_
        cases h
        replace hk := xel_r hk
        replace hk := xel_r hk
        exact ev_zret rfl (Or.inr rfl) (hk) dX12_hasOpenSum_25 (Nat.zero_le _) (Nat.zero_le _)
  · rcases q5 with q6 | q7
    · replace h := xsm_l h
      show Ev E (xcm E d 0 0 QQ) Y_X12_hasOpenSum 32 [] [] (xσ μ R) n 0 0
      refine ev_iconst (v := 0) dX12_hasOpenSum_32 (by decide) ?_
      cases h
      exact ev_zret rfl (Or.inl rfl) (hQ) dX12_hasOpenSum_33 (Nat.zero_le _) (Nat.zero_le _)
    · replace h := xsm_r h
      cases h
      exact hQ
def fX12_here (μ : xm) : Option (Int32) := if (μ.1 iM 13) ≤ (μ.1 iM 12) then (some (-1)) else (xbd (xgI μ iM_tape 400 (μ.1 iM 12)) fun v1 => some (v1 &&& 255))
set_option maxHeartbeats 4000000 in
set_option maxRecDepth 100000 in
theorem kX12_here {E : xE} {d : Nat} {QQ : xP} (hd : 0 ≤ d)  {μ : xm} {R : xr} {n : Nat} (hF : xFin R n)  {res : Int32} (h : fX12_here μ = some res) (hQ : QQ (some (.int res)) (xσ μ R) n) : xCon E d Y_X12_here 0 0 [.ref (E.2.2.2 + iM)] (xσ μ R) n QQ := by
  refine xCon_of pn_RX12 (Nat.le_of_ble_eq_true rfl) (L0 := [(0, .ref (E.2.2.2 + iM))]) rfl ?_
  unfold fX12_here at h
  refine ev_aload_n 0 dX12_here_0 rfl rfl ?_
  refine xv_getI cl_12 lk_RX12_210 kd_61 (xl hF rfl) (fun _ => rfl) dX12_here_1 ?_
  refine ev_aload_n 0 dX12_here_4 rfl rfl ?_
  refine xv_getI cl_12 lk_RX12_213 kd_61 (xl hF rfl) (fun _ => rfl) dX12_here_5 ?_
  refine ev_icmp_ge (tgt := 27) dX12_here_8 (by decide) (fun c8 => ?_) (fun c8 => ?_)
  · replace h := xif_t c8 h
    refine ev_iconst (v := (-1)) dX12_here_27 (by decide) ?_
    cases h
    exact ev_iret rfl (hQ) dX12_here_28 (Nat.zero_le _) (Nat.zero_le _)
  · replace h := xif_f c8 h
    refine ev_aload_n 0 dX12_here_11 rfl rfl ?_
    refine xv_getF (a := iM_tape) cl_12 lk_RX12_29 kd_61 (xl hF rfl) (fun _ => rfl) (fr_61_10 hF) dX12_here_12 ?_
    refine ev_aload_n 0 dX12_here_15 rfl rfl ?_
    refine xv_getI cl_12 lk_RX12_210 kd_61 (xl hF rfl) (fun _ => rfl) dX12_here_16 ?_
    obtain ⟨v1, hv1, h⟩ := xbd_some h
    refine xv_bald kd_68 (xl hF rfl) hv1 dX12_here_19 ?_
    refine ev_sipush (v := 255) dX12_here_20 (by decide) ?_
    refine ev_iand dX12_here_23 ?_
    refine ev_goto (tgt := 28) dX12_here_24 (by decide) ?_
    cases h
    exact ev_iret rfl (hQ) dX12_here_28 (Nat.zero_le _) (Nat.zero_le _)
def fX12_in (p0 : Int32) (p1 : Int32) (p2 : Int32) : Option (Int32) := if p0 < p1 then (some 0) else (if p2 < p0 then (some 0) else (some 1))
set_option maxHeartbeats 4000000 in
set_option maxRecDepth 100000 in
theorem kX12_in {E : xE} {d : Nat} {QQ : xP} (hd : 0 ≤ d) {p0 : Int32} {p1 : Int32} {p2 : Int32} {μ : xm} {R : xr} {n : Nat}  {res : Int32} (h : fX12_in p0 p1 p2 = some res) (hQ : QQ (some (.int res)) (xσ μ R) n) : xCon E d Y_X12_in 0 0 [.int p0, .int p1, .int p2] (xσ μ R) n QQ := by
  refine xCon_of pn_RX12 (Nat.le_of_ble_eq_true rfl) (L0 := [(0, .int p0), (1, .int p1), (2, .int p2)]) rfl ?_
  unfold fX12_in at h
  refine ev_iload_n 0 dX12_in_0 rfl rfl ?_
  refine ev_iload_n 1 dX12_in_1 rfl rfl ?_
  refine ev_icmp_lt (tgt := 14) dX12_in_2 (by decide) (fun c2 => ?_) (fun c2 => ?_)
  · replace h := xif_t c2 h
    refine ev_iconst (v := 0) dX12_in_14 (by decide) ?_
    cases h
    exact ev_zret rfl (Or.inl rfl) (hQ) dX12_in_15 (Nat.zero_le _) (Nat.zero_le _)
  · replace h := xif_f c2 h
    refine ev_iload_n 0 dX12_in_5 rfl rfl ?_
    refine ev_iload_n 2 dX12_in_6 rfl rfl ?_
    refine ev_icmp_gt (tgt := 14) dX12_in_7 (by decide) (fun c7 => ?_) (fun c7 => ?_)
    · replace h := xif_t c7 h
      refine ev_iconst (v := 0) dX12_in_14 (by decide) ?_
      cases h
      exact ev_zret rfl (Or.inl rfl) (hQ) dX12_in_15 (Nat.zero_le _) (Nat.zero_le _)
    · replace h := xif_f c7 h
      refine ev_iconst (v := 1) dX12_in_10 (by decide) ?_
      refine ev_goto (tgt := 15) dX12_in_11 (by decide) ?_
      cases h
      exact ev_zret rfl (Or.inr rfl) (hQ) dX12_in_15 (Nat.zero_le _) (Nat.zero_le _)
def fX12_isCrossing (p0 : Int32) (μ : xm) : Option (Int32) := if (((μ.1 iM 56) >>> (p0 &&& 31)) &&& 1) = 1 then (some 1) else (some 0)
set_option maxHeartbeats 4000000 in
set_option maxRecDepth 100000 in
theorem kX12_isCrossing {E : xE} {d : Nat} {QQ : xP} (hd : 0 ≤ d) {p0 : Int32} {μ : xm} {R : xr} {n : Nat} (hF : xFin R n)  {res : Int32} (h : fX12_isCrossing p0 μ = some res) (hQ : QQ (some (.int res)) (xσ μ R) n) : xCon E d Y_X12_isCrossing 0 0 [.ref (E.2.2.2 + iM), .int p0] (xσ μ R) n QQ := by
  refine xCon_of pn_RX12 (Nat.le_of_ble_eq_true rfl) (L0 := [(0, .ref (E.2.2.2 + iM)), (1, .int p0)]) rfl ?_
  unfold fX12_isCrossing at h
  refine ev_aload_n 0 dX12_isCrossing_0 rfl rfl ?_
  refine xv_getI cl_12 lk_RX12_380 kd_61 (xl hF rfl) (fun _ => rfl) dX12_isCrossing_1 ?_
  refine ev_iload_n 1 dX12_isCrossing_4 rfl rfl ?_
  refine ev_ishr dX12_isCrossing_5 ?_
  refine ev_iconst (v := 1) dX12_isCrossing_6 (by decide) ?_
  refine ev_iand dX12_isCrossing_7 ?_
  refine ev_iconst (v := 1) dX12_isCrossing_8 (by decide) ?_
  refine ev_icmp_ne (tgt := 16) dX12_isCrossing_9 (by decide) (fun c9 => ?_) (fun c9 => ?_)
  · replace h := xif_f c9 h
    refine ev_iconst (v := 0) dX12_isCrossing_16 (by decide) ?_
    cases h
    exact ev_zret rfl (Or.inl rfl) (hQ) dX12_isCrossing_17 (Nat.zero_le _) (Nat.zero_le _)
  · replace h := xif_t c9 h
    refine ev_iconst (v := 1) dX12_isCrossing_12 (by decide) ?_
    refine ev_goto (tgt := 17) dX12_isCrossing_13 (by decide) ?_
    cases h
    exact ev_zret rfl (Or.inr rfl) (hQ) dX12_isCrossing_17 (Nat.zero_le _) (Nat.zero_le _)
def fX12_isLiveOn (p0 : Int32) (p1 : Int32) (μ : xm) : Option (Int32) := xbd (xgI μ iM_leftOf 60 p0) fun v1 => if v1 ≤ 0 then (some 0) else (xbd (xgI μ iM_lapseOf 60 p0) fun v2 => if v2 = (-1) then (some 1) else (xbd (xgI μ iM_lapseOf 60 p0) fun v3 => if v3 ≤ p1 then (some 0) else (some 1)))
set_option maxHeartbeats 4000000 in
set_option maxRecDepth 100000 in
theorem kX12_isLiveOn {E : xE} {d : Nat} {QQ : xP} (hd : 0 ≤ d) {p0 : Int32} {p1 : Int32} {μ : xm} {R : xr} {n : Nat} (hF : xFin R n)  {res : Int32} (h : fX12_isLiveOn p0 p1 μ = some res) (hQ : QQ (some (.int res)) (xσ μ R) n) : xCon E d Y_X12_isLiveOn 0 0 [.ref (E.2.2.2 + iM), .int p0, .int p1] (xσ μ R) n QQ := by
  refine xCon_of pn_RX12 (Nat.le_of_ble_eq_true rfl) (L0 := [(0, .ref (E.2.2.2 + iM)), (1, .int p0), (2, .int p1)]) rfl ?_
  unfold fX12_isLiveOn at h
  refine ev_aload_n 0 dX12_isLiveOn_0 rfl rfl ?_
  refine xv_getF (a := iM_leftOf) cl_12 lk_RX12_84 kd_61 (xl hF rfl) (fun _ => rfl) (fr_61_40 hF) dX12_isLiveOn_1 ?_
  refine ev_iload_n 1 dX12_isLiveOn_4 rfl rfl ?_
  obtain ⟨v1, hv1, h⟩ := xbd_some h
  refine xv_iald kd_86 (xl hF rfl) hv1 dX12_isLiveOn_5 ?_
  refine ev_if_le (tgt := 33) dX12_isLiveOn_6 (by decide) (fun c6 => ?_) (fun c6 => ?_)
  · replace h := xif_t c6 h
    refine ev_iconst (v := 0) dX12_isLiveOn_33 (by decide) ?_
    cases h
    exact ev_zret rfl (Or.inl rfl) (hQ) dX12_isLiveOn_34 (Nat.zero_le _) (Nat.zero_le _)
  · replace h := xif_f c6 h
    refine ev_aload_n 0 dX12_isLiveOn_9 rfl rfl ?_
    refine xv_getF (a := iM_lapseOf) cl_12 lk_RX12_90 kd_61 (xl hF rfl) (fun _ => rfl) (fr_61_42 hF) dX12_isLiveOn_10 ?_
    refine ev_iload_n 1 dX12_isLiveOn_13 rfl rfl ?_
    obtain ⟨v2, hv2, h⟩ := xbd_some h
    refine xv_iald kd_88 (xl hF rfl) hv2 dX12_isLiveOn_14 ?_
    refine ev_iconst (v := (-1)) dX12_isLiveOn_15 (by decide) ?_
    refine ev_icmp_eq (tgt := 29) dX12_isLiveOn_16 (by decide) (fun c16 => ?_) (fun c16 => ?_)
    · replace h := xif_t c16 h
      refine ev_iconst (v := 1) dX12_isLiveOn_29 (by decide) ?_
      refine ev_goto (tgt := 34) dX12_isLiveOn_30 (by decide) ?_
      cases h
      exact ev_zret rfl (Or.inr rfl) (hQ) dX12_isLiveOn_34 (Nat.zero_le _) (Nat.zero_le _)
    · replace h := xif_f c16 h
      refine ev_iload_n 2 dX12_isLiveOn_19 rfl rfl ?_
      refine ev_aload_n 0 dX12_isLiveOn_20 rfl rfl ?_
      refine xv_getF (a := iM_lapseOf) cl_12 lk_RX12_90 kd_61 (xl hF rfl) (fun _ => rfl) (fr_61_42 hF) dX12_isLiveOn_21 ?_
      refine ev_iload_n 1 dX12_isLiveOn_24 rfl rfl ?_
      obtain ⟨v3, hv3, h⟩ := xbd_some h
      refine xv_iald kd_88 (xl hF rfl) hv3 dX12_isLiveOn_25 ?_
      refine ev_icmp_ge (tgt := 33) dX12_isLiveOn_26 (by decide) (fun c26 => ?_) (fun c26 => ?_)
      · replace h := xif_t c26 h
        refine ev_iconst (v := 0) dX12_isLiveOn_33 (by decide) ?_
        cases h
        exact ev_zret rfl (Or.inl rfl) (hQ) dX12_isLiveOn_34 (Nat.zero_le _) (Nat.zero_le _)
      · replace h := xif_f c26 h
        refine ev_iconst (v := 1) dX12_isLiveOn_29 (by decide) ?_
        refine ev_goto (tgt := 34) dX12_isLiveOn_30 (by decide) ?_
        cases h
        exact ev_zret rfl (Or.inr rfl) (hQ) dX12_isLiveOn_34 (Nat.zero_le _) (Nat.zero_le _)
def fX12_isMeeting (p0 : Int32) (μ : xm) : Option (Int32) := if p0 < 0 then (some 0) else (if (μ.1 iM 1) ≤ p0 then (some 0) else (some 1))
set_option maxHeartbeats 4000000 in
set_option maxRecDepth 100000 in
theorem kX12_isMeeting {E : xE} {d : Nat} {QQ : xP} (hd : 0 ≤ d) {p0 : Int32} {μ : xm} {R : xr} {n : Nat} (hF : xFin R n)  {res : Int32} (h : fX12_isMeeting p0 μ = some res) (hQ : QQ (some (.int res)) (xσ μ R) n) : xCon E d Y_X12_isMeeting 0 0 [.ref (E.2.2.2 + iM), .int p0] (xσ μ R) n QQ := by
  refine xCon_of pn_RX12 (Nat.le_of_ble_eq_true rfl) (L0 := [(0, .ref (E.2.2.2 + iM)), (1, .int p0)]) rfl ?_
  unfold fX12_isMeeting at h
  refine ev_iload_n 1 dX12_isMeeting_0 rfl rfl ?_
  refine ev_if_lt (tgt := 16) dX12_isMeeting_1 (by decide) (fun c1 => ?_) (fun c1 => ?_)
  · replace h := xif_t c1 h
    refine ev_iconst (v := 0) dX12_isMeeting_16 (by decide) ?_
    cases h
    exact ev_zret rfl (Or.inl rfl) (hQ) dX12_isMeeting_17 (Nat.zero_le _) (Nat.zero_le _)
  · replace h := xif_f c1 h
    refine ev_iload_n 1 dX12_isMeeting_4 rfl rfl ?_
    refine ev_aload_n 0 dX12_isMeeting_5 rfl rfl ?_
    refine xv_getI cl_12 lk_RX12_155 kd_61 (xl hF rfl) (fun _ => rfl) dX12_isMeeting_6 ?_
    refine ev_icmp_ge (tgt := 16) dX12_isMeeting_9 (by decide) (fun c9 => ?_) (fun c9 => ?_)
    · replace h := xif_t c9 h
      refine ev_iconst (v := 0) dX12_isMeeting_16 (by decide) ?_
      cases h
      exact ev_zret rfl (Or.inl rfl) (hQ) dX12_isMeeting_17 (Nat.zero_le _) (Nat.zero_le _)
    · replace h := xif_f c9 h
      refine ev_iconst (v := 1) dX12_isMeeting_12 (by decide) ?_
      refine ev_goto (tgt := 17) dX12_isMeeting_13 (by decide) ?_
      cases h
      exact ev_zret rfl (Or.inr rfl) (hQ) dX12_isMeeting_17 (Nat.zero_le _) (Nat.zero_le _)
def fX12_isNote (p0 : Int32) (μ : xm) : Option (Int32) := if p0 < 0 then (some 0) else (if (μ.1 iM 37) ≤ p0 then (some 0) else (some 1))
set_option maxHeartbeats 4000000 in
set_option maxRecDepth 100000 in
theorem kX12_isNote {E : xE} {d : Nat} {QQ : xP} (hd : 0 ≤ d) {p0 : Int32} {μ : xm} {R : xr} {n : Nat} (hF : xFin R n)  {res : Int32} (h : fX12_isNote p0 μ = some res) (hQ : QQ (some (.int res)) (xσ μ R) n) : xCon E d Y_X12_isNote 0 0 [.ref (E.2.2.2 + iM), .int p0] (xσ μ R) n QQ := by
  refine xCon_of pn_RX12 (Nat.le_of_ble_eq_true rfl) (L0 := [(0, .ref (E.2.2.2 + iM)), (1, .int p0)]) rfl ?_
  unfold fX12_isNote at h
  refine ev_iload_n 1 dX12_isNote_0 rfl rfl ?_
  refine ev_if_lt (tgt := 16) dX12_isNote_1 (by decide) (fun c1 => ?_) (fun c1 => ?_)
  · replace h := xif_t c1 h
    refine ev_iconst (v := 0) dX12_isNote_16 (by decide) ?_
    cases h
    exact ev_zret rfl (Or.inl rfl) (hQ) dX12_isNote_17 (Nat.zero_le _) (Nat.zero_le _)
  · replace h := xif_f c1 h
    refine ev_iload_n 1 dX12_isNote_4 rfl rfl ?_
    refine ev_aload_n 0 dX12_isNote_5 rfl rfl ?_
    refine xv_getI cl_12 lk_RX12_328 kd_61 (xl hF rfl) (fun _ => rfl) dX12_isNote_6 ?_
    refine ev_icmp_ge (tgt := 16) dX12_isNote_9 (by decide) (fun c9 => ?_) (fun c9 => ?_)
    · replace h := xif_t c9 h
      refine ev_iconst (v := 0) dX12_isNote_16 (by decide) ?_
      cases h
      exact ev_zret rfl (Or.inl rfl) (hQ) dX12_isNote_17 (Nat.zero_le _) (Nat.zero_le _)
    · replace h := xif_f c9 h
      refine ev_iconst (v := 1) dX12_isNote_12 (by decide) ?_
      refine ev_goto (tgt := 17) dX12_isNote_13 (by decide) ?_
      cases h
      exact ev_zret rfl (Or.inr rfl) (hQ) dX12_isNote_17 (Nat.zero_le _) (Nat.zero_le _)
def fX12_isPerson (p0 : Int32) : Option (Int32) := if p0 < 0 then (some 0) else (if 8 ≤ p0 then (some 0) else (some 1))
set_option maxHeartbeats 4000000 in
set_option maxRecDepth 100000 in
theorem kX12_isPerson {E : xE} {d : Nat} {QQ : xP} (hd : 0 ≤ d) {p0 : Int32} {μ : xm} {R : xr} {n : Nat}  {res : Int32} (h : fX12_isPerson p0 = some res) (hQ : QQ (some (.int res)) (xσ μ R) n) : xCon E d Y_X12_isPerson 0 0 [.int p0] (xσ μ R) n QQ := by
  refine xCon_of pn_RX12 (Nat.le_of_ble_eq_true rfl) (L0 := [(0, .int p0)]) rfl ?_
  unfold fX12_isPerson at h
  refine ev_iload_n 0 dX12_isPerson_0 rfl rfl ?_
  refine ev_if_lt (tgt := 14) dX12_isPerson_1 (by decide) (fun c1 => ?_) (fun c1 => ?_)
  · replace h := xif_t c1 h
    refine ev_iconst (v := 0) dX12_isPerson_14 (by decide) ?_
    cases h
    exact ev_zret rfl (Or.inl rfl) (hQ) dX12_isPerson_15 (Nat.zero_le _) (Nat.zero_le _)
  · replace h := xif_f c1 h
    refine ev_iload_n 0 dX12_isPerson_4 rfl rfl ?_
    refine ev_bipush (v := 8) dX12_isPerson_5 (by decide) ?_
    refine ev_icmp_ge (tgt := 14) dX12_isPerson_7 (by decide) (fun c7 => ?_) (fun c7 => ?_)
    · replace h := xif_t c7 h
      refine ev_iconst (v := 0) dX12_isPerson_14 (by decide) ?_
      cases h
      exact ev_zret rfl (Or.inl rfl) (hQ) dX12_isPerson_15 (Nat.zero_le _) (Nat.zero_le _)
    · replace h := xif_f c7 h
      refine ev_iconst (v := 1) dX12_isPerson_10 (by decide) ?_
      refine ev_goto (tgt := 15) dX12_isPerson_11 (by decide) ?_
      cases h
      exact ev_zret rfl (Or.inr rfl) (hQ) dX12_isPerson_15 (Nat.zero_le _) (Nat.zero_le _)
def fX12_keepsAt_j40 (x3 : Int32) (p0 : Int32) (p1 : Int32) (μ : xm) : Option (Int32) := xbd (xgI μ iM_cameAt 192 ((8 * p0) + p1)) fun v4 => if v4 ≤ x3 then (some 0) else (xbd (xgI μ iM_cameAt 192 ((8 * p0) + p1)) fun v5 => some (v5 - x3))
def fX12_keepsAt (p0 : Int32) (p1 : Int32) (p2 : Int32) (μ : xm) : Option (Int32) := xbd (xgI μ iM_cameAt 192 ((8 * p0) + p2)) fun v1 => xbd (xgI μ iM_minuteOf 24 p0) fun v2 => if v1 ≤ v2 then (xbd (xgI μ iM_minuteOf 24 p0) fun v6 => fX12_keepsAt_j40 v6 p0 p1 μ) else (xbd (xgI μ iM_cameAt 192 ((8 * p0) + p2)) fun v7 => fX12_keepsAt_j40 v7 p0 p1 μ)
set_option maxHeartbeats 4000000 in
set_option maxRecDepth 100000 in
theorem kX12_keepsAt {E : xE} {d : Nat} {QQ : xP} (hd : 0 ≤ d) {p0 : Int32} {p1 : Int32} {p2 : Int32} {μ : xm} {R : xr} {n : Nat} (hF : xFin R n)  {res : Int32} (h : fX12_keepsAt p0 p1 p2 μ = some res) (hQ : QQ (some (.int res)) (xσ μ R) n) : xCon E d Y_X12_keepsAt 0 0 [.ref (E.2.2.2 + iM), .int p0, .int p1, .int p2] (xσ μ R) n QQ := by
  refine xCon_of pn_RX12 (Nat.le_of_ble_eq_true rfl) (L0 := [(0, .ref (E.2.2.2 + iM)), (1, .int p0), (2, .int p1), (3, .int p2)]) rfl ?_
  unfold fX12_keepsAt at h
  refine ev_aload_n 0 dX12_keepsAt_0 rfl rfl ?_
  refine xv_getF (a := iM_cameAt) cl_12 lk_RX12_22 kd_61 (xl hF rfl) (fun _ => rfl) (fr_61_8 hF) dX12_keepsAt_1 ?_
  refine ev_bipush (v := 8) dX12_keepsAt_4 (by decide) ?_
  refine ev_iload_n 1 dX12_keepsAt_6 rfl rfl ?_
  refine ev_imul dX12_keepsAt_7 ?_
  refine ev_iload_n 3 dX12_keepsAt_8 rfl rfl ?_
  refine ev_iadd dX12_keepsAt_9 ?_
  obtain ⟨v1, hv1, h⟩ := xbd_some h
  refine xv_iald kd_66 (xl hF rfl) hv1 dX12_keepsAt_10 ?_
  refine ev_aload_n 0 dX12_keepsAt_11 rfl rfl ?_
  refine xv_getF (a := iM_minuteOf) cl_12 lk_RX12_16 kd_61 (xl hF rfl) (fun _ => rfl) (fr_61_6 hF) dX12_keepsAt_12 ?_
  refine ev_iload_n 1 dX12_keepsAt_15 rfl rfl ?_
  obtain ⟨v2, hv2, h⟩ := xbd_some h
  refine xv_iald kd_64 (xl hF rfl) hv2 dX12_keepsAt_16 ?_
  have j40 : ∀ (x3 : Int32), fX12_keepsAt_j40 x3 p0 p1 μ = some res → Ev E (xcm E d 0 0 QQ) Y_X12_keepsAt 40 [(0, .ref (E.2.2.2 + iM)), (1, .int p0), (2, .int p1)] [.int x3] (xσ μ R) n 0 0 := by
    intro x3 h
    unfold fX12_keepsAt_j40 at h
    refine xv_istore (L' := [(4, .int x3), (0, .ref (E.2.2.2 + iM)), (1, .int p0), (2, .int p1)]) rfl dX12_keepsAt_40 (Nat.le_of_ble_eq_true rfl) rfl ?_
    refine ev_aload_n 1 dX12_keepsAt_42 rfl rfl ?_
    refine xv_getF (a := iM_cameAt) cl_12 lk_RX12_22 kd_61 (xl hF rfl) (fun _ => rfl) (fr_61_8 hF) dX12_keepsAt_43 ?_
    refine ev_bipush (v := 8) dX12_keepsAt_46 (by decide) ?_
    refine ev_iload_n 2 dX12_keepsAt_48 rfl rfl ?_
    refine ev_imul dX12_keepsAt_49 ?_
    refine ev_iload_n 3 dX12_keepsAt_50 rfl rfl ?_
    refine ev_iadd dX12_keepsAt_51 ?_
    obtain ⟨v4, hv4, h⟩ := xbd_some h
    refine xv_iald kd_66 (xl hF rfl) hv4 dX12_keepsAt_52 ?_
    refine ev_iload 0 dX12_keepsAt_53 rfl ?_
    refine ev_icmp_le (tgt := 75) dX12_keepsAt_55 (by decide) (fun c55 => ?_) (fun c55 => ?_)
    · replace h := xif_t c55 h
      refine ev_iconst (v := 0) dX12_keepsAt_75 (by decide) ?_
      cases h
      exact ev_iret rfl (hQ) dX12_keepsAt_76 (Nat.zero_le _) (Nat.zero_le _)
    · replace h := xif_f c55 h
      refine ev_aload_n 1 dX12_keepsAt_58 rfl rfl ?_
      refine xv_getF (a := iM_cameAt) cl_12 lk_RX12_22 kd_61 (xl hF rfl) (fun _ => rfl) (fr_61_8 hF) dX12_keepsAt_59 ?_
      refine ev_bipush (v := 8) dX12_keepsAt_62 (by decide) ?_
      refine ev_iload_n 2 dX12_keepsAt_64 rfl rfl ?_
      refine ev_imul dX12_keepsAt_65 ?_
      refine ev_iload_n 3 dX12_keepsAt_66 rfl rfl ?_
      refine ev_iadd dX12_keepsAt_67 ?_
      obtain ⟨v5, hv5, h⟩ := xbd_some h
      refine xv_iald kd_66 (xl hF rfl) hv5 dX12_keepsAt_68 ?_
      refine ev_iload 0 dX12_keepsAt_69 rfl ?_
      refine ev_isub dX12_keepsAt_71 ?_
      refine ev_goto (tgt := 76) dX12_keepsAt_72 (by decide) ?_
      cases h
      exact ev_iret rfl (hQ) dX12_keepsAt_76 (Nat.zero_le _) (Nat.zero_le _)
  refine ev_icmp_le (tgt := 34) dX12_keepsAt_17 (by decide) (fun c17 => ?_) (fun c17 => ?_)
  · replace h := xif_t c17 h
    refine ev_aload_n 0 dX12_keepsAt_34 rfl rfl ?_
    refine xv_getF (a := iM_minuteOf) cl_12 lk_RX12_16 kd_61 (xl hF rfl) (fun _ => rfl) (fr_61_6 hF) dX12_keepsAt_35 ?_
    refine ev_iload_n 1 dX12_keepsAt_38 rfl rfl ?_
    obtain ⟨v6, hv6, h⟩ := xbd_some h
    refine xv_iald kd_64 (xl hF rfl) hv6 dX12_keepsAt_39 ?_
    exact ev_sub [0, 1, 2] rfl (j40 _ h)
  · replace h := xif_f c17 h
    refine ev_aload_n 0 dX12_keepsAt_20 rfl rfl ?_
    refine xv_getF (a := iM_cameAt) cl_12 lk_RX12_22 kd_61 (xl hF rfl) (fun _ => rfl) (fr_61_8 hF) dX12_keepsAt_21 ?_
    refine ev_bipush (v := 8) dX12_keepsAt_24 (by decide) ?_
    refine ev_iload_n 1 dX12_keepsAt_26 rfl rfl ?_
    refine ev_imul dX12_keepsAt_27 ?_
    refine ev_iload_n 3 dX12_keepsAt_28 rfl rfl ?_
    refine ev_iadd dX12_keepsAt_29 ?_
    obtain ⟨v7, hv7, h⟩ := xbd_some h
    refine xv_iald kd_66 (xl hF rfl) hv7 dX12_keepsAt_30 ?_
    refine ev_goto (tgt := 40) dX12_keepsAt_31 (by decide) ?_
    exact ev_sub [0, 1, 2] rfl (j40 _ h)
def fX12_lateAt (p0 : Int32) (p1 : Int32) (μ : xm) : Option (Int32) := xbd (xgI μ iM_cameAt 192 ((8 * p0) + p1)) fun v1 => xbd (xgI μ iM_minuteOf 24 p0) fun v2 => if v1 ≤ v2 then (some 0) else (xbd (xgI μ iM_cameAt 192 ((8 * p0) + p1)) fun v3 => xbd (xgI μ iM_minuteOf 24 p0) fun v4 => some (v3 - v4))
set_option maxHeartbeats 4000000 in
set_option maxRecDepth 100000 in
theorem kX12_lateAt {E : xE} {d : Nat} {QQ : xP} (hd : 0 ≤ d) {p0 : Int32} {p1 : Int32} {μ : xm} {R : xr} {n : Nat} (hF : xFin R n)  {res : Int32} (h : fX12_lateAt p0 p1 μ = some res) (hQ : QQ (some (.int res)) (xσ μ R) n) : xCon E d Y_X12_lateAt 0 0 [.ref (E.2.2.2 + iM), .int p0, .int p1] (xσ μ R) n QQ := by
  refine xCon_of pn_RX12 (Nat.le_of_ble_eq_true rfl) (L0 := [(0, .ref (E.2.2.2 + iM)), (1, .int p0), (2, .int p1)]) rfl ?_
  unfold fX12_lateAt at h
  refine ev_aload_n 0 dX12_lateAt_0 rfl rfl ?_
  refine xv_getF (a := iM_cameAt) cl_12 lk_RX12_22 kd_61 (xl hF rfl) (fun _ => rfl) (fr_61_8 hF) dX12_lateAt_1 ?_
  refine ev_bipush (v := 8) dX12_lateAt_4 (by decide) ?_
  refine ev_iload_n 1 dX12_lateAt_6 rfl rfl ?_
  refine ev_imul dX12_lateAt_7 ?_
  refine ev_iload_n 2 dX12_lateAt_8 rfl rfl ?_
  refine ev_iadd dX12_lateAt_9 ?_
  obtain ⟨v1, hv1, h⟩ := xbd_some h
  refine xv_iald kd_66 (xl hF rfl) hv1 dX12_lateAt_10 ?_
  refine ev_aload_n 0 dX12_lateAt_11 rfl rfl ?_
  refine xv_getF (a := iM_minuteOf) cl_12 lk_RX12_16 kd_61 (xl hF rfl) (fun _ => rfl) (fr_61_6 hF) dX12_lateAt_12 ?_
  refine ev_iload_n 1 dX12_lateAt_15 rfl rfl ?_
  obtain ⟨v2, hv2, h⟩ := xbd_some h
  refine xv_iald kd_64 (xl hF rfl) hv2 dX12_lateAt_16 ?_
  refine ev_icmp_le (tgt := 41) dX12_lateAt_17 (by decide) (fun c17 => ?_) (fun c17 => ?_)
  · replace h := xif_t c17 h
    refine ev_iconst (v := 0) dX12_lateAt_41 (by decide) ?_
    cases h
    exact ev_iret rfl (hQ) dX12_lateAt_42 (Nat.zero_le _) (Nat.zero_le _)
  · replace h := xif_f c17 h
    refine ev_aload_n 0 dX12_lateAt_20 rfl rfl ?_
    refine xv_getF (a := iM_cameAt) cl_12 lk_RX12_22 kd_61 (xl hF rfl) (fun _ => rfl) (fr_61_8 hF) dX12_lateAt_21 ?_
    refine ev_bipush (v := 8) dX12_lateAt_24 (by decide) ?_
    refine ev_iload_n 1 dX12_lateAt_26 rfl rfl ?_
    refine ev_imul dX12_lateAt_27 ?_
    refine ev_iload_n 2 dX12_lateAt_28 rfl rfl ?_
    refine ev_iadd dX12_lateAt_29 ?_
    obtain ⟨v3, hv3, h⟩ := xbd_some h
    refine xv_iald kd_66 (xl hF rfl) hv3 dX12_lateAt_30 ?_
    refine ev_aload_n 0 dX12_lateAt_31 rfl rfl ?_
    refine xv_getF (a := iM_minuteOf) cl_12 lk_RX12_16 kd_61 (xl hF rfl) (fun _ => rfl) (fr_61_6 hF) dX12_lateAt_32 ?_
    refine ev_iload_n 1 dX12_lateAt_35 rfl rfl ?_
    obtain ⟨v4, hv4, h⟩ := xbd_some h
    refine xv_iald kd_64 (xl hF rfl) hv4 dX12_lateAt_36 ?_
    refine ev_isub dX12_lateAt_37 ?_
    refine ev_goto (tgt := 42) dX12_lateAt_38 (by decide) ?_
    cases h
    exact ev_iret rfl (hQ) dX12_lateAt_42 (Nat.zero_le _) (Nat.zero_le _)
def fX12_makes (p0 : Int32) (p1 : Int32) (p2 : Int32) (p3 : Int32) (p4 : Int32) (μ : xm) : Option (xm) := xbd (xsI μ iM_owesIt 60 (μ.1 iM 37) p0) fun μ1 => xbd (xsI μ1 iM_hasIt 60 (μ1.1 iM 37) p1) fun μ2 => xbd (xsI μ2 iM_leftOf 60 (μ2.1 iM 37) p2) fun μ3 => xbd (xsI μ3 iM_madeOn 60 (μ3.1 iM 37) p3) fun μ4 => xbd (xsI μ4 iM_lapseOf 60 (μ4.1 iM 37) p4) fun μ5 => xlt (xpI μ5 iM 37 ((μ5.1 iM 37) + 1)) fun μ6 => some μ6
set_option maxHeartbeats 4000000 in
set_option maxRecDepth 100000 in
theorem kX12_makes {E : xE} {d : Nat} {QQ : xP} (hd : 0 ≤ d) {p0 : Int32} {p1 : Int32} {p2 : Int32} {p3 : Int32} {p4 : Int32} {μ : xm} {R : xr} {n : Nat} (hF : xFin R n)  {res : xm} (h : fX12_makes p0 p1 p2 p3 p4 μ = some res) (hQ : QQ none (xσ res R) n) : xCon E d Y_X12_makes 0 0 [.ref (E.2.2.2 + iM), .int p0, .int p1, .int p2, .int p3, .int p4] (xσ μ R) n QQ := by
  refine xCon_of pn_RX12 (Nat.le_of_ble_eq_true rfl) (L0 := [(0, .ref (E.2.2.2 + iM)), (1, .int p0), (2, .int p1), (3, .int p2), (4, .int p3), (5, .int p4)]) rfl ?_
  unfold fX12_makes at h
  refine ev_aload_n 0 dX12_makes_0 rfl rfl ?_
  refine xv_getF (a := iM_owesIt) cl_12 lk_RX12_78 kd_61 (xl hF rfl) (fun _ => rfl) (fr_61_38 hF) dX12_makes_1 ?_
  refine ev_aload_n 0 dX12_makes_4 rfl rfl ?_
  refine xv_getI cl_12 lk_RX12_328 kd_61 (xl hF rfl) (fun _ => rfl) dX12_makes_5 ?_
  refine ev_iload_n 1 dX12_makes_8 rfl rfl ?_
  obtain ⟨μ1, hμ1, h⟩ := xbd_some h
  refine xv_iast kd_84 (xl hF rfl) hμ1 dX12_makes_9 ?_
  refine ev_aload_n 0 dX12_makes_10 rfl rfl ?_
  refine xv_getF (a := iM_hasIt) cl_12 lk_RX12_81 kd_61 (xl hF rfl) (fun _ => rfl) (fr_61_39 hF) dX12_makes_11 ?_
  refine ev_aload_n 0 dX12_makes_14 rfl rfl ?_
  refine xv_getI cl_12 lk_RX12_328 kd_61 (xl hF rfl) (fun _ => rfl) dX12_makes_15 ?_
  refine ev_iload_n 2 dX12_makes_18 rfl rfl ?_
  obtain ⟨μ2, hμ2, h⟩ := xbd_some h
  refine xv_iast kd_85 (xl hF rfl) hμ2 dX12_makes_19 ?_
  refine ev_aload_n 0 dX12_makes_20 rfl rfl ?_
  refine xv_getF (a := iM_leftOf) cl_12 lk_RX12_84 kd_61 (xl hF rfl) (fun _ => rfl) (fr_61_40 hF) dX12_makes_21 ?_
  refine ev_aload_n 0 dX12_makes_24 rfl rfl ?_
  refine xv_getI cl_12 lk_RX12_328 kd_61 (xl hF rfl) (fun _ => rfl) dX12_makes_25 ?_
  refine ev_iload_n 3 dX12_makes_28 rfl rfl ?_
  obtain ⟨μ3, hμ3, h⟩ := xbd_some h
  refine xv_iast kd_86 (xl hF rfl) hμ3 dX12_makes_29 ?_
  refine ev_aload_n 0 dX12_makes_30 rfl rfl ?_
  refine xv_getF (a := iM_madeOn) cl_12 lk_RX12_87 kd_61 (xl hF rfl) (fun _ => rfl) (fr_61_41 hF) dX12_makes_31 ?_
  refine ev_aload_n 0 dX12_makes_34 rfl rfl ?_
  refine xv_getI cl_12 lk_RX12_328 kd_61 (xl hF rfl) (fun _ => rfl) dX12_makes_35 ?_
  refine ev_iload 4 dX12_makes_38 rfl ?_
  obtain ⟨μ4, hμ4, h⟩ := xbd_some h
  refine xv_iast kd_87 (xl hF rfl) hμ4 dX12_makes_40 ?_
  refine ev_aload_n 0 dX12_makes_41 rfl rfl ?_
  refine xv_getF (a := iM_lapseOf) cl_12 lk_RX12_90 kd_61 (xl hF rfl) (fun _ => rfl) (fr_61_42 hF) dX12_makes_42 ?_
  refine ev_aload_n 0 dX12_makes_45 rfl rfl ?_
  refine xv_getI cl_12 lk_RX12_328 kd_61 (xl hF rfl) (fun _ => rfl) dX12_makes_46 ?_
  refine ev_iload 5 dX12_makes_49 rfl ?_
  obtain ⟨μ5, hμ5, h⟩ := xbd_some h
  refine xv_iast kd_88 (xl hF rfl) hμ5 dX12_makes_51 ?_
  refine ev_aload_n 0 dX12_makes_52 rfl rfl ?_
  refine ev_aload_n 0 dX12_makes_53 rfl rfl ?_
  refine xv_getI cl_12 lk_RX12_328 kd_61 (xl hF rfl) (fun _ => rfl) dX12_makes_54 ?_
  refine ev_iconst (v := 1) dX12_makes_57 (by decide) ?_
  refine ev_iadd dX12_makes_58 ?_
  obtain ⟨μ6, hμ6, h⟩ := xlt_some h
  refine xv_putI cl_12 lk_RX12_328 rfl kd_61 (xl hF rfl) rfl rfl (fun _ => rfl) hμ6 dX12_makes_59 ?_
  cases h
  exact ev_vret rfl (hQ) dX12_makes_62 (Nat.zero_le _) (Nat.zero_le _)
