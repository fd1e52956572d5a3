def fX12_out_b37 (x4 : Int32) (x5 : Int64) (x6 : Int32) (p0 : Int32) (p1 : Int32) (p2 : Int32) (μ : xm) : Option ((Int32 × Int64 × Int32) ⊕ (Int32)) := if 600 < x6 then (some (.inr x4)) else (xbd (fX12_costOf p0 p1 x6 p2 μ) fun q8 => if (lg_cmp q8 x5) < 0 then (xlt (x6 + 1) fun x9 => some (.inl (x6, q8, x9))) else (xlt (x6 + 1) fun x10 => some (.inl (x4, x5, x10))))
def fX12_out (p0 : Int32) (p1 : Int32) (p2 : Int32) (μ : xm) : Option (Int32) := xbd (fX12_isOf p0 p1 μ) fun q1 => if q1 = 0 then (some (-1)) else (xbd (fX12_in p2 0 99) fun q2 => if q2 = 0 then (some (-1)) else (xbd (fX12_costOf p0 p1 0 p2 μ) fun q3 => xbd (xloop xfu (fun v => fX12_out_b37 v.1 v.2.1 v.2.2 p0 p1 p2 μ) (0, q3, 1)) fun q11 => some q11))
set_option maxHeartbeats 4000000 in
set_option maxRecDepth 100000 in
theorem kX12_out {E : xE} {d : Nat} {QQ : xP} (hd : 4 ≤ d) {p0 : Int32} {p1 : Int32} {p2 : Int32} {μ : xm} {R : xr} {n : Nat} (hF : xFin R n)  {res : Int32} (h : fX12_out p0 p1 p2 μ = some res) (hQ : QQ (some (.int res)) (xσ μ R) n) : xCon E d Y_X12_out 0 0 [.ref (E.2.2.2 + iM), .int p0, .int p1, .int p2] (xσ μ R) n QQ := by
  refine xCon_of pn_RX12 (Nat.le_of_ble_eq_true rfl) (L0 := [(0, .ref (E.2.2.2 + iM)), (1, .int p0), (2, .int p1), (3, .int p2)]) rfl ?_
  unfold fX12_out at h
  refine ev_aload_n 0 dX12_out_0 rfl rfl ?_
  refine ev_iload_n 1 dX12_out_1 rfl rfl ?_
  refine ev_iload_n 2 dX12_out_2 rfl rfl ?_
  obtain ⟨q1, hq1, h⟩ := xbd_some h
  refine ev_callV (ci := 12) (rest := []) 2 (kX12_isOf (E := E) (d := 1) (QQ := (fun v τ n' => v = some (.int q1) ∧ τ = xσ μ R ∧ n = n')) (Nat.le_refl _) hF hq1 (⟨rfl, rfl, rfl⟩)) my_X12_isOf ⟨m_1470, m_1472, m_40⟩ cl_12 kd_61 (xl hF rfl) rfl rfl (Nat.le_of_ble_eq_true rfl) (Nat.le_trans (by decide) hd) (xlo (by decide) (Nat.le_trans (by decide) hd)) (Nat.zero_le _) (Nat.zero_le _) dX12_out_3 (fun v τ n' hv => ?_)
  obtain ⟨rfl, rfl, rfl⟩ := hv
  show Ev E (xcm E d 0 0 QQ) Y_X12_out 6 [(0, .ref (E.2.2.2 + iM)), (1, .int p0), (2, .int p1), (3, .int p2)] [.int q1] (xσ μ R) n 0 0
  refine ev_if_eq (tgt := 19) dX12_out_6 (by decide) (fun c6 => ?_) (fun c6 => ?_)
  · replace h := xif_t c6 h
    refine ev_iconst (v := (-1)) dX12_out_19 (by decide) ?_
    cases h
    exact ev_iret rfl (hQ) dX12_out_20 (Nat.zero_le _) (Nat.zero_le _)
  · replace h := xif_f c6 h
    refine ev_iload_n 3 dX12_out_9 rfl rfl ?_
    refine ev_iconst (v := 0) dX12_out_10 (by decide) ?_
    refine ev_bipush (v := 99) dX12_out_11 (by decide) ?_
    obtain ⟨q2, hq2, h⟩ := xbd_some h
    refine ev_callS (As := [.int p2, .int 0, .int 99]) (rest := []) 3 (kX12_in (E := E) (d := 0) (QQ := (fun v τ n' => v = some (.int q2) ∧ τ = xσ μ R ∧ n = n')) (Nat.le_refl _)  hq2 (⟨rfl, rfl, rfl⟩)) my_X12_in ⟨m_1449, m_1450⟩ rfl rfl (Nat.le_of_ble_eq_true rfl) (Nat.le_trans (by decide) hd) (xlo (by decide) (Nat.le_trans (by decide) hd)) (Nat.zero_le _) (Nat.zero_le _) dX12_out_13 (fun v τ n' hv => ?_)
    obtain ⟨rfl, rfl, rfl⟩ := hv
    show Ev E (xcm E d 0 0 QQ) Y_X12_out 16 [(0, .ref (E.2.2.2 + iM)), (1, .int p0), (2, .int p1), (3, .int p2)] [.int q2] (xσ μ R) n 0 0
    refine ev_if_ne (tgt := 21) dX12_out_16 (by decide) (fun c16 => ?_) (fun c16 => ?_)
    · replace h := xif_f c16 h
      refine ev_iconst (v := 0) dX12_out_21 (by decide) ?_
      refine xv_istore (L' := [(4, .int 0), (0, .ref (E.2.2.2 + iM)), (1, .int p0), (2, .int p1), (3, .int p2)]) rfl dX12_out_22 (Nat.le_of_ble_eq_true rfl) rfl ?_
      refine ev_aload_n 1 dX12_out_24 rfl rfl ?_
      refine ev_iload_n 2 dX12_out_25 rfl rfl ?_
      refine ev_iload_n 3 dX12_out_26 rfl rfl ?_
      refine ev_iconst (v := 0) dX12_out_27 (by decide) ?_
      refine ev_iload_n 4 dX12_out_28 rfl rfl ?_
      obtain ⟨q3, hq3, h⟩ := xbd_some h
      refine ev_callV (ci := 12) (rest := []) 4 (kX12_costOf (E := E) (d := 3) (QQ := (fun v τ n' => v = some (.long q3) ∧ τ = xσ μ R ∧ n = n')) (Nat.le_refl _) hF hq3 (⟨rfl, rfl, rfl⟩)) my_X12_costOf ⟨m_1785, m_1787, m_93⟩ cl_12 kd_61 (xl hF rfl) rfl rfl (Nat.le_of_ble_eq_true rfl) (Nat.le_trans (by decide) hd) (xlo (by decide) (Nat.le_trans (by decide) hd)) (Nat.zero_le _) (Nat.zero_le _) dX12_out_29 (fun v τ n' hv => ?_)
      obtain ⟨rfl, rfl, rfl⟩ := hv
      show Ev E (xcm E d 0 0 QQ) Y_X12_out 32 [(4, .int 0), (0, .ref (E.2.2.2 + iM)), (1, .int p0), (2, .int p1), (3, .int p2)] [.long q3] (xσ μ R) n 0 0
      refine xv_lstore (L' := [(5, .long q3), (4, .int 0), (0, .ref (E.2.2.2 + iM)), (1, .int p0), (2, .int p1), (3, .int p2)]) rfl dX12_out_32 (Nat.le_of_ble_eq_true rfl) rfl ?_
      refine ev_iconst (v := 1) dX12_out_34 (by decide) ?_
      refine xv_istore (L' := [(7, .int 1), (5, .long q3), (4, .int 0), (0, .ref (E.2.2.2 + iM)), (1, .int p0), (2, .int p1), (3, .int p2)]) rfl dX12_out_35 (Nat.le_of_ble_eq_true rfl) rfl ?_
      obtain ⟨q11, hq11, h⟩ := xbd_some h
      refine ev_sub (L' := [(0, .ref (E.2.2.2 + iM)), (1, .int p0), (2, .int p1), (3, .int p2), (4, .int 0), (5, .long q3), (7, .int 1)]) [3, 4, 5, 6, 2, 1, 0] rfl ?_
      refine xloop_run (fun v => Ev E (xcm E d 0 0 QQ) Y_X12_out 37 [(0, .ref (E.2.2.2 + iM)), (1, .int p0), (2, .int p1), (3, .int p2), (4, .int v.1), (5, .long v.2.1), (7, .int v.2.2)] [] (xσ μ R) n 0 0) (fun v => Ev E (xcm E d 0 0 QQ) Y_X12_out 81 [(4, .int v)] [] (xσ μ R) n 0 0) ?_ _ _ _ hq11 ?_
      · rintro ⟨x4, x5, x6⟩ y7 h hk
        replace h : fX12_out_b37 x4 x5 x6 p0 p1 p2 μ = some y7 := h
        show Ev E (xcm E d 0 0 QQ) Y_X12_out 37 [(0, .ref (E.2.2.2 + iM)), (1, .int p0), (2, .int p1), (3, .int p2), (4, .int x4), (5, .long x5), (7, .int x6)] [] (xσ μ R) n 0 0
        unfold fX12_out_b37 at h
        refine ev_iload 6 dX12_out_37 rfl ?_
        refine ev_sipush (v := 600) dX12_out_39 (by decide) ?_
        refine ev_icmp_gt (tgt := 81) dX12_out_42 (by decide) (fun c42 => ?_) (fun c42 => ?_)
        · replace h := xif_t c42 h
          cases h
          replace hk := xel_r hk
          exact ev_sub [4] rfl (hk)
        · replace h := xif_f c42 h
          refine ev_aload_n 0 dX12_out_45 rfl rfl ?_
          refine ev_iload_n 1 dX12_out_46 rfl rfl ?_
          refine ev_iload_n 2 dX12_out_47 rfl rfl ?_
          refine ev_iload 6 dX12_out_48 rfl ?_
          refine ev_iload_n 3 dX12_out_50 rfl rfl ?_
          obtain ⟨q8, hq8, h⟩ := xbd_some h
          refine ev_callV (ci := 12) (rest := []) 4 (kX12_costOf (E := E) (d := 3) (QQ := (fun v τ n' => v = some (.long q8) ∧ τ = xσ μ R ∧ n = n')) (Nat.le_refl _) hF hq8 (⟨rfl, rfl, rfl⟩)) my_X12_costOf ⟨m_1785, m_1787, m_93⟩ cl_12 kd_61 (xl hF rfl) rfl rfl (Nat.le_of_ble_eq_true rfl) (Nat.le_trans (by decide) hd) (xlo (by decide) (Nat.le_trans (by decide) hd)) (Nat.zero_le _) (Nat.zero_le _) dX12_out_51 (fun v τ n' hv => ?_)
          obtain ⟨rfl, rfl, rfl⟩ := hv
          show Ev E (xcm E d 0 0 QQ) Y_X12_out 54 [(0, .ref (E.2.2.2 + iM)), (1, .int p0), (2, .int p1), (3, .int p2), (4, .int x4), (5, .long x5), (7, .int x6)] [.long q8] (xσ μ R) n 0 0
          refine xv_lstore (L' := [(8, .long q8), (0, .ref (E.2.2.2 + iM)), (1, .int p0), (2, .int p1), (3, .int p2), (4, .int x4), (5, .long x5), (7, .int x6)]) rfl dX12_out_54 (Nat.le_of_ble_eq_true rfl) rfl ?_
          refine ev_lload 0 dX12_out_56 rfl ?_
          refine ev_lload 6 dX12_out_58 rfl ?_
          refine ev_lcmp dX12_out_60 ?_
          refine ev_if_lt (tgt := 67) dX12_out_61 (by decide) (fun c61 => ?_) (fun c61 => ?_)
          · replace h := xif_t c61 h
            refine ev_lload 0 dX12_out_67 rfl ?_
            refine xv_lstore (L' := [(5, .long q8), (8, .long q8), (0, .ref (E.2.2.2 + iM)), (1, .int p0), (2, .int p1), (3, .int p2), (4, .int x4), (7, .int x6)]) rfl dX12_out_69 (Nat.le_of_ble_eq_true rfl) rfl ?_
            refine ev_iload 7 dX12_out_71 rfl ?_
            refine xv_istore (L' := [(4, .int x6), (5, .long q8), (8, .long q8), (0, .ref (E.2.2.2 + iM)), (1, .int p0), (2, .int p1), (3, .int p2), (7, .int x6)]) rfl dX12_out_73 (Nat.le_of_ble_eq_true rfl) rfl ?_
            obtain ⟨x9, hx9, h⟩ := xlt_some h
            refine ev_iinc (L' := [(7, .int x9), (4, .int x6), (5, .long q8), (8, .long q8), (0, .ref (E.2.2.2 + iM)), (1, .int p0), (2, .int p1), (3, .int p2)]) 7 dX12_out_75 rfl ((by rfl : x6 + Int32.ofInt 1 = x6 + 1).trans hx9) (Nat.le_of_ble_eq_true rfl) rfl ?_
            refine ev_goto (tgt := 37) dX12_out_78 (by decide) ?_
            cases h
            replace hk := xel_l hk
            exact ev_sub [4, 5, 6, 7, 1, 2, 0] rfl (hk)
          · replace h := xif_f c61 h
            refine ev_goto (tgt := 75) dX12_out_64 (by decide) ?_
            obtain ⟨x10, hx10, h⟩ := xlt_some h
            refine ev_iinc (L' := [(7, .int x10), (8, .long q8), (0, .ref (E.2.2.2 + iM)), (1, .int p0), (2, .int p1), (3, .int p2), (4, .int x4), (5, .long x5)]) 7 dX12_out_75 rfl ((by rfl : x6 + Int32.ofInt 1 = x6 + 1).trans hx10) (Nat.le_of_ble_eq_true rfl) rfl ?_
            refine ev_goto (tgt := 37) dX12_out_78 (by decide) ?_
            cases h
            replace hk := xel_l hk
            exact ev_sub [2, 3, 4, 5, 6, 7, 0] rfl (hk)
      · show Ev E (xcm E d 0 0 QQ) Y_X12_out 81 [(4, .int q11)] [] (xσ μ R) n 0 0
        refine ev_iload 0 dX12_out_81 rfl ?_
        cases h
        exact ev_iret rfl (hQ) dX12_out_83 (Nat.zero_le _) (Nat.zero_le _)
    · replace h := xif_t c16 h
      refine ev_iconst (v := (-1)) dX12_out_19 (by decide) ?_
      cases h
      exact ev_iret rfl (hQ) dX12_out_20 (Nat.zero_le _) (Nat.zero_le _)
def fX12_outTwo_b36 (x3 : Int32) (x4 : Int64) (x5 : Int32) (p0 : Int32) (p1 : Int32) (p2 : Int32) (p3 : Int32) (p4 : Int32) (μ : xm) : Option ((Int32 × Int64 × Int32) ⊕ (Int32)) := if 600 < x5 then (some (.inr x3)) else (xbd (fX12_twoOf p0 p1 p2 p3 x5 p4 μ) fun q7 => if (lg_cmp q7 x4) < 0 then (xlt (x5 + 1) fun x8 => some (.inl (x5, q7, x8))) else (xlt (x5 + 1) fun x9 => some (.inl (x3, x4, x9))))
def fX12_outTwo (p0 : Int32) (p1 : Int32) (p2 : Int32) (p3 : Int32) (p4 : Int32) (μ : xm) : Option (Int32) := xbd (fX12_areInRow p0 p1 p2 p3 p4 μ) fun q1 => if q1 = 0 then (some (-1)) else (xbd (fX12_twoOf p0 p1 p2 p3 0 p4 μ) fun q2 => xbd (xloop xfu (fun v => fX12_outTwo_b36 v.1 v.2.1 v.2.2 p0 p1 p2 p3 p4 μ) (0, q2, 1)) fun q10 => some q10)
set_option maxHeartbeats 4000000 in
set_option maxRecDepth 100000 in
theorem kX12_outTwo {E : xE} {d : Nat} {QQ : xP} (hd : 4 ≤ d) {p0 : Int32} {p1 : Int32} {p2 : Int32} {p3 : Int32} {p4 : Int32} {μ : xm} {R : xr} {n : Nat} (hF : xFin R n)  {res : Int32} (h : fX12_outTwo p0 p1 p2 p3 p4 μ = some res) (hQ : QQ (some (.int res)) (xσ μ R) n) : xCon E d Y_X12_outTwo 0 0 [.ref (E.2.2.2 + iM), .int p0, .int p1, .int p2, .int p3, .int p4] (xσ μ R) n QQ := by
  refine xCon_of pn_RX12 (Nat.le_of_ble_eq_true rfl) (L0 := [(0, .ref (E.2.2.2 + iM)), (1, .int p0), (2, .int p1), (3, .int p2), (4, .int p3), (5, .int p4)]) rfl ?_
  unfold fX12_outTwo at h
  refine ev_aload_n 0 dX12_outTwo_0 rfl rfl ?_
  refine ev_iload_n 1 dX12_outTwo_1 rfl rfl ?_
  refine ev_iload_n 2 dX12_outTwo_2 rfl rfl ?_
  refine ev_iload_n 3 dX12_outTwo_3 rfl rfl ?_
  refine ev_iload 4 dX12_outTwo_4 rfl ?_
  refine ev_iload 5 dX12_outTwo_6 rfl ?_
  obtain ⟨q1, hq1, h⟩ := xbd_some h
  refine ev_callV (ci := 12) (rest := []) 5 (kX12_areInRow (E := E) (d := 2) (QQ := (fun v τ n' => v = some (.int q1) ∧ τ = xσ μ R ∧ n = n')) (Nat.le_refl _) hF hq1 (⟨rfl, rfl, rfl⟩)) my_X12_areInRow ⟨m_1809, m_1811, m_97⟩ cl_12 kd_61 (xl hF rfl) rfl rfl (Nat.le_of_ble_eq_true rfl) (Nat.le_trans (by decide) hd) (xlo (by decide) (Nat.le_trans (by decide) hd)) (Nat.zero_le _) (Nat.zero_le _) dX12_outTwo_8 (fun v τ n' hv => ?_)
  obtain ⟨rfl, rfl, rfl⟩ := hv
  show Ev E (xcm E d 0 0 QQ) Y_X12_outTwo 11 [(0, .ref (E.2.2.2 + iM)), (1, .int p0), (2, .int p1), (3, .int p2), (4, .int p3), (5, .int p4)] [.int q1] (xσ μ R) n 0 0
  refine ev_if_ne (tgt := 16) dX12_outTwo_11 (by decide) (fun c11 => ?_) (fun c11 => ?_)
  · replace h := xif_f c11 h
    refine ev_iconst (v := 0) dX12_outTwo_16 (by decide) ?_
    refine xv_istore (L' := [(6, .int 0), (0, .ref (E.2.2.2 + iM)), (1, .int p0), (2, .int p1), (3, .int p2), (4, .int p3), (5, .int p4)]) rfl dX12_outTwo_17 (Nat.le_of_ble_eq_true rfl) rfl ?_
    refine ev_aload_n 1 dX12_outTwo_19 rfl rfl ?_
    refine ev_iload_n 2 dX12_outTwo_20 rfl rfl ?_
    refine ev_iload_n 3 dX12_outTwo_21 rfl rfl ?_
    refine ev_iload_n 4 dX12_outTwo_22 rfl rfl ?_
    refine ev_iload 5 dX12_outTwo_23 rfl ?_
    refine ev_iconst (v := 0) dX12_outTwo_25 (by decide) ?_
    refine ev_iload 6 dX12_outTwo_26 rfl ?_
    obtain ⟨q2, hq2, h⟩ := xbd_some h
    refine ev_callV (ci := 12) (rest := []) 6 (kX12_twoOf (E := E) (d := 3) (QQ := (fun v τ n' => v = some (.long q2) ∧ τ = xσ μ R ∧ n = n')) (Nat.le_refl _) hF hq2 (⟨rfl, rfl, rfl⟩)) my_X12_twoOf ⟨m_1813, m_1815, m_98⟩ cl_12 kd_61 (xl hF rfl) rfl rfl (Nat.le_of_ble_eq_true rfl) (Nat.le_trans (by decide) hd) (xlo (by decide) (Nat.le_trans (by decide) hd)) (Nat.zero_le _) (Nat.zero_le _) dX12_outTwo_28 (fun v τ n' hv => ?_)
    obtain ⟨rfl, rfl, rfl⟩ := hv
    show Ev E (xcm E d 0 0 QQ) Y_X12_outTwo 31 [(6, .int 0), (0, .ref (E.2.2.2 + iM)), (1, .int p0), (2, .int p1), (3, .int p2), (4, .int p3), (5, .int p4)] [.long q2] (xσ μ R) n 0 0
    refine xv_lstore (L' := [(7, .long q2), (6, .int 0), (0, .ref (E.2.2.2 + iM)), (1, .int p0), (2, .int p1), (3, .int p2), (4, .int p3), (5, .int p4)]) rfl dX12_outTwo_31 (Nat.le_of_ble_eq_true rfl) rfl ?_
    refine ev_iconst (v := 1) dX12_outTwo_33 (by decide) ?_
    refine xv_istore (L' := [(9, .int 1), (7, .long q2), (6, .int 0), (0, .ref (E.2.2.2 + iM)), (1, .int p0), (2, .int p1), (3, .int p2), (4, .int p3), (5, .int p4)]) rfl dX12_outTwo_34 (Nat.le_of_ble_eq_true rfl) rfl ?_
    obtain ⟨q10, hq10, h⟩ := xbd_some h
    refine ev_sub (L' := [(0, .ref (E.2.2.2 + iM)), (1, .int p0), (2, .int p1), (3, .int p2), (4, .int p3), (5, .int p4), (6, .int 0), (7, .long q2), (9, .int 1)]) [3, 4, 5, 6, 7, 8, 2, 1, 0] rfl ?_
    refine xloop_run (fun v => Ev E (xcm E d 0 0 QQ) Y_X12_outTwo 36 [(0, .ref (E.2.2.2 + iM)), (1, .int p0), (2, .int p1), (3, .int p2), (4, .int p3), (5, .int p4), (6, .int v.1), (7, .long v.2.1), (9, .int v.2.2)] [] (xσ μ R) n 0 0) (fun v => Ev E (xcm E d 0 0 QQ) Y_X12_outTwo 84 [(6, .int v)] [] (xσ μ R) n 0 0) ?_ _ _ _ hq10 ?_
    · rintro ⟨x3, x4, x5⟩ y6 h hk
      replace h : fX12_outTwo_b36 x3 x4 x5 p0 p1 p2 p3 p4 μ = some y6 := h
      show Ev E (xcm E d 0 0 QQ) Y_X12_outTwo 36 [(0, .ref (E.2.2.2 + iM)), (1, .int p0), (2, .int p1), (3, .int p2), (4, .int p3), (5, .int p4), (6, .int x3), (7, .long x4), (9, .int x5)] [] (xσ μ R) n 0 0
      unfold fX12_outTwo_b36 at h
      refine ev_iload 8 dX12_outTwo_36 rfl ?_
      refine ev_sipush (v := 600) dX12_outTwo_38 (by decide) ?_
      refine ev_icmp_gt (tgt := 84) dX12_outTwo_41 (by decide) (fun c41 => ?_) (fun c41 => ?_)
      · replace h := xif_t c41 h
        cases h
        replace hk := xel_r hk
        exact ev_sub [6] rfl (hk)
      · replace h := xif_f c41 h
        refine ev_aload_n 0 dX12_outTwo_44 rfl rfl ?_
        refine ev_iload_n 1 dX12_outTwo_45 rfl rfl ?_
        refine ev_iload_n 2 dX12_outTwo_46 rfl rfl ?_
        refine ev_iload_n 3 dX12_outTwo_47 rfl rfl ?_
        refine ev_iload 4 dX12_outTwo_48 rfl ?_
        refine ev_iload 8 dX12_outTwo_50 rfl ?_
        refine ev_iload 5 dX12_outTwo_52 rfl ?_
        obtain ⟨q7, hq7, h⟩ := xbd_some h
        refine ev_callV (ci := 12) (rest := []) 6 (kX12_twoOf (E := E) (d := 3) (QQ := (fun v τ n' => v = some (.long q7) ∧ τ = xσ μ R ∧ n = n')) (Nat.le_refl _) hF hq7 (⟨rfl, rfl, rfl⟩)) my_X12_twoOf ⟨m_1813, m_1815, m_98⟩ cl_12 kd_61 (xl hF rfl) rfl rfl (Nat.le_of_ble_eq_true rfl) (Nat.le_trans (by decide) hd) (xlo (by decide) (Nat.le_trans (by decide) hd)) (Nat.zero_le _) (Nat.zero_le _) dX12_outTwo_54 (fun v τ n' hv => ?_)
        obtain ⟨rfl, rfl, rfl⟩ := hv
        show Ev E (xcm E d 0 0 QQ) Y_X12_outTwo 57 [(0, .ref (E.2.2.2 + iM)), (1, .int p0), (2, .int p1), (3, .int p2), (4, .int p3), (5, .int p4), (6, .int x3), (7, .long x4), (9, .int x5)] [.long q7] (xσ μ R) n 0 0
        refine xv_lstore (L' := [(10, .long q7), (0, .ref (E.2.2.2 + iM)), (1, .int p0), (2, .int p1), (3, .int p2), (4, .int p3), (5, .int p4), (6, .int x3), (7, .long x4), (9, .int x5)]) rfl dX12_outTwo_57 (Nat.le_of_ble_eq_true rfl) rfl ?_
        refine ev_lload 0 dX12_outTwo_59 rfl ?_
        refine ev_lload 8 dX12_outTwo_61 rfl ?_
        refine ev_lcmp dX12_outTwo_63 ?_
        refine ev_if_lt (tgt := 70) dX12_outTwo_64 (by decide) (fun c64 => ?_) (fun c64 => ?_)
        · replace h := xif_t c64 h
          refine ev_lload 0 dX12_outTwo_70 rfl ?_
          refine xv_lstore (L' := [(7, .long q7), (10, .long q7), (0, .ref (E.2.2.2 + iM)), (1, .int p0), (2, .int p1), (3, .int p2), (4, .int p3), (5, .int p4), (6, .int x3), (9, .int x5)]) rfl dX12_outTwo_72 (Nat.le_of_ble_eq_true rfl) rfl ?_
          refine ev_iload 9 dX12_outTwo_74 rfl ?_
          refine xv_istore (L' := [(6, .int x5), (7, .long q7), (10, .long q7), (0, .ref (E.2.2.2 + iM)), (1, .int p0), (2, .int p1), (3, .int p2), (4, .int p3), (5, .int p4), (9, .int x5)]) rfl dX12_outTwo_76 (Nat.le_of_ble_eq_true rfl) rfl ?_
          obtain ⟨x8, hx8, h⟩ := xlt_some h
          refine ev_iinc (L' := [(9, .int x8), (6, .int x5), (7, .long q7), (10, .long q7), (0, .ref (E.2.2.2 + iM)), (1, .int p0), (2, .int p1), (3, .int p2), (4, .int p3), (5, .int p4)]) 9 dX12_outTwo_78 rfl ((by rfl : x5 + Int32.ofInt 1 = x5 + 1).trans hx8) (Nat.le_of_ble_eq_true rfl) rfl ?_
          refine ev_goto (tgt := 36) dX12_outTwo_81 (by decide) ?_
          cases h
          replace hk := xel_l hk
          exact ev_sub [4, 5, 6, 7, 8, 9, 1, 2, 0] rfl (hk)
        · replace h := xif_f c64 h
          refine ev_goto (tgt := 78) dX12_outTwo_67 (by decide) ?_
          obtain ⟨x9, hx9, h⟩ := xlt_some h
          refine ev_iinc (L' := [(9, .int x9), (10, .long q7), (0, .ref (E.2.2.2 + iM)), (1, .int p0), (2, .int p1), (3, .int p2), (4, .int p3), (5, .int p4), (6, .int x3), (7, .long x4)]) 9 dX12_outTwo_78 rfl ((by rfl : x5 + Int32.ofInt 1 = x5 + 1).trans hx9) (Nat.le_of_ble_eq_true rfl) rfl ?_
          refine ev_goto (tgt := 36) dX12_outTwo_81 (by decide) ?_
          cases h
          replace hk := xel_l hk
          exact ev_sub [2, 3, 4, 5, 6, 7, 8, 9, 0] rfl (hk)
    · show Ev E (xcm E d 0 0 QQ) Y_X12_outTwo 84 [(6, .int q10)] [] (xσ μ R) n 0 0
      refine ev_iload 0 dX12_outTwo_84 rfl ?_
      cases h
      exact ev_iret rfl (hQ) dX12_outTwo_86 (Nat.zero_le _) (Nat.zero_le _)
  · replace h := xif_t c11 h
    refine ev_iconst (v := (-1)) dX12_outTwo_14 (by decide) ?_
    cases h
    exact ev_iret rfl (hQ) dX12_outTwo_15 (Nat.zero_le _) (Nat.zero_le _)
def fX12_readsSum_j138 (x1 : Int32) (μ3 : xm) : Option ((xm) ⊕ (Int32 × xm)) := xbd (fX12_hasOpenSum x1 μ3) fun q8 => if q8 = 0 then (xbd (fX12_closesSums 1 μ3) fun q9 => some (.inr (1, q9))) else (xbd (fX12_wrongAt 1 (μ3.1 iM 12) μ3) fun q10 => xbd (xz q10.1) fun z11 => some (.inr (z11, q10.2)))
def fX12_readsSum_j38 (x17 : Int32) (μ3 : xm) (q6 : Int32) : Option ((xm) ⊕ (Int32 × xm)) := xbd (fX12_closesSums x17 μ3) fun q18 => xbd (xsI q18 iM_waits 220 (q18.1 iM 17) (1048576 * q6)) fun μ19 => xlt (xpI μ19 iM 17 ((μ19.1 iM 17) + 1)) fun μ20 => xlt (xpI μ20 iM 12 ((μ20.1 iM 12) + 1)) fun μ21 => xbd (fX12_readsFactor μ21) fun q22 => if q22.1 = 0 then (some (.inr (0, q22.2))) else (some (.inl q22.2))
def fX12_readsSum_b14 (μ3 : xm) (x1 : Int32) : Option ((xm) ⊕ (Int32 × xm)) := xbd (fX12_here μ3) fun q5 => xbd (fX12_sumSign q5) fun q6 => if q6 = (-1) then (xbd (fX12_here μ3) fun q7 => if q7 = 93 then (xbd (fX12_hasOpenSum x1 μ3) fun q12 => if q12 = 0 then (fX12_readsSum_j138 x1 μ3) else (xbd (fX12_closesSums 1 μ3) fun q13 => xlt (xpI q13 iM 17 ((q13.1 iM 17) - 1)) fun μ14 => xlt (xpI μ14 iM 15 ((μ14.1 iM 15) - 1)) fun μ15 => xlt (xpI μ15 iM 12 ((μ15.1 iM 12) + 1)) fun μ16 => some (.inl μ16))) else (fX12_readsSum_j138 x1 μ3)) else (if 4 ≤ q6 then (fX12_readsSum_j38 0 μ3 q6) else (fX12_readsSum_j38 1 μ3 q6))
def fX12_readsSum (μ : xm) : Option (Int32 × xm) := xlt (μ.1 iM 17) fun x1 => xbd (fX12_readsFactor μ) fun q2 => if q2.1 = 0 then (some (0, q2.2)) else (xbd (xloop xfu (fun v => fX12_readsSum_b14 v x1) q2.2) fun q23 => some q23)
set_option maxHeartbeats 4000000 in
set_option maxRecDepth 100000 in
theorem kX12_readsSum {E : xE} {d : Nat} {QQ : xP} (hd : 4 ≤ d)  {μ : xm} {R : xr} {n : Nat} (hF : xFin R n)  {res : Int32 × xm} (h : fX12_readsSum μ = some res) (hQ : QQ (some (.int res.1)) (xσ res.2 R) n) : xCon E d Y_X12_readsSum 0 0 [.ref (E.2.2.2 + iM)] (xσ μ R) n QQ := by
  refine xCon_of pn_RX12 (Nat.le_of_ble_eq_true rfl) (L0 := [(0, .ref (E.2.2.2 + iM))]) rfl ?_
  unfold fX12_readsSum at h
  refine ev_aload_n 0 dX12_readsSum_0 rfl rfl ?_
  refine xv_getI cl_12 lk_RX12_240 kd_61 (xl hF rfl) (fun _ => rfl) dX12_readsSum_1 ?_
  obtain ⟨x1, hx1, h⟩ := xlt_some h
  refine xv_istore_n (L' := [(1, .int x1), (0, .ref (E.2.2.2 + iM))]) hx1 dX12_readsSum_4 rfl (Nat.le_of_ble_eq_true rfl) rfl ?_
  refine ev_aload_n 1 dX12_readsSum_5 rfl rfl ?_
  obtain ⟨q2, hq2, h⟩ := xbd_some h
  refine ev_callV (ci := 12) (rest := []) 0 (kX12_readsFactor (E := E) (d := 3) (QQ := (fun v τ n' => v = some (.int q2.1) ∧ τ = xσ q2.2 R ∧ n = n')) (Nat.le_refl _) hF hq2 (⟨rfl, rfl, rfl⟩)) my_X12_readsFactor ⟨m_1546, m_1548, m_54⟩ cl_12 kd_61 (xl hF rfl) rfl rfl (Nat.le_of_ble_eq_true rfl) (Nat.le_trans (by decide) hd) (xlo (by decide) (Nat.le_trans (by decide) hd)) (Nat.zero_le _) (Nat.zero_le _) dX12_readsSum_6 (fun v τ n' hv => ?_)
  obtain ⟨rfl, rfl, rfl⟩ := hv
  show Ev E (xcm E d 0 0 QQ) Y_X12_readsSum 9 [(1, .int x1), (0, .ref (E.2.2.2 + iM))] [.int q2.1] (xσ q2.2 R) n 0 0
  refine ev_if_ne (tgt := 14) dX12_readsSum_9 (by decide) (fun c9 => ?_) (fun c9 => ?_)
  · replace h := xif_f c9 h
    obtain ⟨q23, hq23, h⟩ := xbd_some h
    refine ev_sub (L' := [(0, .ref (E.2.2.2 + iM)), (1, .int x1)]) [1, 0] rfl ?_
    refine xloop_run (fun v => Ev E (xcm E d 0 0 QQ) Y_X12_readsSum 14 [(0, .ref (E.2.2.2 + iM)), (1, .int x1)] [] (xσ v R) n 0 0) (fun v => QQ (some (.int v.1)) (xσ v.2 R) n) ?_ _ _ _ hq23 ?_
    · rintro μ3 y4 h hk
      replace h : fX12_readsSum_b14 μ3 x1 = some y4 := h
      show Ev E (xcm E d 0 0 QQ) Y_X12_readsSum 14 [(0, .ref (E.2.2.2 + iM)), (1, .int x1)] [] (xσ μ3 R) n 0 0
      unfold fX12_readsSum_b14 at h
      refine ev_aload_n 0 dX12_readsSum_14 rfl rfl ?_
      obtain ⟨q5, hq5, h⟩ := xbd_some h
      refine ev_callV (ci := 12) (rest := []) 0 (kX12_here (E := E) (d := 0) (QQ := (fun v τ n' => v = some (.int q5) ∧ τ = xσ μ3 R ∧ n = n')) (Nat.le_refl _) hF hq5 (⟨rfl, rfl, rfl⟩)) my_X12_here ⟨m_1534, m_1536, m_51⟩ cl_12 kd_61 (xl hF rfl) rfl rfl (Nat.le_of_ble_eq_true rfl) (Nat.le_trans (by decide) hd) (xlo (by decide) (Nat.le_trans (by decide) hd)) (Nat.zero_le _) (Nat.zero_le _) dX12_readsSum_15 (fun v τ n' hv => ?_)
      obtain ⟨rfl, rfl, rfl⟩ := hv
      show Ev E (xcm E d 0 0 QQ) Y_X12_readsSum 18 [(0, .ref (E.2.2.2 + iM)), (1, .int x1)] [.int q5] (xσ μ3 R) n 0 0
      obtain ⟨q6, hq6, h⟩ := xbd_some h
      refine ev_callS (As := [.int q5]) (rest := []) 1 (kX12_sumSign (E := E) (d := 0) (QQ := (fun v τ n' => v = some (.int q6) ∧ τ = xσ μ3 R ∧ n = n')) (Nat.le_refl _)  hq6 (⟨rfl, rfl, rfl⟩)) my_X12_sumSign ⟨m_1570, m_1571⟩ rfl rfl (Nat.le_of_ble_eq_true rfl) (Nat.le_trans (by decide) hd) (xlo (by decide) (Nat.le_trans (by decide) hd)) (Nat.zero_le _) (Nat.zero_le _) dX12_readsSum_18 (fun v τ n' hv => ?_)
      obtain ⟨rfl, rfl, rfl⟩ := hv
      show Ev E (xcm E d 0 0 QQ) Y_X12_readsSum 21 [(0, .ref (E.2.2.2 + iM)), (1, .int x1)] [.int q6] (xσ μ3 R) n 0 0
      refine xv_istore_n (L' := [(2, .int q6), (0, .ref (E.2.2.2 + iM)), (1, .int x1)]) rfl dX12_readsSum_21 rfl (Nat.le_of_ble_eq_true rfl) rfl ?_
      refine ev_iload_n 0 dX12_readsSum_22 rfl rfl ?_
      refine ev_iconst (v := (-1)) dX12_readsSum_23 (by decide) ?_
      refine ev_icmp_eq (tgt := 83) dX12_readsSum_24 (by decide) (fun c24 => ?_) (fun c24 => ?_)
      · replace h := xif_t c24 h
        refine ev_aload_n 1 dX12_readsSum_83 rfl rfl ?_
        obtain ⟨q7, hq7, h⟩ := xbd_some h
        refine ev_callV (ci := 12) (rest := []) 0 (kX12_here (E := E) (d := 0) (QQ := (fun v τ n' => v = some (.int q7) ∧ τ = xσ μ3 R ∧ n = n')) (Nat.le_refl _) hF hq7 (⟨rfl, rfl, rfl⟩)) my_X12_here ⟨m_1534, m_1536, m_51⟩ cl_12 kd_61 (xl hF rfl) rfl rfl (Nat.le_of_ble_eq_true rfl) (Nat.le_trans (by decide) hd) (xlo (by decide) (Nat.le_trans (by decide) hd)) (Nat.zero_le _) (Nat.zero_le _) dX12_readsSum_84 (fun v τ n' hv => ?_)
        obtain ⟨rfl, rfl, rfl⟩ := hv
        show Ev E (xcm E d 0 0 QQ) Y_X12_readsSum 87 [(2, .int q6), (0, .ref (E.2.2.2 + iM)), (1, .int x1)] [.int q7] (xσ μ3 R) n 0 0
        refine ev_bipush (v := 93) dX12_readsSum_87 (by decide) ?_
        have j138 : fX12_readsSum_j138 x1 μ3 = some y4 → Ev E (xcm E d 0 0 QQ) Y_X12_readsSum 138 [(0, .ref (E.2.2.2 + iM)), (1, .int x1)] [] (xσ μ3 R) n 0 0 := by
          intro h
          unfold fX12_readsSum_j138 at h
          refine ev_aload_n 0 dX12_readsSum_138 rfl rfl ?_
          refine ev_iload_n 1 dX12_readsSum_139 rfl rfl ?_
          obtain ⟨q8, hq8, h⟩ := xbd_some h
          refine ev_callV (ci := 12) (rest := []) 1 (kX12_hasOpenSum (E := E) (d := 0) (QQ := (fun v τ n' => v = some (.int q8) ∧ τ = xσ μ3 R ∧ n = n')) (Nat.le_refl _) hF hq8 (⟨rfl, rfl, rfl⟩)) my_X12_hasOpenSum ⟨m_1581, m_1583, m_61⟩ cl_12 kd_61 (xl hF rfl) rfl rfl (Nat.le_of_ble_eq_true rfl) (Nat.le_trans (by decide) hd) (xlo (by decide) (Nat.le_trans (by decide) hd)) (Nat.zero_le _) (Nat.zero_le _) dX12_readsSum_140 (fun v τ n' hv => ?_)
          obtain ⟨rfl, rfl, rfl⟩ := hv
          show Ev E (xcm E d 0 0 QQ) Y_X12_readsSum 143 [(0, .ref (E.2.2.2 + iM)), (1, .int x1)] [.int q8] (xσ μ3 R) n 0 0
          refine ev_if_eq (tgt := 156) dX12_readsSum_143 (by decide) (fun c143 => ?_) (fun c143 => ?_)
          · replace h := xif_t c143 h
            refine ev_aload_n 0 dX12_readsSum_156 rfl rfl ?_
            refine ev_iconst (v := 1) dX12_readsSum_157 (by decide) ?_
            obtain ⟨q9, hq9, h⟩ := xbd_some h
            refine ev_callV (ci := 12) (rest := []) 1 (kX12_closesSums (E := E) (d := 1) (QQ := (fun v τ n' => v = none ∧ τ = xσ q9 R ∧ n = n')) (Nat.le_refl _) hF hq9 (⟨rfl, rfl, rfl⟩)) my_X12_closesSums ⟨m_1573, m_1575, m_59⟩ cl_12 kd_61 (xl hF rfl) rfl rfl (Nat.le_of_ble_eq_true rfl) (Nat.le_trans (by decide) hd) (xlo (by decide) (Nat.le_trans (by decide) hd)) (Nat.zero_le _) (Nat.zero_le _) dX12_readsSum_158 (fun v τ n' hv => ?_)
            obtain ⟨rfl, rfl, rfl⟩ := hv
            show Ev E (xcm E d 0 0 QQ) Y_X12_readsSum 161 [(0, .ref (E.2.2.2 + iM)), (1, .int x1)] [] (xσ q9 R) n 0 0
            refine ev_iconst (v := 1) dX12_readsSum_161 (by decide) ?_
            cases h
            replace hk := xel_r hk
            exact ev_zret rfl (Or.inr rfl) (hk) dX12_readsSum_162 (Nat.zero_le _) (Nat.zero_le _)
          · replace h := xif_f c143 h
            refine ev_aload_n 0 dX12_readsSum_146 rfl rfl ?_
            refine ev_iconst (v := 1) dX12_readsSum_147 (by decide) ?_
            refine ev_aload_n 0 dX12_readsSum_148 rfl rfl ?_
            refine xv_getI cl_12 lk_RX12_210 kd_61 (xl hF rfl) (fun _ => rfl) dX12_readsSum_149 ?_
            obtain ⟨q10, hq10, h⟩ := xbd_some h
            refine ev_callV (ci := 12) (rest := []) 2 (kX12_wrongAt (E := E) (d := 0) (QQ := (fun v τ n' => v = some (.int q10.1) ∧ τ = xσ q10.2 R ∧ n = n')) (Nat.le_refl _) hF hq10 (⟨rfl, rfl, rfl⟩)) my_X12_wrongAt ⟨m_1538, m_1540, m_52⟩ cl_12 kd_61 (xl hF rfl) rfl rfl (Nat.le_of_ble_eq_true rfl) (Nat.le_trans (by decide) hd) (xlo (by decide) (Nat.le_trans (by decide) hd)) (Nat.zero_le _) (Nat.zero_le _) dX12_readsSum_152 (fun v τ n' hv => ?_)
            obtain ⟨rfl, rfl, rfl⟩ := hv
            show Ev E (xcm E d 0 0 QQ) Y_X12_readsSum 155 [(0, .ref (E.2.2.2 + iM)), (1, .int x1)] [.int q10.1] (xσ q10.2 R) n 0 0
            obtain ⟨z11, hz11, h⟩ := xbd_some h
            obtain ⟨hzz11, hez11⟩ := xz_some hz11
            rw [hez11]
            cases h
            replace hk := xel_r hk
            exact ev_zret rfl hzz11 (hk) dX12_readsSum_155 (Nat.zero_le _) (Nat.zero_le _)
        refine ev_icmp_ne (tgt := 138) dX12_readsSum_89 (by decide) (fun c89 => ?_) (fun c89 => ?_)
        · replace h := xif_f c89 h
          exact ev_sub [1, 2] rfl (j138 h)
        · replace h := xif_t c89 h
          refine ev_aload_n 1 dX12_readsSum_92 rfl rfl ?_
          refine ev_iload_n 2 dX12_readsSum_93 rfl rfl ?_
          obtain ⟨q12, hq12, h⟩ := xbd_some h
          refine ev_callV (ci := 12) (rest := []) 1 (kX12_hasOpenSum (E := E) (d := 0) (QQ := (fun v τ n' => v = some (.int q12) ∧ τ = xσ μ3 R ∧ n = n')) (Nat.le_refl _) hF hq12 (⟨rfl, rfl, rfl⟩)) my_X12_hasOpenSum ⟨m_1581, m_1583, m_61⟩ cl_12 kd_61 (xl hF rfl) rfl rfl (Nat.le_of_ble_eq_true rfl) (Nat.le_trans (by decide) hd) (xlo (by decide) (Nat.le_trans (by decide) hd)) (Nat.zero_le _) (Nat.zero_le _) dX12_readsSum_94 (fun v τ n' hv => ?_)
          obtain ⟨rfl, rfl, rfl⟩ := hv
          show Ev E (xcm E d 0 0 QQ) Y_X12_readsSum 97 [(2, .int q6), (0, .ref (E.2.2.2 + iM)), (1, .int x1)] [.int q12] (xσ μ3 R) n 0 0
          refine ev_if_eq (tgt := 138) dX12_readsSum_97 (by decide) (fun c97 => ?_) (fun c97 => ?_)
          · replace h := xif_t c97 h
            exact ev_sub [1, 2] rfl (j138 h)
          · replace h := xif_f c97 h
            refine ev_aload_n 1 dX12_readsSum_100 rfl rfl ?_
            refine ev_iconst (v := 1) dX12_readsSum_101 (by decide) ?_
            obtain ⟨q13, hq13, h⟩ := xbd_some h
            refine ev_callV (ci := 12) (rest := []) 1 (kX12_closesSums (E := E) (d := 1) (QQ := (fun v τ n' => v = none ∧ τ = xσ q13 R ∧ n = n')) (Nat.le_refl _) hF hq13 (⟨rfl, rfl, rfl⟩)) my_X12_closesSums ⟨m_1573, m_1575, m_59⟩ cl_12 kd_61 (xl hF rfl) rfl rfl (Nat.le_of_ble_eq_true rfl) (Nat.le_trans (by decide) hd) (xlo (by decide) (Nat.le_trans (by decide) hd)) (Nat.zero_le _) (Nat.zero_le _) dX12_readsSum_102 (fun v τ n' hv => ?_)
            obtain ⟨rfl, rfl, rfl⟩ := hv
            show Ev E (xcm E d 0 0 QQ) Y_X12_readsSum 105 [(2, .int q6), (0, .ref (E.2.2.2 + iM)), (1, .int x1)] [] (xσ q13 R) n 0 0
            refine ev_aload_n 1 dX12_readsSum_105 rfl rfl ?_
            refine ev_aload_n 1 dX12_readsSum_106 rfl rfl ?_
            refine xv_getI cl_12 lk_RX12_240 kd_61 (xl hF rfl) (fun _ => rfl) dX12_readsSum_107 ?_
            refine ev_iconst (v := 1) dX12_readsSum_110 (by decide) ?_
            refine ev_isub dX12_readsSum_111 ?_
            obtain ⟨μ14, hμ14, h⟩ := xlt_some h
            refine xv_putI cl_12 lk_RX12_240 rfl kd_61 (xl hF rfl) rfl rfl (fun _ => rfl) hμ14 dX12_readsSum_112 ?_
            refine ev_aload_n 1 dX12_readsSum_115 rfl rfl ?_
            refine ev_aload_n 1 dX12_readsSum_116 rfl rfl ?_
            refine xv_getI cl_12 lk_RX12_237 kd_61 (xl hF rfl) (fun _ => rfl) dX12_readsSum_117 ?_
            refine ev_iconst (v := 1) dX12_readsSum_120 (by decide) ?_
            refine ev_isub dX12_readsSum_121 ?_
            obtain ⟨μ15, hμ15, h⟩ := xlt_some h
            refine xv_putI cl_12 lk_RX12_237 rfl kd_61 (xl hF rfl) rfl rfl (fun _ => rfl) hμ15 dX12_readsSum_122 ?_
            refine ev_aload_n 1 dX12_readsSum_125 rfl rfl ?_
            refine ev_aload_n 1 dX12_readsSum_126 rfl rfl ?_
            refine xv_getI cl_12 lk_RX12_210 kd_61 (xl hF rfl) (fun _ => rfl) dX12_readsSum_127 ?_
            refine ev_iconst (v := 1) dX12_readsSum_130 (by decide) ?_
            refine ev_iadd dX12_readsSum_131 ?_
            obtain ⟨μ16, hμ16, h⟩ := xlt_some h
            refine xv_putI cl_12 lk_RX12_210 rfl kd_61 (xl hF rfl) rfl rfl (fun _ => rfl) hμ16 dX12_readsSum_132 ?_
            refine ev_goto (tgt := 163) dX12_readsSum_135 (by decide) ?_
            refine ev_goto (tgt := 14) dX12_readsSum_163 (by decide) ?_
            cases h
            replace hk := xel_l hk
            exact ev_sub [1, 2] rfl (hk)
      · replace h := xif_f c24 h
        refine ev_aload_n 1 dX12_readsSum_27 rfl rfl ?_
        refine ev_iload_n 0 dX12_readsSum_28 rfl rfl ?_
        refine ev_iconst (v := 4) dX12_readsSum_29 (by decide) ?_
        have j38 : ∀ (x17 : Int32), fX12_readsSum_j38 x17 μ3 q6 = some y4 → Ev E (xcm E d 0 0 QQ) Y_X12_readsSum 38 [(0, .ref (E.2.2.2 + iM)), (1, .int x1), (2, .int q6)] [.int x17, .ref (E.2.2.2 + iM)] (xσ μ3 R) n 0 0 := by
          intro x17 h
          unfold fX12_readsSum_j38 at h
          obtain ⟨q18, hq18, h⟩ := xbd_some h
          refine ev_callV (ci := 12) (rest := []) 1 (kX12_closesSums (E := E) (d := 1) (QQ := (fun v τ n' => v = none ∧ τ = xσ q18 R ∧ n = n')) (Nat.le_refl _) hF hq18 (⟨rfl, rfl, rfl⟩)) my_X12_closesSums ⟨m_1573, m_1575, m_59⟩ cl_12 kd_61 (xl hF rfl) rfl rfl (Nat.le_of_ble_eq_true rfl) (Nat.le_trans (by decide) hd) (xlo (by decide) (Nat.le_trans (by decide) hd)) (Nat.zero_le _) (Nat.zero_le _) dX12_readsSum_38 (fun v τ n' hv => ?_)
          obtain ⟨rfl, rfl, rfl⟩ := hv
          show Ev E (xcm E d 0 0 QQ) Y_X12_readsSum 41 [(0, .ref (E.2.2.2 + iM)), (1, .int x1), (2, .int q6)] [] (xσ q18 R) n 0 0
          refine ev_aload_n 0 dX12_readsSum_41 rfl rfl ?_
          refine xv_getF (a := iM_waits) cl_12 lk_RX12_36 kd_61 (xl hF rfl) (fun _ => rfl) (fr_61_22 hF) dX12_readsSum_42 ?_
          refine ev_aload_n 0 dX12_readsSum_45 rfl rfl ?_
          refine xv_getI cl_12 lk_RX12_240 kd_61 (xl hF rfl) (fun _ => rfl) dX12_readsSum_46 ?_
          refine ev_ldc (v := 1048576) m_1554 dX12_readsSum_49 ?_
          refine ev_iload_n 2 dX12_readsSum_51 rfl rfl ?_
          refine ev_imul dX12_readsSum_52 ?_
          obtain ⟨μ19, hμ19, h⟩ := xbd_some h
          refine xv_iast kd_70 (xl hF rfl) hμ19 dX12_readsSum_53 ?_
          refine ev_aload_n 0 dX12_readsSum_54 rfl rfl ?_
          refine ev_aload_n 0 dX12_readsSum_55 rfl rfl ?_
          refine xv_getI cl_12 lk_RX12_240 kd_61 (xl hF rfl) (fun _ => rfl) dX12_readsSum_56 ?_
          refine ev_iconst (v := 1) dX12_readsSum_59 (by decide) ?_
          refine ev_iadd dX12_readsSum_60 ?_
          obtain ⟨μ20, hμ20, h⟩ := xlt_some h
          refine xv_putI cl_12 lk_RX12_240 rfl kd_61 (xl hF rfl) rfl rfl (fun _ => rfl) hμ20 dX12_readsSum_61 ?_
          refine ev_aload_n 0 dX12_readsSum_64 rfl rfl ?_
          refine ev_aload_n 0 dX12_readsSum_65 rfl rfl ?_
          refine xv_getI cl_12 lk_RX12_210 kd_61 (xl hF rfl) (fun _ => rfl) dX12_readsSum_66 ?_
          refine ev_iconst (v := 1) dX12_readsSum_69 (by decide) ?_
          refine ev_iadd dX12_readsSum_70 ?_
          obtain ⟨μ21, hμ21, h⟩ := xlt_some h
          refine xv_putI cl_12 lk_RX12_210 rfl kd_61 (xl hF rfl) rfl rfl (fun _ => rfl) hμ21 dX12_readsSum_71 ?_
          refine ev_aload_n 0 dX12_readsSum_74 rfl rfl ?_
          obtain ⟨q22, hq22, h⟩ := xbd_some h
          refine ev_callV (ci := 12) (rest := []) 0 (kX12_readsFactor (E := E) (d := 3) (QQ := (fun v τ n' => v = some (.int q22.1) ∧ τ = xσ q22.2 R ∧ n = n')) (Nat.le_refl _) hF hq22 (⟨rfl, rfl, rfl⟩)) my_X12_readsFactor ⟨m_1546, m_1548, m_54⟩ cl_12 kd_61 (xl hF rfl) rfl rfl (Nat.le_of_ble_eq_true rfl) (Nat.le_trans (by decide) hd) (xlo (by decide) (Nat.le_trans (by decide) hd)) (Nat.zero_le _) (Nat.zero_le _) dX12_readsSum_75 (fun v τ n' hv => ?_)
          obtain ⟨rfl, rfl, rfl⟩ := hv
          show Ev E (xcm E d 0 0 QQ) Y_X12_readsSum 78 [(0, .ref (E.2.2.2 + iM)), (1, .int x1), (2, .int q6)] [.int q22.1] (xσ q22.2 R) n 0 0
          refine ev_if_ne (tgt := 163) dX12_readsSum_78 (by decide) (fun c78 => ?_) (fun c78 => ?_)
          · replace h := xif_f c78 h
            refine ev_goto (tgt := 14) dX12_readsSum_163 (by decide) ?_
            cases h
            replace hk := xel_l hk
            exact ev_sub [0, 1] rfl (hk)
          · replace h := xif_t c78 h
            refine ev_iconst (v := 0) dX12_readsSum_81 (by decide) ?_
            cases h
            replace hk := xel_r hk
            exact ev_zret rfl (Or.inl rfl) (hk) dX12_readsSum_82 (Nat.zero_le _) (Nat.zero_le _)
        refine ev_icmp_ge (tgt := 37) dX12_readsSum_30 (by decide) (fun c30 => ?_) (fun c30 => ?_)
        · replace h := xif_t c30 h
          refine ev_iconst (v := 0) dX12_readsSum_37 (by decide) ?_
          exact ev_sub [1, 2, 0] rfl (j38 _ h)
        · replace h := xif_f c30 h
          refine ev_iconst (v := 1) dX12_readsSum_33 (by decide) ?_
          refine ev_goto (tgt := 38) dX12_readsSum_34 (by decide) ?_
          exact ev_sub [1, 2, 0] rfl (j38 _ h)
    · cases h
      exact hQ
  · replace h := xif_t c9 h
    refine ev_iconst (v := 0) dX12_readsSum_12 (by decide) ?_
    cases h
    exact ev_zret rfl (Or.inl rfl) (hQ) dX12_readsSum_13 (Nat.zero_le _) (Nat.zero_le _)
def fX12_rest_b69 (x9 : Int32) (x10 : Int32) (μ11 : xm) (p0 : Int32) (p1 : Int32) : Option ((Int32 × Int32 × xm) ⊕ (Int32 × xm)) := if (μ11.1 iM 61) ≤ x10 then (some (.inr (x9, μ11))) else (xbd (fX12_changes p0 x10 p1 μ11) fun q13 => if q13.1 = 0 then (if x9 = 0 then (xlt (x10 + 1) fun x15 => some (.inl (0, x15, q13.2))) else (xlt (x10 + 1) fun x16 => some (.inl (1, x16, q13.2)))) else (xlt (x10 + 1) fun x14 => some (.inl (1, x14, q13.2))))
def fX12_rest_b126 (x18 : Int32) (p2 : Int32) (q17 : Int32 × xm) : Option ((Int32) ⊕ ((Unit) ⊕ (Int32 × xm))) := if (q17.2.1 iM 61) ≤ x18 then (some (.inr (.inl ()))) else (xbd (xgI q17.2 iM_goer 4 x18) fun v20 => if v20 = p2 then (xbd (xgI q17.2 iM_aheadOf 4 x18) fun v22 => some (.inr (.inr (v22, q17.2)))) else (xlt (x18 + 1) fun x21 => some (.inl x21)))
def fX12_rest_b56 (x6 : Int32) (μ7 : xm) (p0 : Int32) (p1 : Int32) (p2 : Int32) : Option ((Int32 × xm) ⊕ ((xm) ⊕ (Int32 × xm))) := if 30 < x6 then (some (.inr (.inl μ7))) else (xbd (xloop xfu (fun v => fX12_rest_b69 v.1 v.2.1 v.2.2 p0 p1) (0, 0, μ7)) fun q17 => if q17.1 = 0 then (if p2 = (-1) then (some (.inr (.inr (x6, q17.2)))) else (xbd (xloop xfu (fun v => fX12_rest_b126 v p2 q17) 0) fun q23 => xsm q23 (fun q24 => xlt (x6 + 1) fun x26 => some (.inl (x26, q17.2))) (fun q25 => some (.inr (.inr q25))))) else (xlt (x6 + 1) fun x27 => some (.inl (x27, q17.2))))
def fX12_rest_j48 (p0 : Int32) (p1 : Int32) (p2 : Int32) (μ : xm) : Option (Int32 × xm) := xbd (fX12_laysGoers p0 μ) fun q5 => xbd (xloop xfu (fun v => fX12_rest_b56 v.1 v.2 p0 p1 p2) (1, q5)) fun q28 => xsm q28 (fun q29 => some ((-2), q29)) (fun q30 => some q30)
def fX12_rest (p0 : Int32) (p1 : Int32) (p2 : Int32) (μ : xm) : Option (Int32 × xm) := xbd (fX12_isMeeting p0 μ) fun q1 => if q1 = 0 then (some ((-3), μ)) else (xbd (xgI μ iM_peopleOf 24 p0) fun v2 => xbd (fX12_bits v2) fun q3 => if 4 < q3 then (some ((-3), μ)) else (xbd (fX12_in p1 0 99) fun q4 => if q4 = 0 then (some ((-3), μ)) else (if p2 = (-1) then (fX12_rest_j48 p0 p1 p2 μ) else (xbd (fX12_isOf p0 p2 μ) fun q31 => if q31 = 0 then (some ((-3), μ)) else (fX12_rest_j48 p0 p1 p2 μ)))))
set_option maxHeartbeats 4000000 in
set_option maxRecDepth 100000 in
theorem kX12_rest {E : xE} {d : Nat} {QQ : xP} (hd : 4 ≤ d) {p0 : Int32} {p1 : Int32} {p2 : Int32} {μ : xm} {R : xr} {n : Nat} (hF : xFin R n)  {res : Int32 × xm} (h : fX12_rest p0 p1 p2 μ = some res) (hQ : QQ (some (.int res.1)) (xσ res.2 R) n) : xCon E d Y_X12_rest 0 0 [.ref (E.2.2.2 + iM), .int p0, .int p1, .int p2] (xσ μ R) n QQ := by
  refine xCon_of pn_RX12 (Nat.le_of_ble_eq_true rfl) (L0 := [(0, .ref (E.2.2.2 + iM)), (1, .int p0), (2, .int p1), (3, .int p2)]) rfl ?_
  unfold fX12_rest at h
  refine ev_aload_n 0 dX12_rest_0 rfl rfl ?_
  refine ev_iload_n 1 dX12_rest_1 rfl rfl ?_
  obtain ⟨q1, hq1, h⟩ := xbd_some h
  refine ev_callV (ci := 12) (rest := []) 1 (kX12_isMeeting (E := E) (d := 0) (QQ := (fun v τ n' => v = some (.int q1) ∧ τ = xσ μ R ∧ n = n')) (Nat.le_refl _) hF hq1 (⟨rfl, rfl, rfl⟩)) my_X12_isMeeting ⟨m_1474, m_1476, m_41⟩ cl_12 kd_61 (xl hF rfl) rfl rfl (Nat.le_of_ble_eq_true rfl) (Nat.le_trans (by decide) hd) (xlo (by decide) (Nat.le_trans (by decide) hd)) (Nat.zero_le _) (Nat.zero_le _) dX12_rest_2 (fun v τ n' hv => ?_)
  obtain ⟨rfl, rfl, rfl⟩ := hv
  show Ev E (xcm E d 0 0 QQ) Y_X12_rest 5 [(0, .ref (E.2.2.2 + iM)), (1, .int p0), (2, .int p1), (3, .int p2)] [.int q1] (xσ μ R) n 0 0
  refine ev_if_eq (tgt := 45) dX12_rest_5 (by decide) (fun c5 => ?_) (fun c5 => ?_)
  · replace h := xif_t c5 h
    refine ev_bipush (v := (-3)) dX12_rest_45 (by decide) ?_
    cases h
    exact ev_iret rfl (hQ) dX12_rest_47 (Nat.zero_le _) (Nat.zero_le _)
  · replace h := xif_f c5 h
    refine ev_aload_n 0 dX12_rest_8 rfl rfl ?_
    refine xv_getF (a := iM_peopleOf) cl_12 lk_RX12_19 kd_61 (xl hF rfl) (fun _ => rfl) (fr_61_7 hF) dX12_rest_9 ?_
    refine ev_iload_n 1 dX12_rest_12 rfl rfl ?_
    obtain ⟨v2, hv2, h⟩ := xbd_some h
    refine xv_iald kd_65 (xl hF rfl) hv2 dX12_rest_13 ?_
    obtain ⟨q3, hq3, h⟩ := xbd_some h
    refine ev_callS (As := [.int v2]) (rest := []) 1 (kX12_bits (E := E) (d := 0) (QQ := (fun v τ n' => v = some (.int q3) ∧ τ = xσ μ R ∧ n = n')) (Nat.le_refl _)  hq3 (⟨rfl, rfl, rfl⟩)) my_X12_bits ⟨m_1463, m_1464⟩ rfl rfl (Nat.le_of_ble_eq_true rfl) (Nat.le_trans (by decide) hd) (xlo (by decide) (Nat.le_trans (by decide) hd)) (Nat.zero_le _) (Nat.zero_le _) dX12_rest_14 (fun v τ n' hv => ?_)
    obtain ⟨rfl, rfl, rfl⟩ := hv
    show Ev E (xcm E d 0 0 QQ) Y_X12_rest 17 [(0, .ref (E.2.2.2 + iM)), (1, .int p0), (2, .int p1), (3, .int p2)] [.int q3] (xσ μ R) n 0 0
    refine ev_iconst (v := 4) dX12_rest_17 (by decide) ?_
    refine ev_icmp_gt (tgt := 45) dX12_rest_18 (by decide) (fun c18 => ?_) (fun c18 => ?_)
    · replace h := xif_t c18 h
      refine ev_bipush (v := (-3)) dX12_rest_45 (by decide) ?_
      cases h
      exact ev_iret rfl (hQ) dX12_rest_47 (Nat.zero_le _) (Nat.zero_le _)
    · replace h := xif_f c18 h
      refine ev_iload_n 2 dX12_rest_21 rfl rfl ?_
      refine ev_iconst (v := 0) dX12_rest_22 (by decide) ?_
      refine ev_bipush (v := 99) dX12_rest_23 (by decide) ?_
      obtain ⟨q4, hq4, h⟩ := xbd_some h
      refine ev_callS (As := [.int p1, .int 0, .int 99]) (rest := []) 3 (kX12_in (E := E) (d := 0) (QQ := (fun v τ n' => v = some (.int q4) ∧ τ = xσ μ R ∧ n = n')) (Nat.le_refl _)  hq4 (⟨rfl, rfl, rfl⟩)) my_X12_in ⟨m_1449, m_1450⟩ rfl rfl (Nat.le_of_ble_eq_true rfl) (Nat.le_trans (by decide) hd) (xlo (by decide) (Nat.le_trans (by decide) hd)) (Nat.zero_le _) (Nat.zero_le _) dX12_rest_25 (fun v τ n' hv => ?_)
      obtain ⟨rfl, rfl, rfl⟩ := hv
      show Ev E (xcm E d 0 0 QQ) Y_X12_rest 28 [(0, .ref (E.2.2.2 + iM)), (1, .int p0), (2, .int p1), (3, .int p2)] [.int q4] (xσ μ R) n 0 0
      refine ev_if_eq (tgt := 45) dX12_rest_28 (by decide) (fun c28 => ?_) (fun c28 => ?_)
      · replace h := xif_t c28 h
        refine ev_bipush (v := (-3)) dX12_rest_45 (by decide) ?_
        cases h
        exact ev_iret rfl (hQ) dX12_rest_47 (Nat.zero_le _) (Nat.zero_le _)
      · replace h := xif_f c28 h
        refine ev_iload_n 3 dX12_rest_31 rfl rfl ?_
        refine ev_iconst (v := (-1)) dX12_rest_32 (by decide) ?_
        have j48 : fX12_rest_j48 p0 p1 p2 μ = some res → Ev E (xcm E d 0 0 QQ) Y_X12_rest 48 [(0, .ref (E.2.2.2 + iM)), (1, .int p0), (2, .int p1), (3, .int p2)] [] (xσ μ R) n 0 0 := by
          intro h
          unfold fX12_rest_j48 at h
          refine ev_aload_n 0 dX12_rest_48 rfl rfl ?_
          refine ev_iload_n 1 dX12_rest_49 rfl rfl ?_
          obtain ⟨q5, hq5, h⟩ := xbd_some h
          refine ev_callV (ci := 12) (rest := []) 1 (kX12_laysGoers (E := E) (d := 2) (QQ := (fun v τ n' => v = none ∧ τ = xσ q5 R ∧ n = n')) (Nat.le_refl _) hF hq5 (⟨rfl, rfl, rfl⟩)) my_X12_laysGoers ⟨m_1829, m_1831, m_100⟩ cl_12 kd_61 (xl hF rfl) rfl rfl (Nat.le_of_ble_eq_true rfl) (Nat.le_trans (by decide) hd) (xlo (by decide) (Nat.le_trans (by decide) hd)) (Nat.zero_le _) (Nat.zero_le _) dX12_rest_50 (fun v τ n' hv => ?_)
          obtain ⟨rfl, rfl, rfl⟩ := hv
          show Ev E (xcm E d 0 0 QQ) Y_X12_rest 53 [(0, .ref (E.2.2.2 + iM)), (1, .int p0), (2, .int p1), (3, .int p2)] [] (xσ q5 R) n 0 0
          refine ev_iconst (v := 1) dX12_rest_53 (by decide) ?_
          refine xv_istore (L' := [(4, .int 1), (0, .ref (E.2.2.2 + iM)), (1, .int p0), (2, .int p1), (3, .int p2)]) rfl dX12_rest_54 (Nat.le_of_ble_eq_true rfl) rfl ?_
          obtain ⟨q28, hq28, h⟩ := xbd_some h
          refine ev_sub (L' := [(0, .ref (E.2.2.2 + iM)), (1, .int p0), (2, .int p1), (3, .int p2), (4, .int 1)]) [1, 2, 3, 4, 0] rfl ?_
          refine xloop_run (fun v => Ev E (xcm E d 0 0 QQ) Y_X12_rest 56 [(0, .ref (E.2.2.2 + iM)), (1, .int p0), (2, .int p1), (3, .int p2), (4, .int v.1)] [] (xσ v.2 R) n 0 0) (xel (fun v => Ev E (xcm E d 0 0 QQ) Y_X12_rest 166 [] [] (xσ v R) n 0 0) (fun v => QQ (some (.int v.1)) (xσ v.2 R) n)) ?_ _ _ _ hq28 ?_
          · rintro ⟨x6, μ7⟩ y8 h hk
            replace h : fX12_rest_b56 x6 μ7 p0 p1 p2 = some y8 := h
            show Ev E (xcm E d 0 0 QQ) Y_X12_rest 56 [(0, .ref (E.2.2.2 + iM)), (1, .int p0), (2, .int p1), (3, .int p2), (4, .int x6)] [] (xσ μ7 R) n 0 0
            unfold fX12_rest_b56 at h
            refine ev_iload 4 dX12_rest_56 rfl ?_
            refine ev_bipush (v := 30) dX12_rest_58 (by decide) ?_
            refine ev_icmp_gt (tgt := 166) dX12_rest_60 (by decide) (fun c60 => ?_) (fun c60 => ?_)
            · replace h := xif_t c60 h
              cases h
              replace hk := xel_r hk
              replace hk := xel_l hk
              exact ev_sub [] rfl (hk)
            · replace h := xif_f c60 h
              refine ev_iconst (v := 0) dX12_rest_63 (by decide) ?_
              refine xv_istore (L' := [(5, .int 0), (0, .ref (E.2.2.2 + iM)), (1, .int p0), (2, .int p1), (3, .int p2), (4, .int x6)]) rfl dX12_rest_64 (Nat.le_of_ble_eq_true rfl) rfl ?_
              refine ev_iconst (v := 0) dX12_rest_66 (by decide) ?_
              refine xv_istore (L' := [(6, .int 0), (5, .int 0), (0, .ref (E.2.2.2 + iM)), (1, .int p0), (2, .int p1), (3, .int p2), (4, .int x6)]) rfl dX12_rest_67 (Nat.le_of_ble_eq_true rfl) rfl ?_
              obtain ⟨q17, hq17, h⟩ := xbd_some h
              refine ev_sub (L' := [(0, .ref (E.2.2.2 + iM)), (1, .int p0), (2, .int p1), (3, .int p2), (4, .int x6), (5, .int 0), (6, .int 0)]) [2, 3, 4, 5, 6, 1, 0] rfl ?_
              refine xloop_run (fun v => Ev E (xcm E d 0 0 QQ) Y_X12_rest 69 [(0, .ref (E.2.2.2 + iM)), (1, .int p0), (2, .int p1), (3, .int p2), (4, .int x6), (5, .int v.1), (6, .int v.2.1)] [] (xσ v.2.2 R) n 0 0) (fun v => Ev E (xcm E d 0 0 QQ) Y_X12_rest 107 [(0, .ref (E.2.2.2 + iM)), (1, .int p0), (2, .int p1), (3, .int p2), (4, .int x6), (5, .int v.1)] [] (xσ v.2 R) n 0 0) ?_ _ _ _ hq17 ?_
              · rintro ⟨x9, x10, μ11⟩ y12 h hk
                replace h : fX12_rest_b69 x9 x10 μ11 p0 p1 = some y12 := h
                show Ev E (xcm E d 0 0 QQ) Y_X12_rest 69 [(0, .ref (E.2.2.2 + iM)), (1, .int p0), (2, .int p1), (3, .int p2), (4, .int x6), (5, .int x9), (6, .int x10)] [] (xσ μ11 R) n 0 0
                unfold fX12_rest_b69 at h
                refine ev_iload 6 dX12_rest_69 rfl ?_
                refine ev_aload_n 0 dX12_rest_71 rfl rfl ?_
                refine xv_getI cl_12 lk_RX12_439 kd_61 (xl hF rfl) (fun _ => rfl) dX12_rest_72 ?_
                refine ev_icmp_ge (tgt := 107) dX12_rest_75 (by decide) (fun c75 => ?_) (fun c75 => ?_)
                · replace h := xif_t c75 h
                  cases h
                  replace hk := xel_r hk
                  exact ev_sub [0, 1, 2, 3, 4, 5] rfl (hk)
                · replace h := xif_f c75 h
                  refine ev_aload_n 0 dX12_rest_78 rfl rfl ?_
                  refine ev_iload_n 1 dX12_rest_79 rfl rfl ?_
                  refine ev_iload 6 dX12_rest_80 rfl ?_
                  refine ev_iload_n 2 dX12_rest_82 rfl rfl ?_
                  obtain ⟨q13, hq13, h⟩ := xbd_some h
                  refine ev_callV (ci := 12) (rest := []) 3 (kX12_changes (E := E) (d := 3) (QQ := (fun v τ n' => v = some (.int q13.1) ∧ τ = xσ q13.2 R ∧ n = n')) (Nat.le_refl _) hF hq13 (⟨rfl, rfl, rfl⟩)) my_X12_changes ⟨m_1833, m_1835, m_101⟩ cl_12 kd_61 (xl hF rfl) rfl rfl (Nat.le_of_ble_eq_true rfl) (Nat.le_trans (by decide) hd) (xlo (by decide) (Nat.le_trans (by decide) hd)) (Nat.zero_le _) (Nat.zero_le _) dX12_rest_83 (fun v τ n' hv => ?_)
                  obtain ⟨rfl, rfl, rfl⟩ := hv
                  show Ev E (xcm E d 0 0 QQ) Y_X12_rest 86 [(0, .ref (E.2.2.2 + iM)), (1, .int p0), (2, .int p1), (3, .int p2), (4, .int x6), (5, .int x9), (6, .int x10)] [.int q13.1] (xσ q13.2 R) n 0 0
                  refine ev_if_ne (tgt := 94) dX12_rest_86 (by decide) (fun c86 => ?_) (fun c86 => ?_)
                  · replace h := xif_f c86 h
                    refine ev_iconst (v := 1) dX12_rest_94 (by decide) ?_
                    refine ev_goto (tgt := 99) dX12_rest_95 (by decide) ?_
                    refine xv_istore (L' := [(5, .int 1), (0, .ref (E.2.2.2 + iM)), (1, .int p0), (2, .int p1), (3, .int p2), (4, .int x6), (6, .int x10)]) rfl dX12_rest_99 (Nat.le_of_ble_eq_true rfl) rfl ?_
                    obtain ⟨x14, hx14, h⟩ := xlt_some h
                    refine ev_iinc (L' := [(6, .int x14), (5, .int 1), (0, .ref (E.2.2.2 + iM)), (1, .int p0), (2, .int p1), (3, .int p2), (4, .int x6)]) 6 dX12_rest_101 rfl ((by rfl : x10 + Int32.ofInt 1 = x10 + 1).trans hx14) (Nat.le_of_ble_eq_true rfl) rfl ?_
                    refine ev_goto (tgt := 69) dX12_rest_104 (by decide) ?_
                    cases h
                    replace hk := xel_l hk
                    exact ev_sub [2, 3, 4, 5, 6, 1, 0] rfl (hk)
                  · replace h := xif_t c86 h
                    refine ev_iload 5 dX12_rest_89 rfl ?_
                    refine ev_if_eq (tgt := 98) dX12_rest_91 (by decide) (fun c91 => ?_) (fun c91 => ?_)
                    · replace h := xif_t c91 h
                      refine ev_iconst (v := 0) dX12_rest_98 (by decide) ?_
                      refine xv_istore (L' := [(5, .int 0), (0, .ref (E.2.2.2 + iM)), (1, .int p0), (2, .int p1), (3, .int p2), (4, .int x6), (6, .int x10)]) rfl dX12_rest_99 (Nat.le_of_ble_eq_true rfl) rfl ?_
                      obtain ⟨x15, hx15, h⟩ := xlt_some h
                      refine ev_iinc (L' := [(6, .int x15), (5, .int 0), (0, .ref (E.2.2.2 + iM)), (1, .int p0), (2, .int p1), (3, .int p2), (4, .int x6)]) 6 dX12_rest_101 rfl ((by rfl : x10 + Int32.ofInt 1 = x10 + 1).trans hx15) (Nat.le_of_ble_eq_true rfl) rfl ?_
                      refine ev_goto (tgt := 69) dX12_rest_104 (by decide) ?_
                      cases h
                      replace hk := xel_l hk
                      exact ev_sub [2, 3, 4, 5, 6, 1, 0] rfl (hk)
                    · replace h := xif_f c91 h
                      refine ev_iconst (v := 1) dX12_rest_94 (by decide) ?_
                      refine ev_goto (tgt := 99) dX12_rest_95 (by decide) ?_
                      refine xv_istore (L' := [(5, .int 1), (0, .ref (E.2.2.2 + iM)), (1, .int p0), (2, .int p1), (3, .int p2), (4, .int x6), (6, .int x10)]) rfl dX12_rest_99 (Nat.le_of_ble_eq_true rfl) rfl ?_
                      obtain ⟨x16, hx16, h⟩ := xlt_some h
                      refine ev_iinc (L' := [(6, .int x16), (5, .int 1), (0, .ref (E.2.2.2 + iM)), (1, .int p0), (2, .int p1), (3, .int p2), (4, .int x6)]) 6 dX12_rest_101 rfl ((by rfl : x10 + Int32.ofInt 1 = x10 + 1).trans hx16) (Nat.le_of_ble_eq_true rfl) rfl ?_
                      refine ev_goto (tgt := 69) dX12_rest_104 (by decide) ?_
                      cases h
                      replace hk := xel_l hk
                      exact ev_sub [2, 3, 4, 5, 6, 1, 0] rfl (hk)
              · show Ev E (xcm E d 0 0 QQ) Y_X12_rest 107 [(0, .ref (E.2.2.2 + iM)), (1, .int p0), (2, .int p1), (3, .int p2), (4, .int x6), (5, .int q17.1)] [] (xσ q17.2 R) n 0 0
                refine ev_iload 5 dX12_rest_107 rfl ?_
                refine ev_if_eq (tgt := 115) dX12_rest_109 (by decide) (fun c109 => ?_) (fun c109 => ?_)
                · replace h := xif_t c109 h
                  refine ev_iload_n 3 dX12_rest_115 rfl rfl ?_
                  refine ev_iconst (v := (-1)) dX12_rest_116 (by decide) ?_
                  refine ev_icmp_ne (tgt := 123) dX12_rest_117 (by decide) (fun c117 => ?_) (fun c117 => ?_)
                  · replace h := xif_f c117 h
                    refine ev_iconst (v := 0) dX12_rest_123 (by decide) ?_
                    refine xv_istore (L' := [(6, .int 0), (0, .ref (E.2.2.2 + iM)), (1, .int p0), (2, .int p1), (3, .int p2), (4, .int x6), (5, .int q17.1)]) rfl dX12_rest_124 (Nat.le_of_ble_eq_true rfl) rfl ?_
                    obtain ⟨q23, hq23, h⟩ := xbd_some h
                    refine ev_sub (L' := [(0, .ref (E.2.2.2 + iM)), (1, .int p0), (2, .int p1), (3, .int p2), (4, .int x6), (6, .int 0)]) [1, 2, 3, 4, 5, 0] rfl ?_
                    refine xloop_run (fun v => Ev E (xcm E d 0 0 QQ) Y_X12_rest 126 [(0, .ref (E.2.2.2 + iM)), (1, .int p0), (2, .int p1), (3, .int p2), (4, .int x6), (6, .int v)] [] (xσ q17.2 R) n 0 0) (xel (fun v => Ev E (xcm E d 0 0 QQ) Y_X12_rest 160 [(0, .ref (E.2.2.2 + iM)), (1, .int p0), (2, .int p1), (3, .int p2), (4, .int x6)] [] (xσ q17.2 R) n 0 0) (fun v => QQ (some (.int v.1)) (xσ v.2 R) n)) ?_ _ _ _ hq23 ?_
                    · rintro x18 y19 h hk
                      replace h : fX12_rest_b126 x18 p2 q17 = some y19 := h
                      show Ev E (xcm E d 0 0 QQ) Y_X12_rest 126 [(0, .ref (E.2.2.2 + iM)), (1, .int p0), (2, .int p1), (3, .int p2), (4, .int x6), (6, .int x18)] [] (xσ q17.2 R) n 0 0
                      unfold fX12_rest_b126 at h
                      refine ev_iload 5 dX12_rest_126 rfl ?_
                      refine ev_aload_n 0 dX12_rest_128 rfl rfl ?_
                      refine xv_getI cl_12 lk_RX12_439 kd_61 (xl hF rfl) (fun _ => rfl) dX12_rest_129 ?_
                      refine ev_icmp_ge (tgt := 160) dX12_rest_132 (by decide) (fun c132 => ?_) (fun c132 => ?_)
                      · replace h := xif_t c132 h
                        cases h
                        replace hk := xel_r hk
                        replace hk := xel_l hk
                        exact ev_sub [0, 1, 2, 3, 4] rfl (hk)
                      · replace h := xif_f c132 h
                        refine ev_aload_n 0 dX12_rest_135 rfl rfl ?_
                        refine xv_getF (a := iM_goer) cl_12 lk_RX12_136 kd_61 (xl hF rfl) (fun _ => rfl) (fr_61_62 hF) dX12_rest_136 ?_
                        refine ev_iload 5 dX12_rest_139 rfl ?_
                        obtain ⟨v20, hv20, h⟩ := xbd_some h
                        refine xv_iald kd_103 (xl hF rfl) hv20 dX12_rest_141 ?_
                        refine ev_iload_n 3 dX12_rest_142 rfl rfl ?_
                        refine ev_icmp_ne (tgt := 154) dX12_rest_143 (by decide) (fun c143 => ?_) (fun c143 => ?_)
                        · replace h := xif_f c143 h
                          obtain ⟨x21, hx21, h⟩ := xlt_some h
                          refine ev_iinc (L' := [(6, .int x21), (0, .ref (E.2.2.2 + iM)), (1, .int p0), (2, .int p1), (3, .int p2), (4, .int x6)]) 5 dX12_rest_154 rfl ((by rfl : x18 + Int32.ofInt 1 = x18 + 1).trans hx21) (Nat.le_of_ble_eq_true rfl) rfl ?_
                          refine ev_goto (tgt := 126) dX12_rest_157 (by decide) ?_
                          cases h
                          replace hk := xel_l hk
                          exact ev_sub [1, 2, 3, 4, 5, 0] rfl (hk)
                        · replace h := xif_t c143 h
                          refine ev_aload_n 0 dX12_rest_146 rfl rfl ?_
                          refine xv_getF (a := iM_aheadOf) cl_12 lk_RX12_139 kd_61 (xl hF rfl) (fun _ => rfl) (fr_61_63 hF) dX12_rest_147 ?_
                          refine ev_iload 5 dX12_rest_150 rfl ?_
                          obtain ⟨v22, hv22, h⟩ := xbd_some h
                          refine xv_iald kd_104 (xl hF rfl) hv22 dX12_rest_152 ?_
                          cases h
                          replace hk := xel_r hk
                          replace hk := xel_r hk
                          exact ev_iret rfl (hk) dX12_rest_153 (Nat.zero_le _) (Nat.zero_le _)
                    · rcases q23 with q24 | q25
                      · replace h := xsm_l h
                        show Ev E (xcm E d 0 0 QQ) Y_X12_rest 160 [(0, .ref (E.2.2.2 + iM)), (1, .int p0), (2, .int p1), (3, .int p2), (4, .int x6)] [] (xσ q17.2 R) n 0 0
                        obtain ⟨x26, hx26, h⟩ := xlt_some h
                        refine ev_iinc (L' := [(4, .int x26), (0, .ref (E.2.2.2 + iM)), (1, .int p0), (2, .int p1), (3, .int p2)]) 4 dX12_rest_160 rfl ((by rfl : x6 + Int32.ofInt 1 = x6 + 1).trans hx26) (Nat.le_of_ble_eq_true rfl) rfl ?_
                        refine ev_goto (tgt := 56) dX12_rest_163 (by decide) ?_
                        cases h
                        replace hk := xel_l hk
                        exact ev_sub [1, 2, 3, 4, 0] rfl (hk)
                      · replace h := xsm_r h
                        cases h
                        replace hk := xel_r hk
                        replace hk := xel_r hk
                        exact hk
                  · replace h := xif_t c117 h
                    refine ev_iload 4 dX12_rest_120 rfl ?_
                    cases h
                    replace hk := xel_r hk
                    replace hk := xel_r hk
                    exact ev_iret rfl (hk) dX12_rest_122 (Nat.zero_le _) (Nat.zero_le _)
                · replace h := xif_f c109 h
                  refine ev_goto (tgt := 160) dX12_rest_112 (by decide) ?_
                  obtain ⟨x27, hx27, h⟩ := xlt_some h
                  refine ev_iinc (L' := [(4, .int x27), (0, .ref (E.2.2.2 + iM)), (1, .int p0), (2, .int p1), (3, .int p2), (5, .int q17.1)]) 4 dX12_rest_160 rfl ((by rfl : x6 + Int32.ofInt 1 = x6 + 1).trans hx27) (Nat.le_of_ble_eq_true rfl) rfl ?_
                  refine ev_goto (tgt := 56) dX12_rest_163 (by decide) ?_
                  cases h
                  replace hk := xel_l hk
                  exact ev_sub [1, 2, 3, 4, 0] rfl (hk)
          · rcases q28 with q29 | q30
            · replace h := xsm_l h
              show Ev E (xcm E d 0 0 QQ) Y_X12_rest 166 [] [] (xσ q29 R) n 0 0
              refine ev_bipush (v := (-2)) dX12_rest_166 (by decide) ?_
              cases h
              exact ev_iret rfl (hQ) dX12_rest_168 (Nat.zero_le _) (Nat.zero_le _)
            · replace h := xsm_r h
              cases h
              exact hQ
        refine ev_icmp_eq (tgt := 48) dX12_rest_33 (by decide) (fun c33 => ?_) (fun c33 => ?_)
        · replace h := xif_t c33 h
          exact ev_sub [0, 1, 2, 3] rfl (j48 h)
        · replace h := xif_f c33 h
          refine ev_aload_n 0 dX12_rest_36 rfl rfl ?_
          refine ev_iload_n 1 dX12_rest_37 rfl rfl ?_
          refine ev_iload_n 3 dX12_rest_38 rfl rfl ?_
          obtain ⟨q31, hq31, h⟩ := xbd_some h
          refine ev_callV (ci := 12) (rest := []) 2 (kX12_isOf (E := E) (d := 1) (QQ := (fun v τ n' => v = some (.int q31) ∧ τ = xσ μ R ∧ n = n')) (Nat.le_refl _) hF hq31 (⟨rfl, rfl, rfl⟩)) my_X12_isOf ⟨m_1470, m_1472, m_40⟩ cl_12 kd_61 (xl hF rfl) rfl rfl (Nat.le_of_ble_eq_true rfl) (Nat.le_trans (by decide) hd) (xlo (by decide) (Nat.le_trans (by decide) hd)) (Nat.zero_le _) (Nat.zero_le _) dX12_rest_39 (fun v τ n' hv => ?_)
          obtain ⟨rfl, rfl, rfl⟩ := hv
          show Ev E (xcm E d 0 0 QQ) Y_X12_rest 42 [(0, .ref (E.2.2.2 + iM)), (1, .int p0), (2, .int p1), (3, .int p2)] [.int q31] (xσ μ R) n 0 0
          refine ev_if_ne (tgt := 48) dX12_rest_42 (by decide) (fun c42 => ?_) (fun c42 => ?_)
          · replace h := xif_f c42 h
            exact ev_sub [0, 1, 2, 3] rfl (j48 h)
          · replace h := xif_t c42 h
            refine ev_bipush (v := (-3)) dX12_rest_45 (by decide) ?_
            cases h
            exact ev_iret rfl (hQ) dX12_rest_47 (Nat.zero_le _) (Nat.zero_le _)
def fX12_round_b13 (x4 : Int32) (μ5 : xm) : Option ((Int32 × xm) ⊕ (xm)) := if x4 = (-1) then (some (.inr μ5)) else (xbd (fX12_goesTo x4 μ5) fun q7 => xbd (fX12_measures q7) fun q8 => xbd (fX12_nearestGetter q8) fun q9 => some (.inl (q9, q8)))
def fX12_round_b39 (x11 : Int32) (x12 : Int32) (q10 : xm) : Option ((Int32 × Int32) ⊕ (Int32)) := if 64 ≤ x12 then (some (.inr x11)) else (xbd (xgI q10 iM_least0 64 x12) fun v14 => xlt (x11 + v14) fun x15 => xlt (x12 + 1) fun x16 => some (.inl (x15, x16)))
def fX12_round (μ : xm) : Option (Int32 × xm) := xbd (fX12_balances μ) fun q1 => xbd (fX12_measures q1) fun q2 => xbd (fX12_nearestGetter q2) fun q3 => xbd (xloop xfu (fun v => fX12_round_b13 v.1 v.2) (q3, q2)) fun q10 => xbd (xloop xfu (fun v => fX12_round_b39 v.1 v.2 q10) (0, 0)) fun q17 => some (q17, q10)
set_option maxHeartbeats 4000000 in
set_option maxRecDepth 100000 in
theorem kX12_round {E : xE} {d : Nat} {QQ : xP} (hd : 4 ≤ d)  {μ : xm} {R : xr} {n : Nat} (hF : xFin R n)  {res : Int32 × xm} (h : fX12_round μ = some res) (hQ : QQ (some (.int res.1)) (xσ res.2 R) n) : xCon E d Y_X12_round 0 0 [.ref (E.2.2.2 + iM)] (xσ μ R) n QQ := by
  refine xCon_of pn_RX12 (Nat.le_of_ble_eq_true rfl) (L0 := [(0, .ref (E.2.2.2 + iM))]) rfl ?_
  unfold fX12_round at h
  refine ev_aload_n 0 dX12_round_0 rfl rfl ?_
  obtain ⟨q1, hq1, h⟩ := xbd_some h
  refine ev_callV (ci := 12) (rest := []) 0 (kX12_balances (E := E) (d := 3) (QQ := (fun v τ n' => v = none ∧ τ = xσ q1 R ∧ n = n')) (Nat.le_refl _) hF hq1 (⟨rfl, rfl, rfl⟩)) my_X12_balances ⟨m_1701, m_1703, m_80⟩ cl_12 kd_61 (xl hF rfl) rfl rfl (Nat.le_of_ble_eq_true rfl) (Nat.le_trans (by decide) hd) (xlo (by decide) (Nat.le_trans (by decide) hd)) (Nat.zero_le _) (Nat.zero_le _) dX12_round_1 (fun v τ n' hv => ?_)
  obtain ⟨rfl, rfl, rfl⟩ := hv
  show Ev E (xcm E d 0 0 QQ) Y_X12_round 4 [(0, .ref (E.2.2.2 + iM))] [] (xσ q1 R) n 0 0
  refine ev_aload_n 0 dX12_round_4 rfl rfl ?_
  obtain ⟨q2, hq2, h⟩ := xbd_some h
  refine ev_callV (ci := 12) (rest := []) 0 (kX12_measures (E := E) (d := 0) (QQ := (fun v τ n' => v = none ∧ τ = xσ q2 R ∧ n = n')) (Nat.le_refl _) hF hq2 (⟨rfl, rfl, rfl⟩)) my_X12_measures ⟨m_1706, m_1708, m_81⟩ cl_12 kd_61 (xl hF rfl) rfl rfl (Nat.le_of_ble_eq_true rfl) (Nat.le_trans (by decide) hd) (xlo (by decide) (Nat.le_trans (by decide) hd)) (Nat.zero_le _) (Nat.zero_le _) dX12_round_5 (fun v τ n' hv => ?_)
  obtain ⟨rfl, rfl, rfl⟩ := hv
  show Ev E (xcm E d 0 0 QQ) Y_X12_round 8 [(0, .ref (E.2.2.2 + iM))] [] (xσ q2 R) n 0 0
  refine ev_aload_n 0 dX12_round_8 rfl rfl ?_
  obtain ⟨q3, hq3, h⟩ := xbd_some h
  refine ev_callV (ci := 12) (rest := []) 0 (kX12_nearestGetter (E := E) (d := 0) (QQ := (fun v τ n' => v = some (.int q3) ∧ τ = xσ q2 R ∧ n = n')) (Nat.le_refl _) hF hq3 (⟨rfl, rfl, rfl⟩)) my_X12_nearestGetter ⟨m_1710, m_1712, m_82⟩ cl_12 kd_61 (xl hF rfl) rfl rfl (Nat.le_of_ble_eq_true rfl) (Nat.le_trans (by decide) hd) (xlo (by decide) (Nat.le_trans (by decide) hd)) (Nat.zero_le _) (Nat.zero_le _) dX12_round_9 (fun v τ n' hv => ?_)
  obtain ⟨rfl, rfl, rfl⟩ := hv
  show Ev E (xcm E d 0 0 QQ) Y_X12_round 12 [(0, .ref (E.2.2.2 + iM))] [.int q3] (xσ q2 R) n 0 0
  refine xv_istore_n (L' := [(1, .int q3), (0, .ref (E.2.2.2 + iM))]) rfl dX12_round_12 rfl (Nat.le_of_ble_eq_true rfl) rfl ?_
  obtain ⟨q10, hq10, h⟩ := xbd_some h
  refine ev_sub (L' := [(0, .ref (E.2.2.2 + iM)), (1, .int q3)]) [1, 0] rfl ?_
  refine xloop_run (fun v => Ev E (xcm E d 0 0 QQ) Y_X12_round 13 [(0, .ref (E.2.2.2 + iM)), (1, .int v.1)] [] (xσ v.2 R) n 0 0) (fun v => Ev E (xcm E d 0 0 QQ) Y_X12_round 35 [(0, .ref (E.2.2.2 + iM))] [] (xσ v R) n 0 0) ?_ _ _ _ hq10 ?_
  · rintro ⟨x4, μ5⟩ y6 h hk
    replace h : fX12_round_b13 x4 μ5 = some y6 := h
    show Ev E (xcm E d 0 0 QQ) Y_X12_round 13 [(0, .ref (E.2.2.2 + iM)), (1, .int x4)] [] (xσ μ5 R) n 0 0
    unfold fX12_round_b13 at h
    refine ev_iload_n 1 dX12_round_13 rfl rfl ?_
    refine ev_iconst (v := (-1)) dX12_round_14 (by decide) ?_
    refine ev_icmp_eq (tgt := 35) dX12_round_15 (by decide) (fun c15 => ?_) (fun c15 => ?_)
    · replace h := xif_t c15 h
      cases h
      replace hk := xel_r hk
      exact ev_sub [0] rfl (hk)
    · replace h := xif_f c15 h
      refine ev_aload_n 0 dX12_round_18 rfl rfl ?_
      refine ev_iload_n 1 dX12_round_19 rfl rfl ?_
      obtain ⟨q7, hq7, h⟩ := xbd_some h
      refine ev_callV (ci := 12) (rest := []) 1 (kX12_goesTo (E := E) (d := 1) (QQ := (fun v τ n' => v = none ∧ τ = xσ q7 R ∧ n = n')) (Nat.le_refl _) hF hq7 (⟨rfl, rfl, rfl⟩)) my_X12_goesTo ⟨m_1714, m_1716, m_83⟩ cl_12 kd_61 (xl hF rfl) rfl rfl (Nat.le_of_ble_eq_true rfl) (Nat.le_trans (by decide) hd) (xlo (by decide) (Nat.le_trans (by decide) hd)) (Nat.zero_le _) (Nat.zero_le _) dX12_round_20 (fun v τ n' hv => ?_)
      obtain ⟨rfl, rfl, rfl⟩ := hv
      show Ev E (xcm E d 0 0 QQ) Y_X12_round 23 [(0, .ref (E.2.2.2 + iM)), (1, .int x4)] [] (xσ q7 R) n 0 0
      refine ev_aload_n 0 dX12_round_23 rfl rfl ?_
      obtain ⟨q8, hq8, h⟩ := xbd_some h
      refine ev_callV (ci := 12) (rest := []) 0 (kX12_measures (E := E) (d := 0) (QQ := (fun v τ n' => v = none ∧ τ = xσ q8 R ∧ n = n')) (Nat.le_refl _) hF hq8 (⟨rfl, rfl, rfl⟩)) my_X12_measures ⟨m_1706, m_1708, m_81⟩ cl_12 kd_61 (xl hF rfl) rfl rfl (Nat.le_of_ble_eq_true rfl) (Nat.le_trans (by decide) hd) (xlo (by decide) (Nat.le_trans (by decide) hd)) (Nat.zero_le _) (Nat.zero_le _) dX12_round_24 (fun v τ n' hv => ?_)
      obtain ⟨rfl, rfl, rfl⟩ := hv
      show Ev E (xcm E d 0 0 QQ) Y_X12_round 27 [(0, .ref (E.2.2.2 + iM)), (1, .int x4)] [] (xσ q8 R) n 0 0
      refine ev_aload_n 0 dX12_round_27 rfl rfl ?_
      obtain ⟨q9, hq9, h⟩ := xbd_some h
      refine ev_callV (ci := 12) (rest := []) 0 (kX12_nearestGetter (E := E) (d := 0) (QQ := (fun v τ n' => v = some (.int q9) ∧ τ = xσ q8 R ∧ n = n')) (Nat.le_refl _) hF hq9 (⟨rfl, rfl, rfl⟩)) my_X12_nearestGetter ⟨m_1710, m_1712, m_82⟩ cl_12 kd_61 (xl hF rfl) rfl rfl (Nat.le_of_ble_eq_true rfl) (Nat.le_trans (by decide) hd) (xlo (by decide) (Nat.le_trans (by decide) hd)) (Nat.zero_le _) (Nat.zero_le _) dX12_round_28 (fun v τ n' hv => ?_)
      obtain ⟨rfl, rfl, rfl⟩ := hv
      show Ev E (xcm E d 0 0 QQ) Y_X12_round 31 [(0, .ref (E.2.2.2 + iM)), (1, .int x4)] [.int q9] (xσ q8 R) n 0 0
      refine xv_istore_n (L' := [(1, .int q9), (0, .ref (E.2.2.2 + iM))]) rfl dX12_round_31 rfl (Nat.le_of_ble_eq_true rfl) rfl ?_
      refine ev_goto (tgt := 13) dX12_round_32 (by decide) ?_
      cases h
      replace hk := xel_l hk
      exact ev_sub [1, 0] rfl (hk)
  · show Ev E (xcm E d 0 0 QQ) Y_X12_round 35 [(0, .ref (E.2.2.2 + iM))] [] (xσ q10 R) n 0 0
    refine ev_iconst (v := 0) dX12_round_35 (by decide) ?_
    refine xv_istore_n (L' := [(1, .int 0), (0, .ref (E.2.2.2 + iM))]) rfl dX12_round_36 rfl (Nat.le_of_ble_eq_true rfl) rfl ?_
    refine ev_iconst (v := 0) dX12_round_37 (by decide) ?_
    refine xv_istore_n (L' := [(2, .int 0), (1, .int 0), (0, .ref (E.2.2.2 + iM))]) rfl dX12_round_38 rfl (Nat.le_of_ble_eq_true rfl) rfl ?_
    obtain ⟨q17, hq17, h⟩ := xbd_some h
    refine ev_sub (L' := [(0, .ref (E.2.2.2 + iM)), (1, .int 0), (2, .int 0)]) [2, 1, 0] rfl ?_
    refine xloop_run (fun v => Ev E (xcm E d 0 0 QQ) Y_X12_round 39 [(0, .ref (E.2.2.2 + iM)), (1, .int v.1), (2, .int v.2)] [] (xσ q10 R) n 0 0) (fun v => Ev E (xcm E d 0 0 QQ) Y_X12_round 60 [(1, .int v)] [] (xσ q10 R) n 0 0) ?_ _ _ _ hq17 ?_
    · rintro ⟨x11, x12⟩ y13 h hk
      replace h : fX12_round_b39 x11 x12 q10 = some y13 := h
      show Ev E (xcm E d 0 0 QQ) Y_X12_round 39 [(0, .ref (E.2.2.2 + iM)), (1, .int x11), (2, .int x12)] [] (xσ q10 R) n 0 0
      unfold fX12_round_b39 at h
      refine ev_iload_n 2 dX12_round_39 rfl rfl ?_
      refine ev_bipush (v := 64) dX12_round_40 (by decide) ?_
      refine ev_icmp_ge (tgt := 60) dX12_round_42 (by decide) (fun c42 => ?_) (fun c42 => ?_)
      · replace h := xif_t c42 h
        cases h
        replace hk := xel_r hk
        exact ev_sub [1] rfl (hk)
      · replace h := xif_f c42 h
        refine ev_iload_n 1 dX12_round_45 rfl rfl ?_
        refine ev_aload_n 0 dX12_round_46 rfl rfl ?_
        refine xv_getF (a := iM_least0) cl_12 lk_RX12_105 kd_61 (xl hF rfl) (fun _ => rfl) (fr_61_47 hF) dX12_round_47 ?_
        refine ev_iload_n 2 dX12_round_50 rfl rfl ?_
        obtain ⟨v14, hv14, h⟩ := xbd_some h
        refine xv_iald kd_93 (xl hF rfl) hv14 dX12_round_51 ?_
        refine ev_iadd dX12_round_52 ?_
        obtain ⟨x15, hx15, h⟩ := xlt_some h
        refine xv_istore_n (L' := [(1, .int x15), (0, .ref (E.2.2.2 + iM)), (2, .int x12)]) hx15 dX12_round_53 rfl (Nat.le_of_ble_eq_true rfl) rfl ?_
        obtain ⟨x16, hx16, h⟩ := xlt_some h
        refine ev_iinc (L' := [(2, .int x16), (1, .int x15), (0, .ref (E.2.2.2 + iM))]) 2 dX12_round_54 rfl ((by rfl : x12 + Int32.ofInt 1 = x12 + 1).trans hx16) (Nat.le_of_ble_eq_true rfl) rfl ?_
        refine ev_goto (tgt := 39) dX12_round_57 (by decide) ?_
        cases h
        replace hk := xel_l hk
        exact ev_sub [2, 1, 0] rfl (hk)
    · show Ev E (xcm E d 0 0 QQ) Y_X12_round 60 [(1, .int q17)] [] (xσ q10 R) n 0 0
      refine ev_iload_n 0 dX12_round_60 rfl rfl ?_
      cases h
      exact ev_iret rfl (hQ) dX12_round_61 (Nat.zero_le _) (Nat.zero_le _)
def fX12_takings_b8 (x2 : Int32) (x3 : Int32) (q1 : xm) : Option ((Int32 × Int32) ⊕ (Int32)) := if 8 ≤ x3 then (some (.inr x2)) else (xbd (xgI q1 iM_balance 8 x3) fun v5 => if v5 = 0 then (xlt (x3 + 1) fun x6 => some (.inl (x2, x6))) else (xlt (x2 ||| ((1 : Int32) <<< (x3 &&& 31))) fun x7 => xlt (x3 + 1) fun x8 => some (.inl (x7, x8))))
def fX12_takings_b63 (x14 : Int32) (x15 : Int32) (x16 : Int32) (x11 : Int32) (μ12 : xm) : Option ((Int32 × Int32 × Int32) ⊕ (Int32 × Int32)) := if 8 ≤ x16 then (some (.inr (x14, x15))) else (if ((x11 >>> (x16 &&& 31)) &&& 1) = 0 then (xlt (x16 + 1) fun x23 => some (.inl (x14, x15, x23))) else (xbd (xgI μ12 iM_balance 8 x16) fun v18 => xlt (x14 + v18) fun x19 => xbd (xgI μ12 iM_groups 256 (x11 &&& (((1 : Int32) <<< (x16 &&& 31)) ^^^ (-1)))) fun v20 => if v20 ≤ x15 then (xlt (x16 + 1) fun x21 => some (.inl (x19, x15, x21))) else (xlt (x16 + 1) fun x22 => some (.inl (x19, v20, x22)))))
def fX12_takings_b48 (x11 : Int32) (μ12 : xm) : Option ((Int32 × xm) ⊕ (xm)) := if 256 ≤ x11 then (some (.inr μ12)) else (xbd (xloop xfu (fun v => fX12_takings_b63 v.1 v.2.1 v.2.2 x11 μ12) (0, 0, 0)) fun q24 => if q24.1 = 0 then (xbd (xsI μ12 iM_groups 256 x11 (q24.2 + 1)) fun μ27 => xlt (x11 + 1) fun x28 => some (.inl (x28, μ27))) else (xbd (xsI μ12 iM_groups 256 x11 q24.2) fun μ25 => xlt (x11 + 1) fun x26 => some (.inl (x26, μ25))))
def fX12_takings (μ : xm) : Option (Int32 × xm) := xbd (fX12_balances μ) fun q1 => xbd (xloop xfu (fun v => fX12_takings_b8 v.1 v.2 q1) (0, 0)) fun q9 => xbd (xsI q1 iM_groups 256 0 0) fun μ10 => xbd (xloop xfu (fun v => fX12_takings_b48 v.1 v.2) (1, μ10)) fun q29 => xbd (fX12_bits q9) fun q30 => xbd (xgI q29 iM_groups 256 q9) fun v31 => some (q30 - v31, q29)
set_option maxHeartbeats 4000000 in
set_option maxRecDepth 100000 in
theorem kX12_takings {E : xE} {d : Nat} {QQ : xP} (hd : 4 ≤ d)  {μ : xm} {R : xr} {n : Nat} (hF : xFin R n)  {res : Int32 × xm} (h : fX12_takings μ = some res) (hQ : QQ (some (.int res.1)) (xσ res.2 R) n) : xCon E d Y_X12_takings 0 0 [.ref (E.2.2.2 + iM)] (xσ μ R) n QQ := by
  refine xCon_of pn_RX12 (Nat.le_of_ble_eq_true rfl) (L0 := [(0, .ref (E.2.2.2 + iM))]) rfl ?_
  unfold fX12_takings at h
  refine ev_aload_n 0 dX12_takings_0 rfl rfl ?_
  obtain ⟨q1, hq1, h⟩ := xbd_some h
  refine ev_callV (ci := 12) (rest := []) 0 (kX12_balances (E := E) (d := 3) (QQ := (fun v τ n' => v = none ∧ τ = xσ q1 R ∧ n = n')) (Nat.le_refl _) hF hq1 (⟨rfl, rfl, rfl⟩)) my_X12_balances ⟨m_1701, m_1703, m_80⟩ cl_12 kd_61 (xl hF rfl) rfl rfl (Nat.le_of_ble_eq_true rfl) (Nat.le_trans (by decide) hd) (xlo (by decide) (Nat.le_trans (by decide) hd)) (Nat.zero_le _) (Nat.zero_le _) dX12_takings_1 (fun v τ n' hv => ?_)
  obtain ⟨rfl, rfl, rfl⟩ := hv
  show Ev E (xcm E d 0 0 QQ) Y_X12_takings 4 [(0, .ref (E.2.2.2 + iM))] [] (xσ q1 R) n 0 0
  refine ev_iconst (v := 0) dX12_takings_4 (by decide) ?_
  refine xv_istore_n (L' := [(1, .int 0), (0, .ref (E.2.2.2 + iM))]) rfl dX12_takings_5 rfl (Nat.le_of_ble_eq_true rfl) rfl ?_
  refine ev_iconst (v := 0) dX12_takings_6 (by decide) ?_
  refine xv_istore_n (L' := [(2, .int 0), (1, .int 0), (0, .ref (E.2.2.2 + iM))]) rfl dX12_takings_7 rfl (Nat.le_of_ble_eq_true rfl) rfl ?_
  obtain ⟨q9, hq9, h⟩ := xbd_some h
  refine ev_sub (L' := [(0, .ref (E.2.2.2 + iM)), (1, .int 0), (2, .int 0)]) [2, 1, 0] rfl ?_
  refine xloop_run (fun v => Ev E (xcm E d 0 0 QQ) Y_X12_takings 8 [(0, .ref (E.2.2.2 + iM)), (1, .int v.1), (2, .int v.2)] [] (xσ q1 R) n 0 0) (fun v => Ev E (xcm E d 0 0 QQ) Y_X12_takings 39 [(0, .ref (E.2.2.2 + iM)), (1, .int v)] [] (xσ q1 R) n 0 0) ?_ _ _ _ hq9 ?_
  · rintro ⟨x2, x3⟩ y4 h hk
    replace h : fX12_takings_b8 x2 x3 q1 = some y4 := h
    show Ev E (xcm E d 0 0 QQ) Y_X12_takings 8 [(0, .ref (E.2.2.2 + iM)), (1, .int x2), (2, .int x3)] [] (xσ q1 R) n 0 0
    unfold fX12_takings_b8 at h
    refine ev_iload_n 2 dX12_takings_8 rfl rfl ?_
    refine ev_bipush (v := 8) dX12_takings_9 (by decide) ?_
    refine ev_icmp_ge (tgt := 39) dX12_takings_11 (by decide) (fun c11 => ?_) (fun c11 => ?_)
    · replace h := xif_t c11 h
      cases h
      replace hk := xel_r hk
      exact ev_sub [0, 1] rfl (hk)
    · replace h := xif_f c11 h
      refine ev_aload_n 0 dX12_takings_14 rfl rfl ?_
      refine xv_getF (a := iM_balance) cl_12 lk_RX12_111 kd_61 (xl hF rfl) (fun _ => rfl) (fr_61_49 hF) dX12_takings_15 ?_
      refine ev_iload_n 2 dX12_takings_18 rfl rfl ?_
      obtain ⟨v5, hv5, h⟩ := xbd_some h
      refine xv_iald kd_95 (xl hF rfl) hv5 dX12_takings_19 ?_
      refine ev_if_eq (tgt := 31) dX12_takings_20 (by decide) (fun c20 => ?_) (fun c20 => ?_)
      · replace h := xif_t c20 h
        refine ev_iload_n 1 dX12_takings_31 rfl rfl ?_
        refine xv_istore_n (L' := [(1, .int x2), (0, .ref (E.2.2.2 + iM)), (2, .int x3)]) rfl dX12_takings_32 rfl (Nat.le_of_ble_eq_true rfl) rfl ?_
        obtain ⟨x6, hx6, h⟩ := xlt_some h
        refine ev_iinc (L' := [(2, .int x6), (1, .int x2), (0, .ref (E.2.2.2 + iM))]) 2 dX12_takings_33 rfl ((by rfl : x3 + Int32.ofInt 1 = x3 + 1).trans hx6) (Nat.le_of_ble_eq_true rfl) rfl ?_
        refine ev_goto (tgt := 8) dX12_takings_36 (by decide) ?_
        cases h
        replace hk := xel_l hk
        exact ev_sub [2, 1, 0] rfl (hk)
      · replace h := xif_f c20 h
        refine ev_iload_n 1 dX12_takings_23 rfl rfl ?_
        refine ev_iconst (v := 1) dX12_takings_24 (by decide) ?_
        refine ev_iload_n 2 dX12_takings_25 rfl rfl ?_
        refine ev_ishl dX12_takings_26 ?_
        refine ev_ior dX12_takings_27 ?_
        refine ev_goto (tgt := 32) dX12_takings_28 (by decide) ?_
        obtain ⟨x7, hx7, h⟩ := xlt_some h
        refine xv_istore_n (L' := [(1, .int x7), (0, .ref (E.2.2.2 + iM)), (2, .int x3)]) hx7 dX12_takings_32 rfl (Nat.le_of_ble_eq_true rfl) rfl ?_
        obtain ⟨x8, hx8, h⟩ := xlt_some h
        refine ev_iinc (L' := [(2, .int x8), (1, .int x7), (0, .ref (E.2.2.2 + iM))]) 2 dX12_takings_33 rfl ((by rfl : x3 + Int32.ofInt 1 = x3 + 1).trans hx8) (Nat.le_of_ble_eq_true rfl) rfl ?_
        refine ev_goto (tgt := 8) dX12_takings_36 (by decide) ?_
        cases h
        replace hk := xel_l hk
        exact ev_sub [2, 1, 0] rfl (hk)
  · show Ev E (xcm E d 0 0 QQ) Y_X12_takings 39 [(0, .ref (E.2.2.2 + iM)), (1, .int q9)] [] (xσ q1 R) n 0 0
    refine ev_aload_n 0 dX12_takings_39 rfl rfl ?_
    refine xv_getF (a := iM_groups) cl_12 lk_RX12_120 kd_61 (xl hF rfl) (fun _ => rfl) (fr_61_52 hF) dX12_takings_40 ?_
    refine ev_iconst (v := 0) dX12_takings_43 (by decide) ?_
    refine ev_iconst (v := 0) dX12_takings_44 (by decide) ?_
    obtain ⟨μ10, hμ10, h⟩ := xbd_some h
    refine xv_iast kd_98 (xl hF rfl) hμ10 dX12_takings_45 ?_
    refine ev_iconst (v := 1) dX12_takings_46 (by decide) ?_
    refine xv_istore_n (L' := [(2, .int 1), (0, .ref (E.2.2.2 + iM)), (1, .int q9)]) rfl dX12_takings_47 rfl (Nat.le_of_ble_eq_true rfl) rfl ?_
    obtain ⟨q29, hq29, h⟩ := xbd_some h
    refine ev_sub (L' := [(0, .ref (E.2.2.2 + iM)), (1, .int q9), (2, .int 1)]) [1, 2, 0] rfl ?_
    refine xloop_run (fun v => Ev E (xcm E d 0 0 QQ) Y_X12_takings 48 [(0, .ref (E.2.2.2 + iM)), (1, .int q9), (2, .int v.1)] [] (xσ v.2 R) n 0 0) (fun v => Ev E (xcm E d 0 0 QQ) Y_X12_takings 154 [(0, .ref (E.2.2.2 + iM)), (1, .int q9)] [] (xσ v R) n 0 0) ?_ _ _ _ hq29 ?_
    · rintro ⟨x11, μ12⟩ y13 h hk
      replace h : fX12_takings_b48 x11 μ12 = some y13 := h
      show Ev E (xcm E d 0 0 QQ) Y_X12_takings 48 [(0, .ref (E.2.2.2 + iM)), (1, .int q9), (2, .int x11)] [] (xσ μ12 R) n 0 0
      unfold fX12_takings_b48 at h
      refine ev_iload_n 2 dX12_takings_48 rfl rfl ?_
      refine ev_sipush (v := 256) dX12_takings_49 (by decide) ?_
      refine ev_icmp_ge (tgt := 154) dX12_takings_52 (by decide) (fun c52 => ?_) (fun c52 => ?_)
      · replace h := xif_t c52 h
        cases h
        replace hk := xel_r hk
        exact ev_sub [0, 1] rfl (hk)
      · replace h := xif_f c52 h
        refine ev_iconst (v := 0) dX12_takings_55 (by decide) ?_
        refine xv_istore_n (L' := [(3, .int 0), (0, .ref (E.2.2.2 + iM)), (1, .int q9), (2, .int x11)]) rfl dX12_takings_56 rfl (Nat.le_of_ble_eq_true rfl) rfl ?_
        refine ev_iconst (v := 0) dX12_takings_57 (by decide) ?_
        refine xv_istore (L' := [(4, .int 0), (3, .int 0), (0, .ref (E.2.2.2 + iM)), (1, .int q9), (2, .int x11)]) rfl dX12_takings_58 (Nat.le_of_ble_eq_true rfl) rfl ?_
        refine ev_iconst (v := 0) dX12_takings_60 (by decide) ?_
        refine xv_istore (L' := [(5, .int 0), (4, .int 0), (3, .int 0), (0, .ref (E.2.2.2 + iM)), (1, .int q9), (2, .int x11)]) rfl dX12_takings_61 (Nat.le_of_ble_eq_true rfl) rfl ?_
        obtain ⟨q24, hq24, h⟩ := xbd_some h
        refine ev_sub (L' := [(0, .ref (E.2.2.2 + iM)), (1, .int q9), (2, .int x11), (3, .int 0), (4, .int 0), (5, .int 0)]) [3, 4, 5, 2, 1, 0] rfl ?_
        refine xloop_run (fun v => Ev E (xcm E d 0 0 QQ) Y_X12_takings 63 [(0, .ref (E.2.2.2 + iM)), (1, .int q9), (2, .int x11), (3, .int v.1), (4, .int v.2.1), (5, .int v.2.2)] [] (xσ μ12 R) n 0 0) (fun v => Ev E (xcm E d 0 0 QQ) Y_X12_takings 129 [(0, .ref (E.2.2.2 + iM)), (1, .int q9), (2, .int x11), (3, .int v.1), (4, .int v.2)] [] (xσ μ12 R) n 0 0) ?_ _ _ _ hq24 ?_
        · rintro ⟨x14, x15, x16⟩ y17 h hk
          replace h : fX12_takings_b63 x14 x15 x16 x11 μ12 = some y17 := h
          show Ev E (xcm E d 0 0 QQ) Y_X12_takings 63 [(0, .ref (E.2.2.2 + iM)), (1, .int q9), (2, .int x11), (3, .int x14), (4, .int x15), (5, .int x16)] [] (xσ μ12 R) n 0 0
          unfold fX12_takings_b63 at h
          refine ev_iload 5 dX12_takings_63 rfl ?_
          refine ev_bipush (v := 8) dX12_takings_65 (by decide) ?_
          refine ev_icmp_ge (tgt := 129) dX12_takings_67 (by decide) (fun c67 => ?_) (fun c67 => ?_)
          · replace h := xif_t c67 h
            cases h
            replace hk := xel_r hk
            exact ev_sub [0, 1, 2, 3, 4] rfl (hk)
          · replace h := xif_f c67 h
            refine ev_iload_n 2 dX12_takings_70 rfl rfl ?_
            refine ev_iload 5 dX12_takings_71 rfl ?_
            refine ev_ishr dX12_takings_73 ?_
            refine ev_iconst (v := 1) dX12_takings_74 (by decide) ?_
            refine ev_iand dX12_takings_75 ?_
            refine ev_if_ne (tgt := 82) dX12_takings_76 (by decide) (fun c76 => ?_) (fun c76 => ?_)
            · replace h := xif_f c76 h
              refine ev_iload_n 3 dX12_takings_82 rfl rfl ?_
              refine ev_aload_n 0 dX12_takings_83 rfl rfl ?_
              refine xv_getF (a := iM_balance) cl_12 lk_RX12_111 kd_61 (xl hF rfl) (fun _ => rfl) (fr_61_49 hF) dX12_takings_84 ?_
              refine ev_iload 5 dX12_takings_87 rfl ?_
              obtain ⟨v18, hv18, h⟩ := xbd_some h
              refine xv_iald kd_95 (xl hF rfl) hv18 dX12_takings_89 ?_
              refine ev_iadd dX12_takings_90 ?_
              obtain ⟨x19, hx19, h⟩ := xlt_some h
              refine xv_istore_n (L' := [(3, .int x19), (0, .ref (E.2.2.2 + iM)), (1, .int q9), (2, .int x11), (4, .int x15), (5, .int x16)]) hx19 dX12_takings_91 rfl (Nat.le_of_ble_eq_true rfl) rfl ?_
              refine ev_aload_n 1 dX12_takings_92 rfl rfl ?_
              refine xv_getF (a := iM_groups) cl_12 lk_RX12_120 kd_61 (xl hF rfl) (fun _ => rfl) (fr_61_52 hF) dX12_takings_93 ?_
              refine ev_iload_n 3 dX12_takings_96 rfl rfl ?_
              refine ev_iconst (v := 1) dX12_takings_97 (by decide) ?_
              refine ev_iload 5 dX12_takings_98 rfl ?_
              refine ev_ishl dX12_takings_100 ?_
              refine ev_iconst (v := (-1)) dX12_takings_101 (by decide) ?_
              refine ev_ixor dX12_takings_102 ?_
              refine ev_iand dX12_takings_103 ?_
              obtain ⟨v20, hv20, h⟩ := xbd_some h
              refine xv_iald kd_98 (xl hF rfl) hv20 dX12_takings_104 ?_
              refine xv_istore (L' := [(6, .int v20), (3, .int x19), (0, .ref (E.2.2.2 + iM)), (1, .int q9), (2, .int x11), (4, .int x15), (5, .int x16)]) rfl dX12_takings_105 (Nat.le_of_ble_eq_true rfl) rfl ?_
              refine ev_iload 0 dX12_takings_107 rfl ?_
              refine ev_iload 5 dX12_takings_109 rfl ?_
              refine ev_icmp_le (tgt := 119) dX12_takings_111 (by decide) (fun c111 => ?_) (fun c111 => ?_)
              · replace h := xif_t c111 h
                refine ev_iload 5 dX12_takings_119 rfl ?_
                refine xv_istore (L' := [(4, .int x15), (6, .int v20), (3, .int x19), (0, .ref (E.2.2.2 + iM)), (1, .int q9), (2, .int x11), (5, .int x16)]) rfl dX12_takings_121 (Nat.le_of_ble_eq_true rfl) rfl ?_
                obtain ⟨x21, hx21, h⟩ := xlt_some h
                refine ev_iinc (L' := [(5, .int x21), (4, .int x15), (6, .int v20), (3, .int x19), (0, .ref (E.2.2.2 + iM)), (1, .int q9), (2, .int x11)]) 6 dX12_takings_123 rfl ((by rfl : x16 + Int32.ofInt 1 = x16 + 1).trans hx21) (Nat.le_of_ble_eq_true rfl) rfl ?_
                refine ev_goto (tgt := 63) dX12_takings_126 (by decide) ?_
                cases h
                replace hk := xel_l hk
                exact ev_sub [4, 5, 6, 3, 1, 0] rfl (hk)
              · replace h := xif_f c111 h
                refine ev_iload 0 dX12_takings_114 rfl ?_
                refine ev_goto (tgt := 121) dX12_takings_116 (by decide) ?_
                refine xv_istore (L' := [(4, .int v20), (6, .int v20), (3, .int x19), (0, .ref (E.2.2.2 + iM)), (1, .int q9), (2, .int x11), (5, .int x16)]) rfl dX12_takings_121 (Nat.le_of_ble_eq_true rfl) rfl ?_
                obtain ⟨x22, hx22, h⟩ := xlt_some h
                refine ev_iinc (L' := [(5, .int x22), (4, .int v20), (6, .int v20), (3, .int x19), (0, .ref (E.2.2.2 + iM)), (1, .int q9), (2, .int x11)]) 6 dX12_takings_123 rfl ((by rfl : x16 + Int32.ofInt 1 = x16 + 1).trans hx22) (Nat.le_of_ble_eq_true rfl) rfl ?_
                refine ev_goto (tgt := 63) dX12_takings_126 (by decide) ?_
                cases h
                replace hk := xel_l hk
                exact ev_sub [4, 5, 6, 3, 1, 0] rfl (hk)
            · replace h := xif_t c76 h
              refine ev_goto (tgt := 123) dX12_takings_79 (by decide) ?_
              obtain ⟨x23, hx23, h⟩ := xlt_some h
              refine ev_iinc (L' := [(5, .int x23), (0, .ref (E.2.2.2 + iM)), (1, .int q9), (2, .int x11), (3, .int x14), (4, .int x15)]) 5 dX12_takings_123 rfl ((by rfl : x16 + Int32.ofInt 1 = x16 + 1).trans hx23) (Nat.le_of_ble_eq_true rfl) rfl ?_
              refine ev_goto (tgt := 63) dX12_takings_126 (by decide) ?_
              cases h
              replace hk := xel_l hk
              exact ev_sub [1, 2, 3, 4, 5, 0] rfl (hk)
        · show Ev E (xcm E d 0 0 QQ) Y_X12_takings 129 [(0, .ref (E.2.2.2 + iM)), (1, .int q9), (2, .int x11), (3, .int q24.1), (4, .int q24.2)] [] (xσ μ12 R) n 0 0
          refine ev_aload_n 0 dX12_takings_129 rfl rfl ?_
          refine xv_getF (a := iM_groups) cl_12 lk_RX12_120 kd_61 (xl hF rfl) (fun _ => rfl) (fr_61_52 hF) dX12_takings_130 ?_
          refine ev_iload_n 2 dX12_takings_133 rfl rfl ?_
          refine ev_iload_n 3 dX12_takings_134 rfl rfl ?_
          refine ev_if_ne (tgt := 145) dX12_takings_135 (by decide) (fun c135 => ?_) (fun c135 => ?_)
          · replace h := xif_f c135 h
            refine ev_iload 4 dX12_takings_145 rfl ?_
            obtain ⟨μ25, hμ25, h⟩ := xbd_some h
            refine xv_iast kd_98 (xl hF rfl) hμ25 dX12_takings_147 ?_
            obtain ⟨x26, hx26, h⟩ := xlt_some h
            refine ev_iinc (L' := [(2, .int x26), (0, .ref (E.2.2.2 + iM)), (1, .int q9), (3, .int q24.1), (4, .int q24.2)]) 2 dX12_takings_148 rfl ((by rfl : x11 + Int32.ofInt 1 = x11 + 1).trans hx26) (Nat.le_of_ble_eq_true rfl) rfl ?_
            refine ev_goto (tgt := 48) dX12_takings_151 (by decide) ?_
            cases h
            replace hk := xel_l hk
            exact ev_sub [1, 2, 0] rfl (hk)
          · replace h := xif_t c135 h
            refine ev_iload 4 dX12_takings_138 rfl ?_
            refine ev_iconst (v := 1) dX12_takings_140 (by decide) ?_
            refine ev_iadd dX12_takings_141 ?_
            refine ev_goto (tgt := 147) dX12_takings_142 (by decide) ?_
            obtain ⟨μ27, hμ27, h⟩ := xbd_some h
            refine xv_iast kd_98 (xl hF rfl) hμ27 dX12_takings_147 ?_
            obtain ⟨x28, hx28, h⟩ := xlt_some h
            refine ev_iinc (L' := [(2, .int x28), (0, .ref (E.2.2.2 + iM)), (1, .int q9), (3, .int q24.1), (4, .int q24.2)]) 2 dX12_takings_148 rfl ((by rfl : x11 + Int32.ofInt 1 = x11 + 1).trans hx28) (Nat.le_of_ble_eq_true rfl) rfl ?_
            refine ev_goto (tgt := 48) dX12_takings_151 (by decide) ?_
            cases h
            replace hk := xel_l hk
            exact ev_sub [1, 2, 0] rfl (hk)
    · show Ev E (xcm E d 0 0 QQ) Y_X12_takings 154 [(0, .ref (E.2.2.2 + iM)), (1, .int q9)] [] (xσ q29 R) n 0 0
      refine ev_iload_n 1 dX12_takings_154 rfl rfl ?_
      obtain ⟨q30, hq30, h⟩ := xbd_some h
      refine ev_callS (As := [.int q9]) (rest := []) 1 (kX12_bits (E := E) (d := 0) (QQ := (fun v τ n' => v = some (.int q30) ∧ τ = xσ q29 R ∧ n = n')) (Nat.le_refl _)  hq30 (⟨rfl, rfl, rfl⟩)) my_X12_bits ⟨m_1463, m_1464⟩ rfl rfl (Nat.le_of_ble_eq_true rfl) (Nat.le_trans (by decide) hd) (xlo (by decide) (Nat.le_trans (by decide) hd)) (Nat.zero_le _) (Nat.zero_le _) dX12_takings_155 (fun v τ n' hv => ?_)
      obtain ⟨rfl, rfl, rfl⟩ := hv
      show Ev E (xcm E d 0 0 QQ) Y_X12_takings 158 [(0, .ref (E.2.2.2 + iM)), (1, .int q9)] [.int q30] (xσ q29 R) n 0 0
      refine ev_aload_n 0 dX12_takings_158 rfl rfl ?_
      refine xv_getF (a := iM_groups) cl_12 lk_RX12_120 kd_61 (xl hF rfl) (fun _ => rfl) (fr_61_52 hF) dX12_takings_159 ?_
      refine ev_iload_n 1 dX12_takings_162 rfl rfl ?_
      obtain ⟨v31, hv31, h⟩ := xbd_some h
      refine xv_iald kd_98 (xl hF rfl) hv31 dX12_takings_163 ?_
      refine ev_isub dX12_takings_164 ?_
      cases h
      exact ev_iret rfl (hQ) dX12_takings_165 (Nat.zero_le _) (Nat.zero_le _)
