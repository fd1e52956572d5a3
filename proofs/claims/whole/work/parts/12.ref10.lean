def fX12_two (p0 : Int32) (p1 : Int32) (p2 : Int32) (p3 : Int32) (p4 : Int32) (p5 : Int32) (μ : xm) : Option (Int64) := xbd (fX12_areInRow p0 p1 p2 p3 p5 μ) fun q1 => if q1 = 0 then (some (-1)) else (xbd (fX12_in p4 (-60) 600) fun q2 => if q2 = 0 then (some (-1)) else (xbd (fX12_twoOf p0 p1 p2 p3 p4 p5 μ) fun q3 => some q3))
set_option maxHeartbeats 4000000 in
set_option maxRecDepth 100000 in
theorem kX12_two {E : xE} {d : Nat} {QQ : xP} (hd : 4 ≤ d) {p0 : Int32} {p1 : Int32} {p2 : Int32} {p3 : Int32} {p4 : Int32} {p5 : Int32} {μ : xm} {R : xr} {n : Nat} (hF : xFin R n)  {res : Int64} (h : fX12_two p0 p1 p2 p3 p4 p5 μ = some res) (hQ : QQ (some (.long res)) (xσ μ R) n) : xCon E d Y_X12_two 0 0 [.ref (E.2.2.2 + iM), .int p0, .int p1, .int p2, .int p3, .int p4, .int p5] (xσ μ R) n QQ := by
  refine xCon_of pn_RX12 (Nat.le_of_ble_eq_true rfl) (L0 := [(0, .ref (E.2.2.2 + iM)), (1, .int p0), (2, .int p1), (3, .int p2), (4, .int p3), (5, .int p4), (6, .int p5)]) rfl ?_
  unfold fX12_two at h
  refine ev_aload_n 0 dX12_two_0 rfl rfl ?_
  refine ev_iload_n 1 dX12_two_1 rfl rfl ?_
  refine ev_iload_n 2 dX12_two_2 rfl rfl ?_
  refine ev_iload_n 3 dX12_two_3 rfl rfl ?_
  refine ev_iload 4 dX12_two_4 rfl ?_
  refine ev_iload 6 dX12_two_6 rfl ?_
  obtain ⟨q1, hq1, h⟩ := xbd_some h
  refine ev_callV (ci := 12) (rest := []) 5 (kX12_areInRow (E := E) (d := 2) (QQ := (fun v τ n' => v = some (.int q1) ∧ τ = xσ μ R ∧ n = n')) (Nat.le_refl _) hF hq1 (⟨rfl, rfl, rfl⟩)) my_X12_areInRow ⟨m_1809, m_1811, m_97⟩ cl_12 kd_61 (xl hF rfl) rfl rfl (Nat.le_of_ble_eq_true rfl) (Nat.le_trans (by decide) hd) (xlo (by decide) (Nat.le_trans (by decide) hd)) (Nat.zero_le _) (Nat.zero_le _) dX12_two_8 (fun v τ n' hv => ?_)
  obtain ⟨rfl, rfl, rfl⟩ := hv
  show Ev E (xcm E d 0 0 QQ) Y_X12_two 11 [(0, .ref (E.2.2.2 + iM)), (1, .int p0), (2, .int p1), (3, .int p2), (4, .int p3), (5, .int p4), (6, .int p5)] [.int q1] (xσ μ R) n 0 0
  refine ev_if_eq (tgt := 27) dX12_two_11 (by decide) (fun c11 => ?_) (fun c11 => ?_)
  · replace h := xif_t c11 h
    refine ev_ldc2 (v := (-1)) m_1692 dX12_two_27 ?_
    refine ev_goto (tgt := 46) dX12_two_30 (by decide) ?_
    cases h
    exact ev_lret rfl (hQ) dX12_two_46 (Nat.zero_le _) (Nat.zero_le _)
  · replace h := xif_f c11 h
    refine ev_iload 5 dX12_two_14 rfl ?_
    refine ev_bipush (v := (-60)) dX12_two_16 (by decide) ?_
    refine ev_sipush (v := 600) dX12_two_18 (by decide) ?_
    obtain ⟨q2, hq2, h⟩ := xbd_some h
    refine ev_callS (As := [.int p4, .int (-60), .int 600]) (rest := []) 3 (kX12_in (E := E) (d := 0) (QQ := (fun v τ n' => v = some (.int q2) ∧ τ = xσ μ R ∧ n = n')) (Nat.le_refl _)  hq2 (⟨rfl, rfl, rfl⟩)) my_X12_in ⟨m_1449, m_1450⟩ rfl rfl (Nat.le_of_ble_eq_true rfl) (Nat.le_trans (by decide) hd) (xlo (by decide) (Nat.le_trans (by decide) hd)) (Nat.zero_le _) (Nat.zero_le _) dX12_two_21 (fun v τ n' hv => ?_)
    obtain ⟨rfl, rfl, rfl⟩ := hv
    show Ev E (xcm E d 0 0 QQ) Y_X12_two 24 [(0, .ref (E.2.2.2 + iM)), (1, .int p0), (2, .int p1), (3, .int p2), (4, .int p3), (5, .int p4), (6, .int p5)] [.int q2] (xσ μ R) n 0 0
    refine ev_if_ne (tgt := 33) dX12_two_24 (by decide) (fun c24 => ?_) (fun c24 => ?_)
    · replace h := xif_f c24 h
      refine ev_aload_n 0 dX12_two_33 rfl rfl ?_
      refine ev_iload_n 1 dX12_two_34 rfl rfl ?_
      refine ev_iload_n 2 dX12_two_35 rfl rfl ?_
      refine ev_iload_n 3 dX12_two_36 rfl rfl ?_
      refine ev_iload 4 dX12_two_37 rfl ?_
      refine ev_iload 5 dX12_two_39 rfl ?_
      refine ev_iload 6 dX12_two_41 rfl ?_
      obtain ⟨q3, hq3, h⟩ := xbd_some h
      refine ev_callV (ci := 12) (rest := []) 6 (kX12_twoOf (E := E) (d := 3) (QQ := (fun v τ n' => v = some (.long q3) ∧ τ = xσ μ R ∧ n = n')) (Nat.le_refl _) hF hq3 (⟨rfl, rfl, rfl⟩)) my_X12_twoOf ⟨m_1813, m_1815, m_98⟩ cl_12 kd_61 (xl hF rfl) rfl rfl (Nat.le_of_ble_eq_true rfl) (Nat.le_trans (by decide) hd) (xlo (by decide) (Nat.le_trans (by decide) hd)) (Nat.zero_le _) (Nat.zero_le _) dX12_two_43 (fun v τ n' hv => ?_)
      obtain ⟨rfl, rfl, rfl⟩ := hv
      show Ev E (xcm E d 0 0 QQ) Y_X12_two 46 [(0, .ref (E.2.2.2 + iM)), (1, .int p0), (2, .int p1), (3, .int p2), (4, .int p3), (5, .int p4), (6, .int p5)] [.long q3] (xσ μ R) n 0 0
      cases h
      exact ev_lret rfl (hQ) dX12_two_46 (Nat.zero_le _) (Nat.zero_le _)
    · replace h := xif_t c24 h
      refine ev_ldc2 (v := (-1)) m_1692 dX12_two_27 ?_
      refine ev_goto (tgt := 46) dX12_two_30 (by decide) ?_
      cases h
      exact ev_lret rfl (hQ) dX12_two_46 (Nat.zero_le _) (Nat.zero_le _)
def fX12_feels_b6 (x1 : Int32) (x2 : Int32) (p0 : Int32) (p1 : Int32) (μ : xm) : Option ((Int32 × Int32) ⊕ (Int32)) := if 8 ≤ x2 then (some (.inr x1)) else (xbd (fX12_isOf p0 x2 μ) fun q4 => if q4 = 0 then (xlt (x1 + 0) fun x5 => xlt (x2 + 1) fun x6 => some (.inl (x5, x6))) else (xbd (xgI μ iM_cameAt 192 ((8 * p0) + x2)) fun v7 => xbd (xgI μ iM_cameAt 192 ((8 * p0) + p1)) fun v8 => if v7 ≤ v8 then (xlt (x1 + 0) fun x9 => xlt (x2 + 1) fun x10 => some (.inl (x9, x10))) else (xlt (x1 + 1) fun x11 => xlt (x2 + 1) fun x12 => some (.inl (x11, x12)))))
def fX12_feels_j155 (x27 : Int32) (p0 : Int32) (p1 : Int32) (p2 : Int32) (q13 : Int32) (μ25 : xm) : Option (xm) := xbd (xsI μ25 iM_facts 12 5 x27) fun μ28 => xbd (xsI μ28 iM_facts 12 6 q13) fun μ29 => xbd (xgI μ29 iM_minuteOf 24 p0) fun v30 => xbd (xsI μ29 iM_facts 12 7 (v30 / 60)) fun μ31 => xbd (xgI μ31 iM_dayOf 24 p0) fun v32 => xbd (xsI μ31 iM_facts 12 8 v32) fun μ33 => xbd (xsI μ33 iM_facts 12 9 p1) fun μ34 => xbd (xsI μ34 iM_facts 12 10 p2) fun μ35 => xbd (xgI μ35 iM_minuteOf 24 p0) fun v36 => xbd (xgI μ35 iM_worthOf 192 ((24 * p2) + (v36 / 60))) fun v37 => xbd (xsI μ35 iM_facts 12 11 v37) fun μ38 => some μ38
def fX12_feels (p0 : Int32) (p1 : Int32) (p2 : Int32) (μ : xm) : Option (xm) := xbd (xloop xfu (fun v => fX12_feels_b6 v.1 v.2 p0 p1 μ) (0, 0)) fun q13 => xbd (fX12_keepsAt p0 p1 p2 μ) fun q14 => xbd (xsI μ iM_facts 12 0 q14) fun μ15 => xbd (fX12_lateAt p0 p1 μ15) fun q16 => xbd (xsI μ15 iM_facts 12 1 q16) fun μ17 => xbd (fX12_lateAt p0 p2 μ17) fun q18 => xbd (xsI μ17 iM_facts 12 2 q18) fun μ19 => xbd (xgI μ19 iM_peopleOf 24 p0) fun v20 => xbd (fX12_bits v20) fun q21 => xbd (xsI μ19 iM_facts 12 3 q21) fun μ22 => xbd (fX12_beginsAt p0 μ22) fun q23 => xbd (xgI μ22 iM_minuteOf 24 p0) fun v24 => xbd (xsI μ22 iM_facts 12 4 (q23 - v24)) fun μ25 => xbd (fX12_keptBy p0 p1 μ25) fun q26 => if q26 = (-1) then (fX12_feels_j155 0 p0 p1 p2 q13 μ25) else (fX12_feels_j155 1 p0 p1 p2 q13 μ25)
set_option maxHeartbeats 4000000 in
set_option maxRecDepth 100000 in
theorem kX12_feels {E : xE} {d : Nat} {QQ : xP} (hd : 5 ≤ d) {p0 : Int32} {p1 : Int32} {p2 : Int32} {μ : xm} {R : xr} {n : Nat} (hF : xFin R n)  {res : xm} (h : fX12_feels p0 p1 p2 μ = some res) (hQ : QQ none (xσ res R) n) : xCon E d Y_X12_feels 0 0 [.ref (E.2.2.2 + iM), .int p0, .int p1, .int p2] (xσ μ R) n QQ := by
  refine xCon_of pn_RX12 (Nat.le_of_ble_eq_true rfl) (L0 := [(0, .ref (E.2.2.2 + iM)), (1, .int p0), (2, .int p1), (3, .int p2)]) rfl ?_
  unfold fX12_feels at h
  refine ev_iconst (v := 0) dX12_feels_0 (by decide) ?_
  refine xv_istore (L' := [(4, .int 0), (0, .ref (E.2.2.2 + iM)), (1, .int p0), (2, .int p1), (3, .int p2)]) rfl dX12_feels_1 (Nat.le_of_ble_eq_true rfl) rfl ?_
  refine ev_iconst (v := 0) dX12_feels_3 (by decide) ?_
  refine xv_istore (L' := [(5, .int 0), (4, .int 0), (0, .ref (E.2.2.2 + iM)), (1, .int p0), (2, .int p1), (3, .int p2)]) rfl dX12_feels_4 (Nat.le_of_ble_eq_true rfl) rfl ?_
  obtain ⟨q13, hq13, h⟩ := xbd_some h
  refine ev_sub (L' := [(0, .ref (E.2.2.2 + iM)), (1, .int p0), (2, .int p1), (3, .int p2), (4, .int 0), (5, .int 0)]) [2, 3, 4, 5, 1, 0] rfl ?_
  refine xloop_run (fun v => Ev E (xcm E d 0 0 QQ) Y_X12_feels 6 [(0, .ref (E.2.2.2 + iM)), (1, .int p0), (2, .int p1), (3, .int p2), (4, .int v.1), (5, .int v.2)] [] (xσ μ R) n 0 0) (fun v => Ev E (xcm E d 0 0 QQ) Y_X12_feels 65 [(0, .ref (E.2.2.2 + iM)), (1, .int p0), (2, .int p1), (3, .int p2), (4, .int v)] [] (xσ μ R) n 0 0) ?_ _ _ _ hq13 ?_
  · rintro ⟨x1, x2⟩ y3 h hk
    replace h : fX12_feels_b6 x1 x2 p0 p1 μ = some y3 := h
    show Ev E (xcm E d 0 0 QQ) Y_X12_feels 6 [(0, .ref (E.2.2.2 + iM)), (1, .int p0), (2, .int p1), (3, .int p2), (4, .int x1), (5, .int x2)] [] (xσ μ R) n 0 0
    unfold fX12_feels_b6 at h
    refine ev_iload 5 dX12_feels_6 rfl ?_
    refine ev_bipush (v := 8) dX12_feels_8 (by decide) ?_
    refine ev_icmp_ge (tgt := 65) dX12_feels_10 (by decide) (fun c10 => ?_) (fun c10 => ?_)
    · replace h := xif_t c10 h
      cases h
      replace hk := xel_r hk
      exact ev_sub [0, 1, 2, 3, 4] rfl (hk)
    · replace h := xif_f c10 h
      refine ev_iload 4 dX12_feels_13 rfl ?_
      refine ev_aload_n 0 dX12_feels_15 rfl rfl ?_
      refine ev_iload_n 1 dX12_feels_16 rfl rfl ?_
      refine ev_iload 5 dX12_feels_17 rfl ?_
      obtain ⟨q4, hq4, h⟩ := xbd_some h
      refine ev_callV (ci := 12) (rest := [.int x1]) 2 (kX12_isOf (E := E) (d := 1) (QQ := (fun v τ n' => v = some (.int q4) ∧ τ = xσ μ R ∧ n = n')) (Nat.le_refl _) hF hq4 (⟨rfl, rfl, rfl⟩)) my_X12_isOf ⟨m_1470, m_1472, m_40⟩ cl_12 kd_61 (xl hF rfl) rfl rfl (Nat.le_of_ble_eq_true rfl) (Nat.le_trans (by decide) hd) (xlo (by decide) (Nat.le_trans (by decide) hd)) (Nat.zero_le _) (Nat.zero_le _) dX12_feels_19 (fun v τ n' hv => ?_)
      obtain ⟨rfl, rfl, rfl⟩ := hv
      show Ev E (xcm E d 0 0 QQ) Y_X12_feels 22 [(0, .ref (E.2.2.2 + iM)), (1, .int p0), (2, .int p1), (3, .int p2), (4, .int x1), (5, .int x2)] [.int q4, .int x1] (xσ μ R) n 0 0
      refine ev_if_eq (tgt := 55) dX12_feels_22 (by decide) (fun c22 => ?_) (fun c22 => ?_)
      · replace h := xif_t c22 h
        refine ev_iconst (v := 0) dX12_feels_55 (by decide) ?_
        refine ev_iadd dX12_feels_56 ?_
        obtain ⟨x5, hx5, h⟩ := xlt_some h
        refine xv_istore (L' := [(4, .int x5), (0, .ref (E.2.2.2 + iM)), (1, .int p0), (2, .int p1), (3, .int p2), (5, .int x2)]) hx5 dX12_feels_57 (Nat.le_of_ble_eq_true rfl) rfl ?_
        obtain ⟨x6, hx6, h⟩ := xlt_some h
        refine ev_iinc (L' := [(5, .int x6), (4, .int x5), (0, .ref (E.2.2.2 + iM)), (1, .int p0), (2, .int p1), (3, .int p2)]) 5 dX12_feels_59 rfl ((by rfl : x2 + Int32.ofInt 1 = x2 + 1).trans hx6) (Nat.le_of_ble_eq_true rfl) rfl ?_
        refine ev_goto (tgt := 6) dX12_feels_62 (by decide) ?_
        cases h
        replace hk := xel_l hk
        exact ev_sub [2, 3, 4, 5, 1, 0] rfl (hk)
      · replace h := xif_f c22 h
        refine ev_aload_n 0 dX12_feels_25 rfl rfl ?_
        refine xv_getF (a := iM_cameAt) cl_12 lk_RX12_22 kd_61 (xl hF rfl) (fun _ => rfl) (fr_61_8 hF) dX12_feels_26 ?_
        refine ev_bipush (v := 8) dX12_feels_29 (by decide) ?_
        refine ev_iload_n 1 dX12_feels_31 rfl rfl ?_
        refine ev_imul dX12_feels_32 ?_
        refine ev_iload 5 dX12_feels_33 rfl ?_
        refine ev_iadd dX12_feels_35 ?_
        obtain ⟨v7, hv7, h⟩ := xbd_some h
        refine xv_iald kd_66 (xl hF rfl) hv7 dX12_feels_36 ?_
        refine ev_aload_n 0 dX12_feels_37 rfl rfl ?_
        refine xv_getF (a := iM_cameAt) cl_12 lk_RX12_22 kd_61 (xl hF rfl) (fun _ => rfl) (fr_61_8 hF) dX12_feels_38 ?_
        refine ev_bipush (v := 8) dX12_feels_41 (by decide) ?_
        refine ev_iload_n 1 dX12_feels_43 rfl rfl ?_
        refine ev_imul dX12_feels_44 ?_
        refine ev_iload_n 2 dX12_feels_45 rfl rfl ?_
        refine ev_iadd dX12_feels_46 ?_
        obtain ⟨v8, hv8, h⟩ := xbd_some h
        refine xv_iald kd_66 (xl hF rfl) hv8 dX12_feels_47 ?_
        refine ev_icmp_le (tgt := 55) dX12_feels_48 (by decide) (fun c48 => ?_) (fun c48 => ?_)
        · replace h := xif_t c48 h
          refine ev_iconst (v := 0) dX12_feels_55 (by decide) ?_
          refine ev_iadd dX12_feels_56 ?_
          obtain ⟨x9, hx9, h⟩ := xlt_some h
          refine xv_istore (L' := [(4, .int x9), (0, .ref (E.2.2.2 + iM)), (1, .int p0), (2, .int p1), (3, .int p2), (5, .int x2)]) hx9 dX12_feels_57 (Nat.le_of_ble_eq_true rfl) rfl ?_
          obtain ⟨x10, hx10, h⟩ := xlt_some h
          refine ev_iinc (L' := [(5, .int x10), (4, .int x9), (0, .ref (E.2.2.2 + iM)), (1, .int p0), (2, .int p1), (3, .int p2)]) 5 dX12_feels_59 rfl ((by rfl : x2 + Int32.ofInt 1 = x2 + 1).trans hx10) (Nat.le_of_ble_eq_true rfl) rfl ?_
          refine ev_goto (tgt := 6) dX12_feels_62 (by decide) ?_
          cases h
          replace hk := xel_l hk
          exact ev_sub [2, 3, 4, 5, 1, 0] rfl (hk)
        · replace h := xif_f c48 h
          refine ev_iconst (v := 1) dX12_feels_51 (by decide) ?_
          refine ev_goto (tgt := 56) dX12_feels_52 (by decide) ?_
          refine ev_iadd dX12_feels_56 ?_
          obtain ⟨x11, hx11, h⟩ := xlt_some h
          refine xv_istore (L' := [(4, .int x11), (0, .ref (E.2.2.2 + iM)), (1, .int p0), (2, .int p1), (3, .int p2), (5, .int x2)]) hx11 dX12_feels_57 (Nat.le_of_ble_eq_true rfl) rfl ?_
          obtain ⟨x12, hx12, h⟩ := xlt_some h
          refine ev_iinc (L' := [(5, .int x12), (4, .int x11), (0, .ref (E.2.2.2 + iM)), (1, .int p0), (2, .int p1), (3, .int p2)]) 5 dX12_feels_59 rfl ((by rfl : x2 + Int32.ofInt 1 = x2 + 1).trans hx12) (Nat.le_of_ble_eq_true rfl) rfl ?_
          refine ev_goto (tgt := 6) dX12_feels_62 (by decide) ?_
          cases h
          replace hk := xel_l hk
          exact ev_sub [2, 3, 4, 5, 1, 0] rfl (hk)
  · show Ev E (xcm E d 0 0 QQ) Y_X12_feels 65 [(0, .ref (E.2.2.2 + iM)), (1, .int p0), (2, .int p1), (3, .int p2), (4, .int q13)] [] (xσ μ R) n 0 0
    refine ev_aload_n 0 dX12_feels_65 rfl rfl ?_
    refine xv_getF (a := iM_facts) cl_12 lk_RX12_69 kd_61 (xl hF rfl) (fun _ => rfl) (fr_61_33 hF) dX12_feels_66 ?_
    refine ev_iconst (v := 0) dX12_feels_69 (by decide) ?_
    refine ev_aload_n 0 dX12_feels_70 rfl rfl ?_
    refine ev_iload_n 1 dX12_feels_71 rfl rfl ?_
    refine ev_iload_n 2 dX12_feels_72 rfl rfl ?_
    refine ev_iload_n 3 dX12_feels_73 rfl rfl ?_
    obtain ⟨q14, hq14, h⟩ := xbd_some h
    refine ev_callV (ci := 12) (rest := [.int 0, .ref (E.2.2.2 + iM_facts)]) 3 (kX12_keepsAt (E := E) (d := 0) (QQ := (fun v τ n' => v = some (.int q14) ∧ τ = xσ μ R ∧ n = n')) (Nat.le_refl _) hF hq14 (⟨rfl, rfl, rfl⟩)) my_X12_keepsAt ⟨m_1494, m_1496, m_44⟩ cl_12 kd_61 (xl hF rfl) rfl rfl (Nat.le_of_ble_eq_true rfl) (Nat.le_trans (by decide) hd) (xlo (by decide) (Nat.le_trans (by decide) hd)) (Nat.zero_le _) (Nat.zero_le _) dX12_feels_74 (fun v τ n' hv => ?_)
    obtain ⟨rfl, rfl, rfl⟩ := hv
    show Ev E (xcm E d 0 0 QQ) Y_X12_feels 77 [(0, .ref (E.2.2.2 + iM)), (1, .int p0), (2, .int p1), (3, .int p2), (4, .int q13)] [.int q14, .int 0, .ref (E.2.2.2 + iM_facts)] (xσ μ R) n 0 0
    obtain ⟨μ15, hμ15, h⟩ := xbd_some h
    refine xv_iast kd_81 (xl hF rfl) hμ15 dX12_feels_77 ?_
    refine ev_aload_n 0 dX12_feels_78 rfl rfl ?_
    refine xv_getF (a := iM_facts) cl_12 lk_RX12_69 kd_61 (xl hF rfl) (fun _ => rfl) (fr_61_33 hF) dX12_feels_79 ?_
    refine ev_iconst (v := 1) dX12_feels_82 (by decide) ?_
    refine ev_aload_n 0 dX12_feels_83 rfl rfl ?_
    refine ev_iload_n 1 dX12_feels_84 rfl rfl ?_
    refine ev_iload_n 2 dX12_feels_85 rfl rfl ?_
    obtain ⟨q16, hq16, h⟩ := xbd_some h
    refine ev_callV (ci := 12) (rest := [.int 1, .ref (E.2.2.2 + iM_facts)]) 2 (kX12_lateAt (E := E) (d := 0) (QQ := (fun v τ n' => v = some (.int q16) ∧ τ = xσ μ15 R ∧ n = n')) (Nat.le_refl _) hF hq16 (⟨rfl, rfl, rfl⟩)) my_X12_lateAt ⟨m_1506, m_1508, m_46⟩ cl_12 kd_61 (xl hF rfl) rfl rfl (Nat.le_of_ble_eq_true rfl) (Nat.le_trans (by decide) hd) (xlo (by decide) (Nat.le_trans (by decide) hd)) (Nat.zero_le _) (Nat.zero_le _) dX12_feels_86 (fun v τ n' hv => ?_)
    obtain ⟨rfl, rfl, rfl⟩ := hv
    show Ev E (xcm E d 0 0 QQ) Y_X12_feels 89 [(0, .ref (E.2.2.2 + iM)), (1, .int p0), (2, .int p1), (3, .int p2), (4, .int q13)] [.int q16, .int 1, .ref (E.2.2.2 + iM_facts)] (xσ μ15 R) n 0 0
    obtain ⟨μ17, hμ17, h⟩ := xbd_some h
    refine xv_iast kd_81 (xl hF rfl) hμ17 dX12_feels_89 ?_
    refine ev_aload_n 0 dX12_feels_90 rfl rfl ?_
    refine xv_getF (a := iM_facts) cl_12 lk_RX12_69 kd_61 (xl hF rfl) (fun _ => rfl) (fr_61_33 hF) dX12_feels_91 ?_
    refine ev_iconst (v := 2) dX12_feels_94 (by decide) ?_
    refine ev_aload_n 0 dX12_feels_95 rfl rfl ?_
    refine ev_iload_n 1 dX12_feels_96 rfl rfl ?_
    refine ev_iload_n 3 dX12_feels_97 rfl rfl ?_
    obtain ⟨q18, hq18, h⟩ := xbd_some h
    refine ev_callV (ci := 12) (rest := [.int 2, .ref (E.2.2.2 + iM_facts)]) 2 (kX12_lateAt (E := E) (d := 0) (QQ := (fun v τ n' => v = some (.int q18) ∧ τ = xσ μ17 R ∧ n = n')) (Nat.le_refl _) hF hq18 (⟨rfl, rfl, rfl⟩)) my_X12_lateAt ⟨m_1506, m_1508, m_46⟩ cl_12 kd_61 (xl hF rfl) rfl rfl (Nat.le_of_ble_eq_true rfl) (Nat.le_trans (by decide) hd) (xlo (by decide) (Nat.le_trans (by decide) hd)) (Nat.zero_le _) (Nat.zero_le _) dX12_feels_98 (fun v τ n' hv => ?_)
    obtain ⟨rfl, rfl, rfl⟩ := hv
    show Ev E (xcm E d 0 0 QQ) Y_X12_feels 101 [(0, .ref (E.2.2.2 + iM)), (1, .int p0), (2, .int p1), (3, .int p2), (4, .int q13)] [.int q18, .int 2, .ref (E.2.2.2 + iM_facts)] (xσ μ17 R) n 0 0
    obtain ⟨μ19, hμ19, h⟩ := xbd_some h
    refine xv_iast kd_81 (xl hF rfl) hμ19 dX12_feels_101 ?_
    refine ev_aload_n 0 dX12_feels_102 rfl rfl ?_
    refine xv_getF (a := iM_facts) cl_12 lk_RX12_69 kd_61 (xl hF rfl) (fun _ => rfl) (fr_61_33 hF) dX12_feels_103 ?_
    refine ev_iconst (v := 3) dX12_feels_106 (by decide) ?_
    refine ev_aload_n 0 dX12_feels_107 rfl rfl ?_
    refine xv_getF (a := iM_peopleOf) cl_12 lk_RX12_19 kd_61 (xl hF rfl) (fun _ => rfl) (fr_61_7 hF) dX12_feels_108 ?_
    refine ev_iload_n 1 dX12_feels_111 rfl rfl ?_
    obtain ⟨v20, hv20, h⟩ := xbd_some h
    refine xv_iald kd_65 (xl hF rfl) hv20 dX12_feels_112 ?_
    obtain ⟨q21, hq21, h⟩ := xbd_some h
    refine ev_callS (As := [.int v20]) (rest := [.int 3, .ref (E.2.2.2 + iM_facts)]) 1 (kX12_bits (E := E) (d := 0) (QQ := (fun v τ n' => v = some (.int q21) ∧ τ = xσ μ19 R ∧ n = n')) (Nat.le_refl _)  hq21 (⟨rfl, rfl, rfl⟩)) my_X12_bits ⟨m_1463, m_1464⟩ rfl rfl (Nat.le_of_ble_eq_true rfl) (Nat.le_trans (by decide) hd) (xlo (by decide) (Nat.le_trans (by decide) hd)) (Nat.zero_le _) (Nat.zero_le _) dX12_feels_113 (fun v τ n' hv => ?_)
    obtain ⟨rfl, rfl, rfl⟩ := hv
    show Ev E (xcm E d 0 0 QQ) Y_X12_feels 116 [(0, .ref (E.2.2.2 + iM)), (1, .int p0), (2, .int p1), (3, .int p2), (4, .int q13)] [.int q21, .int 3, .ref (E.2.2.2 + iM_facts)] (xσ μ19 R) n 0 0
    obtain ⟨μ22, hμ22, h⟩ := xbd_some h
    refine xv_iast kd_81 (xl hF rfl) hμ22 dX12_feels_116 ?_
    refine ev_aload_n 0 dX12_feels_117 rfl rfl ?_
    refine xv_getF (a := iM_facts) cl_12 lk_RX12_69 kd_61 (xl hF rfl) (fun _ => rfl) (fr_61_33 hF) dX12_feels_118 ?_
    refine ev_iconst (v := 4) dX12_feels_121 (by decide) ?_
    refine ev_aload_n 0 dX12_feels_122 rfl rfl ?_
    refine ev_iload_n 1 dX12_feels_123 rfl rfl ?_
    obtain ⟨q23, hq23, h⟩ := xbd_some h
    refine ev_callV (ci := 12) (rest := [.int 4, .ref (E.2.2.2 + iM_facts)]) 1 (kX12_beginsAt (E := E) (d := 2) (QQ := (fun v τ n' => v = some (.int q23) ∧ τ = xσ μ22 R ∧ n = n')) (Nat.le_refl _) hF hq23 (⟨rfl, rfl, rfl⟩)) my_X12_beginsAt ⟨m_1486, m_1488, m_43⟩ cl_12 kd_61 (xl hF rfl) rfl rfl (Nat.le_of_ble_eq_true rfl) (Nat.le_trans (by decide) hd) (xlo (by decide) (Nat.le_trans (by decide) hd)) (Nat.zero_le _) (Nat.zero_le _) dX12_feels_124 (fun v τ n' hv => ?_)
    obtain ⟨rfl, rfl, rfl⟩ := hv
    show Ev E (xcm E d 0 0 QQ) Y_X12_feels 127 [(0, .ref (E.2.2.2 + iM)), (1, .int p0), (2, .int p1), (3, .int p2), (4, .int q13)] [.int q23, .int 4, .ref (E.2.2.2 + iM_facts)] (xσ μ22 R) n 0 0
    refine ev_aload_n 0 dX12_feels_127 rfl rfl ?_
    refine xv_getF (a := iM_minuteOf) cl_12 lk_RX12_16 kd_61 (xl hF rfl) (fun _ => rfl) (fr_61_6 hF) dX12_feels_128 ?_
    refine ev_iload_n 1 dX12_feels_131 rfl rfl ?_
    obtain ⟨v24, hv24, h⟩ := xbd_some h
    refine xv_iald kd_64 (xl hF rfl) hv24 dX12_feels_132 ?_
    refine ev_isub dX12_feels_133 ?_
    obtain ⟨μ25, hμ25, h⟩ := xbd_some h
    refine xv_iast kd_81 (xl hF rfl) hμ25 dX12_feels_134 ?_
    refine ev_aload_n 0 dX12_feels_135 rfl rfl ?_
    refine xv_getF (a := iM_facts) cl_12 lk_RX12_69 kd_61 (xl hF rfl) (fun _ => rfl) (fr_61_33 hF) dX12_feels_136 ?_
    refine ev_iconst (v := 5) dX12_feels_139 (by decide) ?_
    refine ev_aload_n 0 dX12_feels_140 rfl rfl ?_
    refine ev_iload_n 1 dX12_feels_141 rfl rfl ?_
    refine ev_iload_n 2 dX12_feels_142 rfl rfl ?_
    obtain ⟨q26, hq26, h⟩ := xbd_some h
    refine ev_callV (ci := 12) (rest := [.int 5, .ref (E.2.2.2 + iM_facts)]) 2 (kX12_keptBy (E := E) (d := 4) (QQ := (fun v τ n' => v = some (.int q26) ∧ τ = xσ μ25 R ∧ n = n')) (Nat.le_refl _) hF hq26 (⟨rfl, rfl, rfl⟩)) my_X12_keptBy ⟨m_1502, m_1504, m_45⟩ cl_12 kd_61 (xl hF rfl) rfl rfl (Nat.le_of_ble_eq_true rfl) (Nat.le_trans (by decide) hd) (xlo (by decide) (Nat.le_trans (by decide) hd)) (Nat.zero_le _) (Nat.zero_le _) dX12_feels_143 (fun v τ n' hv => ?_)
    obtain ⟨rfl, rfl, rfl⟩ := hv
    show Ev E (xcm E d 0 0 QQ) Y_X12_feels 146 [(0, .ref (E.2.2.2 + iM)), (1, .int p0), (2, .int p1), (3, .int p2), (4, .int q13)] [.int q26, .int 5, .ref (E.2.2.2 + iM_facts)] (xσ μ25 R) n 0 0
    refine ev_iconst (v := (-1)) dX12_feels_146 (by decide) ?_
    have j155 : ∀ (x27 : Int32), fX12_feels_j155 x27 p0 p1 p2 q13 μ25 = some res → Ev E (xcm E d 0 0 QQ) Y_X12_feels 155 [(0, .ref (E.2.2.2 + iM)), (1, .int p0), (2, .int p1), (3, .int p2), (4, .int q13)] [.int x27, .int 5, .ref (E.2.2.2 + iM_facts)] (xσ μ25 R) n 0 0 := by
      intro x27 h
      unfold fX12_feels_j155 at h
      obtain ⟨μ28, hμ28, h⟩ := xbd_some h
      refine xv_iast kd_81 (xl hF rfl) hμ28 dX12_feels_155 ?_
      refine ev_aload_n 0 dX12_feels_156 rfl rfl ?_
      refine xv_getF (a := iM_facts) cl_12 lk_RX12_69 kd_61 (xl hF rfl) (fun _ => rfl) (fr_61_33 hF) dX12_feels_157 ?_
      refine ev_bipush (v := 6) dX12_feels_160 (by decide) ?_
      refine ev_iload 4 dX12_feels_162 rfl ?_
      obtain ⟨μ29, hμ29, h⟩ := xbd_some h
      refine xv_iast kd_81 (xl hF rfl) hμ29 dX12_feels_164 ?_
      refine ev_aload_n 0 dX12_feels_165 rfl rfl ?_
      refine xv_getF (a := iM_facts) cl_12 lk_RX12_69 kd_61 (xl hF rfl) (fun _ => rfl) (fr_61_33 hF) dX12_feels_166 ?_
      refine ev_bipush (v := 7) dX12_feels_169 (by decide) ?_
      refine ev_aload_n 0 dX12_feels_171 rfl rfl ?_
      refine xv_getF (a := iM_minuteOf) cl_12 lk_RX12_16 kd_61 (xl hF rfl) (fun _ => rfl) (fr_61_6 hF) dX12_feels_172 ?_
      refine ev_iload_n 1 dX12_feels_175 rfl rfl ?_
      obtain ⟨v30, hv30, h⟩ := xbd_some h
      refine xv_iald kd_64 (xl hF rfl) hv30 dX12_feels_176 ?_
      refine ev_bipush (v := 60) dX12_feels_177 (by decide) ?_
      refine ev_idiv dX12_feels_179 (by decide) ?_
      obtain ⟨μ31, hμ31, h⟩ := xbd_some h
      refine xv_iast kd_81 (xl hF rfl) hμ31 dX12_feels_180 ?_
      refine ev_aload_n 0 dX12_feels_181 rfl rfl ?_
      refine xv_getF (a := iM_facts) cl_12 lk_RX12_69 kd_61 (xl hF rfl) (fun _ => rfl) (fr_61_33 hF) dX12_feels_182 ?_
      refine ev_bipush (v := 8) dX12_feels_185 (by decide) ?_
      refine ev_aload_n 0 dX12_feels_187 rfl rfl ?_
      refine xv_getF (a := iM_dayOf) cl_12 lk_RX12_13 kd_61 (xl hF rfl) (fun _ => rfl) (fr_61_5 hF) dX12_feels_188 ?_
      refine ev_iload_n 1 dX12_feels_191 rfl rfl ?_
      obtain ⟨v32, hv32, h⟩ := xbd_some h
      refine xv_iald kd_63 (xl hF rfl) hv32 dX12_feels_192 ?_
      obtain ⟨μ33, hμ33, h⟩ := xbd_some h
      refine xv_iast kd_81 (xl hF rfl) hμ33 dX12_feels_193 ?_
      refine ev_aload_n 0 dX12_feels_194 rfl rfl ?_
      refine xv_getF (a := iM_facts) cl_12 lk_RX12_69 kd_61 (xl hF rfl) (fun _ => rfl) (fr_61_33 hF) dX12_feels_195 ?_
      refine ev_bipush (v := 9) dX12_feels_198 (by decide) ?_
      refine ev_iload_n 2 dX12_feels_200 rfl rfl ?_
      obtain ⟨μ34, hμ34, h⟩ := xbd_some h
      refine xv_iast kd_81 (xl hF rfl) hμ34 dX12_feels_201 ?_
      refine ev_aload_n 0 dX12_feels_202 rfl rfl ?_
      refine xv_getF (a := iM_facts) cl_12 lk_RX12_69 kd_61 (xl hF rfl) (fun _ => rfl) (fr_61_33 hF) dX12_feels_203 ?_
      refine ev_bipush (v := 10) dX12_feels_206 (by decide) ?_
      refine ev_iload_n 3 dX12_feels_208 rfl rfl ?_
      obtain ⟨μ35, hμ35, h⟩ := xbd_some h
      refine xv_iast kd_81 (xl hF rfl) hμ35 dX12_feels_209 ?_
      refine ev_aload_n 0 dX12_feels_210 rfl rfl ?_
      refine xv_getF (a := iM_facts) cl_12 lk_RX12_69 kd_61 (xl hF rfl) (fun _ => rfl) (fr_61_33 hF) dX12_feels_211 ?_
      refine ev_bipush (v := 11) dX12_feels_214 (by decide) ?_
      refine ev_aload_n 0 dX12_feels_216 rfl rfl ?_
      refine xv_getF (a := iM_worthOf) cl_12 lk_RX12_7 kd_61 (xl hF rfl) (fun _ => rfl) (fr_61_4 hF) dX12_feels_217 ?_
      refine ev_bipush (v := 24) dX12_feels_220 (by decide) ?_
      refine ev_iload_n 3 dX12_feels_222 rfl rfl ?_
      refine ev_imul dX12_feels_223 ?_
      refine ev_aload_n 0 dX12_feels_224 rfl rfl ?_
      refine xv_getF (a := iM_minuteOf) cl_12 lk_RX12_16 kd_61 (xl hF rfl) (fun _ => rfl) (fr_61_6 hF) dX12_feels_225 ?_
      refine ev_iload_n 1 dX12_feels_228 rfl rfl ?_
      obtain ⟨v36, hv36, h⟩ := xbd_some h
      refine xv_iald kd_64 (xl hF rfl) hv36 dX12_feels_229 ?_
      refine ev_bipush (v := 60) dX12_feels_230 (by decide) ?_
      refine ev_idiv dX12_feels_232 (by decide) ?_
      refine ev_iadd dX12_feels_233 ?_
      obtain ⟨v37, hv37, h⟩ := xbd_some h
      refine xv_iald kd_62 (xl hF rfl) hv37 dX12_feels_234 ?_
      obtain ⟨μ38, hμ38, h⟩ := xbd_some h
      refine xv_iast kd_81 (xl hF rfl) hμ38 dX12_feels_235 ?_
      cases h
      exact ev_vret rfl (hQ) dX12_feels_236 (Nat.zero_le _) (Nat.zero_le _)
    refine ev_icmp_ne (tgt := 154) dX12_feels_147 (by decide) (fun c147 => ?_) (fun c147 => ?_)
    · replace h := xif_f c147 h
      refine ev_iconst (v := 1) dX12_feels_154 (by decide) ?_
      exact ev_sub [0, 1, 2, 3, 4] rfl (j155 _ h)
    · replace h := xif_t c147 h
      refine ev_iconst (v := 0) dX12_feels_150 (by decide) ?_
      refine ev_goto (tgt := 155) dX12_feels_151 (by decide) ?_
      exact ev_sub [0, 1, 2, 3, 4] rfl (j155 _ h)
def fX12_kept (p0 : Int32) (p1 : Int32) (p2 : Int32) (μ : xm) : Option (Int32) := xbd (fX12_isOf p0 p1 μ) fun q1 => if q1 = 0 then (some (-1)) else (xbd (xgI μ iM_cameAt 192 ((8 * p0) + p1)) fun v2 => if v2 = (-1) then (some (-1)) else (xbd (fX12_in p2 0 1) fun q3 => if q3 = 0 then (some (-1)) else (xbd (fX12_keptBy p0 p1 μ) fun q4 => if q4 = (-1) then (some (-2)) else (if p2 = 0 then (some q4) else (xbd (fX12_keeperOf q4 μ) fun q5 => some q5)))))
set_option maxHeartbeats 4000000 in
set_option maxRecDepth 100000 in
theorem kX12_kept {E : xE} {d : Nat} {QQ : xP} (hd : 5 ≤ d) {p0 : Int32} {p1 : Int32} {p2 : Int32} {μ : xm} {R : xr} {n : Nat} (hF : xFin R n)  {res : Int32} (h : fX12_kept p0 p1 p2 μ = some res) (hQ : QQ (some (.int res)) (xσ μ R) n) : xCon E d Y_X12_kept 0 0 [.ref (E.2.2.2 + iM), .int p0, .int p1, .int p2] (xσ μ R) n QQ := by
  refine xCon_of pn_RX12 (Nat.le_of_ble_eq_true rfl) (L0 := [(0, .ref (E.2.2.2 + iM)), (1, .int p0), (2, .int p1), (3, .int p2)]) rfl ?_
  unfold fX12_kept at h
  refine ev_aload_n 0 dX12_kept_0 rfl rfl ?_
  refine ev_iload_n 1 dX12_kept_1 rfl rfl ?_
  refine ev_iload_n 2 dX12_kept_2 rfl rfl ?_
  obtain ⟨q1, hq1, h⟩ := xbd_some h
  refine ev_callV (ci := 12) (rest := []) 2 (kX12_isOf (E := E) (d := 1) (QQ := (fun v τ n' => v = some (.int q1) ∧ τ = xσ μ R ∧ n = n')) (Nat.le_refl _) hF hq1 (⟨rfl, rfl, rfl⟩)) my_X12_isOf ⟨m_1470, m_1472, m_40⟩ cl_12 kd_61 (xl hF rfl) rfl rfl (Nat.le_of_ble_eq_true rfl) (Nat.le_trans (by decide) hd) (xlo (by decide) (Nat.le_trans (by decide) hd)) (Nat.zero_le _) (Nat.zero_le _) dX12_kept_3 (fun v τ n' hv => ?_)
  obtain ⟨rfl, rfl, rfl⟩ := hv
  show Ev E (xcm E d 0 0 QQ) Y_X12_kept 6 [(0, .ref (E.2.2.2 + iM)), (1, .int p0), (2, .int p1), (3, .int p2)] [.int q1] (xσ μ R) n 0 0
  refine ev_if_eq (tgt := 33) dX12_kept_6 (by decide) (fun c6 => ?_) (fun c6 => ?_)
  · replace h := xif_t c6 h
    refine ev_iconst (v := (-1)) dX12_kept_33 (by decide) ?_
    cases h
    exact ev_iret rfl (hQ) dX12_kept_34 (Nat.zero_le _) (Nat.zero_le _)
  · replace h := xif_f c6 h
    refine ev_aload_n 0 dX12_kept_9 rfl rfl ?_
    refine xv_getF (a := iM_cameAt) cl_12 lk_RX12_22 kd_61 (xl hF rfl) (fun _ => rfl) (fr_61_8 hF) dX12_kept_10 ?_
    refine ev_bipush (v := 8) dX12_kept_13 (by decide) ?_
    refine ev_iload_n 1 dX12_kept_15 rfl rfl ?_
    refine ev_imul dX12_kept_16 ?_
    refine ev_iload_n 2 dX12_kept_17 rfl rfl ?_
    refine ev_iadd dX12_kept_18 ?_
    obtain ⟨v2, hv2, h⟩ := xbd_some h
    refine xv_iald kd_66 (xl hF rfl) hv2 dX12_kept_19 ?_
    refine ev_iconst (v := (-1)) dX12_kept_20 (by decide) ?_
    refine ev_icmp_eq (tgt := 33) dX12_kept_21 (by decide) (fun c21 => ?_) (fun c21 => ?_)
    · replace h := xif_t c21 h
      refine ev_iconst (v := (-1)) dX12_kept_33 (by decide) ?_
      cases h
      exact ev_iret rfl (hQ) dX12_kept_34 (Nat.zero_le _) (Nat.zero_le _)
    · replace h := xif_f c21 h
      refine ev_iload_n 3 dX12_kept_24 rfl rfl ?_
      refine ev_iconst (v := 0) dX12_kept_25 (by decide) ?_
      refine ev_iconst (v := 1) dX12_kept_26 (by decide) ?_
      obtain ⟨q3, hq3, h⟩ := xbd_some h
      refine ev_callS (As := [.int p2, .int 0, .int 1]) (rest := []) 3 (kX12_in (E := E) (d := 0) (QQ := (fun v τ n' => v = some (.int q3) ∧ τ = xσ μ R ∧ n = n')) (Nat.le_refl _)  hq3 (⟨rfl, rfl, rfl⟩)) my_X12_in ⟨m_1449, m_1450⟩ rfl rfl (Nat.le_of_ble_eq_true rfl) (Nat.le_trans (by decide) hd) (xlo (by decide) (Nat.le_trans (by decide) hd)) (Nat.zero_le _) (Nat.zero_le _) dX12_kept_27 (fun v τ n' hv => ?_)
      obtain ⟨rfl, rfl, rfl⟩ := hv
      show Ev E (xcm E d 0 0 QQ) Y_X12_kept 30 [(0, .ref (E.2.2.2 + iM)), (1, .int p0), (2, .int p1), (3, .int p2)] [.int q3] (xσ μ R) n 0 0
      refine ev_if_ne (tgt := 35) dX12_kept_30 (by decide) (fun c30 => ?_) (fun c30 => ?_)
      · replace h := xif_f c30 h
        refine ev_aload_n 0 dX12_kept_35 rfl rfl ?_
        refine ev_iload_n 1 dX12_kept_36 rfl rfl ?_
        refine ev_iload_n 2 dX12_kept_37 rfl rfl ?_
        obtain ⟨q4, hq4, h⟩ := xbd_some h
        refine ev_callV (ci := 12) (rest := []) 2 (kX12_keptBy (E := E) (d := 4) (QQ := (fun v τ n' => v = some (.int q4) ∧ τ = xσ μ R ∧ n = n')) (Nat.le_refl _) hF hq4 (⟨rfl, rfl, rfl⟩)) my_X12_keptBy ⟨m_1502, m_1504, m_45⟩ cl_12 kd_61 (xl hF rfl) rfl rfl (Nat.le_of_ble_eq_true rfl) (Nat.le_trans (by decide) hd) (xlo (by decide) (Nat.le_trans (by decide) hd)) (Nat.zero_le _) (Nat.zero_le _) dX12_kept_38 (fun v τ n' hv => ?_)
        obtain ⟨rfl, rfl, rfl⟩ := hv
        show Ev E (xcm E d 0 0 QQ) Y_X12_kept 41 [(0, .ref (E.2.2.2 + iM)), (1, .int p0), (2, .int p1), (3, .int p2)] [.int q4] (xσ μ R) n 0 0
        refine xv_istore (L' := [(4, .int q4), (0, .ref (E.2.2.2 + iM)), (1, .int p0), (2, .int p1), (3, .int p2)]) rfl dX12_kept_41 (Nat.le_of_ble_eq_true rfl) rfl ?_
        refine ev_iload 0 dX12_kept_43 rfl ?_
        refine ev_iconst (v := (-1)) dX12_kept_45 (by decide) ?_
        refine ev_icmp_ne (tgt := 54) dX12_kept_46 (by decide) (fun c46 => ?_) (fun c46 => ?_)
        · replace h := xif_f c46 h
          refine ev_iload_n 4 dX12_kept_54 rfl rfl ?_
          refine ev_if_ne (tgt := 63) dX12_kept_55 (by decide) (fun c55 => ?_) (fun c55 => ?_)
          · replace h := xif_f c55 h
            refine ev_aload_n 1 dX12_kept_63 rfl rfl ?_
            refine ev_iload 0 dX12_kept_64 rfl ?_
            obtain ⟨q5, hq5, h⟩ := xbd_some h
            refine ev_callV (ci := 12) (rest := []) 1 (kX12_keeperOf (E := E) (d := 2) (QQ := (fun v τ n' => v = some (.int q5) ∧ τ = xσ μ R ∧ n = n')) (Nat.le_refl _) hF hq5 (⟨rfl, rfl, rfl⟩)) my_X12_keeperOf ⟨m_1514, m_1516, m_48⟩ cl_12 kd_61 (xl hF rfl) rfl rfl (Nat.le_of_ble_eq_true rfl) (Nat.le_trans (by decide) hd) (xlo (by decide) (Nat.le_trans (by decide) hd)) (Nat.zero_le _) (Nat.zero_le _) dX12_kept_66 (fun v τ n' hv => ?_)
            obtain ⟨rfl, rfl, rfl⟩ := hv
            show Ev E (xcm E d 0 0 QQ) Y_X12_kept 69 [(4, .int q4), (0, .ref (E.2.2.2 + iM)), (1, .int p0), (2, .int p1), (3, .int p2)] [.int q5] (xσ μ R) n 0 0
            cases h
            exact ev_iret rfl (hQ) dX12_kept_69 (Nat.zero_le _) (Nat.zero_le _)
          · replace h := xif_t c55 h
            refine ev_iload 0 dX12_kept_58 rfl ?_
            refine ev_goto (tgt := 69) dX12_kept_60 (by decide) ?_
            cases h
            exact ev_iret rfl (hQ) dX12_kept_69 (Nat.zero_le _) (Nat.zero_le _)
        · replace h := xif_t c46 h
          refine ev_bipush (v := (-2)) dX12_kept_49 (by decide) ?_
          refine ev_goto (tgt := 69) dX12_kept_51 (by decide) ?_
          cases h
          exact ev_iret rfl (hQ) dX12_kept_69 (Nat.zero_le _) (Nat.zero_le _)
      · replace h := xif_t c30 h
        refine ev_iconst (v := (-1)) dX12_kept_33 (by decide) ?_
        cases h
        exact ev_iret rfl (hQ) dX12_kept_34 (Nat.zero_le _) (Nat.zero_le _)
def fX12_readsCompared_j52 (x3 : Int32) (q1 : (Int32 × xm)) : Option (Int32 × xm) := if x3 = (-1) then (xbd (fX12_wrongAt 1 (q1.2.1 iM 12) q1.2) fun q8 => xbd (xz q8.1) fun z9 => some (z9, q8.2)) else (xlt (xpI q1.2 iM 12 ((q1.2.1 iM 12) + 1)) fun μ4 => xbd (fX12_readsSum μ4) fun q5 => if q5.1 = 0 then (some (0, q5.2)) else (xbd (fX12_notes x3 0 q5.2) fun q6 => xbd (fX12_endsPiece q6) fun q7 => some (1, q7)))
def fX12_readsCompared (μ : xm) : Option (Int32 × xm) := xbd (fX12_readsSum μ) fun q1 => if q1.1 = 0 then (some (0, q1.2)) else (xbd (fX12_here q1.2) fun q2 => if q2 = 60 then (fX12_readsCompared_j52 7 q1) else (xbd (fX12_here q1.2) fun q10 => if q10 = 62 then (fX12_readsCompared_j52 8 q1) else (xbd (fX12_here q1.2) fun q11 => if q11 = 61 then (fX12_readsCompared_j52 9 q1) else (fX12_readsCompared_j52 (-1) q1))))
set_option maxHeartbeats 4000000 in
set_option maxRecDepth 100000 in
theorem kX12_readsCompared {E : xE} {d : Nat} {QQ : xP} (hd : 5 ≤ d)  {μ : xm} {R : xr} {n : Nat} (hF : xFin R n)  {res : Int32 × xm} (h : fX12_readsCompared μ = some res) (hQ : QQ (some (.int res.1)) (xσ res.2 R) n) : xCon E d Y_X12_readsCompared 0 0 [.ref (E.2.2.2 + iM)] (xσ μ R) n QQ := by
  refine xCon_of pn_RX12 (Nat.le_of_ble_eq_true rfl) (L0 := [(0, .ref (E.2.2.2 + iM))]) rfl ?_
  unfold fX12_readsCompared at h
  refine ev_aload_n 0 dX12_readsCompared_0 rfl rfl ?_
  obtain ⟨q1, hq1, h⟩ := xbd_some h
  refine ev_callV (ci := 12) (rest := []) 0 (kX12_readsSum (E := E) (d := 4) (QQ := (fun v τ n' => v = some (.int q1.1) ∧ τ = xσ q1.2 R ∧ n = n')) (Nat.le_refl _) hF hq1 (⟨rfl, rfl, rfl⟩)) my_X12_readsSum ⟨m_1542, m_1544, m_53⟩ cl_12 kd_61 (xl hF rfl) rfl rfl (Nat.le_of_ble_eq_true rfl) (Nat.le_trans (by decide) hd) (xlo (by decide) (Nat.le_trans (by decide) hd)) (Nat.zero_le _) (Nat.zero_le _) dX12_readsCompared_1 (fun v τ n' hv => ?_)
  obtain ⟨rfl, rfl, rfl⟩ := hv
  show Ev E (xcm E d 0 0 QQ) Y_X12_readsCompared 4 [(0, .ref (E.2.2.2 + iM))] [.int q1.1] (xσ q1.2 R) n 0 0
  refine ev_if_ne (tgt := 9) dX12_readsCompared_4 (by decide) (fun c4 => ?_) (fun c4 => ?_)
  · replace h := xif_f c4 h
    refine ev_aload_n 0 dX12_readsCompared_9 rfl rfl ?_
    obtain ⟨q2, hq2, h⟩ := xbd_some h
    refine ev_callV (ci := 12) (rest := []) 0 (kX12_here (E := E) (d := 0) (QQ := (fun v τ n' => v = some (.int q2) ∧ τ = xσ q1.2 R ∧ n = n')) (Nat.le_refl _) hF hq2 (⟨rfl, rfl, rfl⟩)) my_X12_here ⟨m_1534, m_1536, m_51⟩ cl_12 kd_61 (xl hF rfl) rfl rfl (Nat.le_of_ble_eq_true rfl) (Nat.le_trans (by decide) hd) (xlo (by decide) (Nat.le_trans (by decide) hd)) (Nat.zero_le _) (Nat.zero_le _) dX12_readsCompared_10 (fun v τ n' hv => ?_)
    obtain ⟨rfl, rfl, rfl⟩ := hv
    show Ev E (xcm E d 0 0 QQ) Y_X12_readsCompared 13 [(0, .ref (E.2.2.2 + iM))] [.int q2] (xσ q1.2 R) n 0 0
    refine ev_bipush (v := 60) dX12_readsCompared_13 (by decide) ?_
    have j52 : ∀ (x3 : Int32), fX12_readsCompared_j52 x3 q1 = some res → Ev E (xcm E d 0 0 QQ) Y_X12_readsCompared 52 [(0, .ref (E.2.2.2 + iM))] [.int x3] (xσ q1.2 R) n 0 0 := by
      intro x3 h
      unfold fX12_readsCompared_j52 at h
      refine xv_istore_n (L' := [(1, .int x3), (0, .ref (E.2.2.2 + iM))]) rfl dX12_readsCompared_52 rfl (Nat.le_of_ble_eq_true rfl) rfl ?_
      refine ev_iload_n 0 dX12_readsCompared_53 rfl rfl ?_
      refine ev_iconst (v := (-1)) dX12_readsCompared_54 (by decide) ?_
      refine ev_icmp_ne (tgt := 68) dX12_readsCompared_55 (by decide) (fun c55 => ?_) (fun c55 => ?_)
      · replace h := xif_f c55 h
        refine ev_aload_n 1 dX12_readsCompared_68 rfl rfl ?_
        refine ev_aload_n 1 dX12_readsCompared_69 rfl rfl ?_
        refine xv_getI cl_12 lk_RX12_210 kd_61 (xl hF rfl) (fun _ => rfl) dX12_readsCompared_70 ?_
        refine ev_iconst (v := 1) dX12_readsCompared_73 (by decide) ?_
        refine ev_iadd dX12_readsCompared_74 ?_
        obtain ⟨μ4, hμ4, h⟩ := xlt_some h
        refine xv_putI cl_12 lk_RX12_210 rfl kd_61 (xl hF rfl) rfl rfl (fun _ => rfl) hμ4 dX12_readsCompared_75 ?_
        refine ev_aload_n 1 dX12_readsCompared_78 rfl rfl ?_
        obtain ⟨q5, hq5, h⟩ := xbd_some h
        refine ev_callV (ci := 12) (rest := []) 0 (kX12_readsSum (E := E) (d := 4) (QQ := (fun v τ n' => v = some (.int q5.1) ∧ τ = xσ q5.2 R ∧ n = n')) (Nat.le_refl _) hF hq5 (⟨rfl, rfl, rfl⟩)) my_X12_readsSum ⟨m_1542, m_1544, m_53⟩ cl_12 kd_61 (xl hF rfl) rfl rfl (Nat.le_of_ble_eq_true rfl) (Nat.le_trans (by decide) hd) (xlo (by decide) (Nat.le_trans (by decide) hd)) (Nat.zero_le _) (Nat.zero_le _) dX12_readsCompared_79 (fun v τ n' hv => ?_)
        obtain ⟨rfl, rfl, rfl⟩ := hv
        show Ev E (xcm E d 0 0 QQ) Y_X12_readsCompared 82 [(1, .int x3), (0, .ref (E.2.2.2 + iM))] [.int q5.1] (xσ q5.2 R) n 0 0
        refine ev_if_ne (tgt := 87) dX12_readsCompared_82 (by decide) (fun c82 => ?_) (fun c82 => ?_)
        · replace h := xif_f c82 h
          refine ev_aload_n 1 dX12_readsCompared_87 rfl rfl ?_
          refine ev_iload_n 0 dX12_readsCompared_88 rfl rfl ?_
          refine ev_iconst (v := 0) dX12_readsCompared_89 (by decide) ?_
          obtain ⟨q6, hq6, h⟩ := xbd_some h
          refine ev_callV (ci := 12) (rest := []) 2 (kX12_notes (E := E) (d := 0) (QQ := (fun v τ n' => v = none ∧ τ = xσ q6 R ∧ n = n')) (Nat.le_refl _) hF hq6 (⟨rfl, rfl, rfl⟩)) my_X12_notes ⟨m_1563, m_1565, m_58⟩ cl_12 kd_61 (xl hF rfl) rfl rfl (Nat.le_of_ble_eq_true rfl) (Nat.le_trans (by decide) hd) (xlo (by decide) (Nat.le_trans (by decide) hd)) (Nat.zero_le _) (Nat.zero_le _) dX12_readsCompared_90 (fun v τ n' hv => ?_)
          obtain ⟨rfl, rfl, rfl⟩ := hv
          show Ev E (xcm E d 0 0 QQ) Y_X12_readsCompared 93 [(1, .int x3), (0, .ref (E.2.2.2 + iM))] [] (xσ q6 R) n 0 0
          refine ev_aload_n 1 dX12_readsCompared_93 rfl rfl ?_
          obtain ⟨q7, hq7, h⟩ := xbd_some h
          refine ev_callV (ci := 12) (rest := []) 0 (kX12_endsPiece (E := E) (d := 1) (QQ := (fun v τ n' => v = none ∧ τ = xσ q7 R ∧ n = n')) (Nat.le_refl _) hF hq7 (⟨rfl, rfl, rfl⟩)) my_X12_endsPiece ⟨m_1593, m_1595, m_64⟩ cl_12 kd_61 (xl hF rfl) rfl rfl (Nat.le_of_ble_eq_true rfl) (Nat.le_trans (by decide) hd) (xlo (by decide) (Nat.le_trans (by decide) hd)) (Nat.zero_le _) (Nat.zero_le _) dX12_readsCompared_94 (fun v τ n' hv => ?_)
          obtain ⟨rfl, rfl, rfl⟩ := hv
          show Ev E (xcm E d 0 0 QQ) Y_X12_readsCompared 97 [(1, .int x3), (0, .ref (E.2.2.2 + iM))] [] (xσ q7 R) n 0 0
          refine ev_iconst (v := 1) dX12_readsCompared_97 (by decide) ?_
          cases h
          exact ev_zret rfl (Or.inr rfl) (hQ) dX12_readsCompared_98 (Nat.zero_le _) (Nat.zero_le _)
        · replace h := xif_t c82 h
          refine ev_iconst (v := 0) dX12_readsCompared_85 (by decide) ?_
          cases h
          exact ev_zret rfl (Or.inl rfl) (hQ) dX12_readsCompared_86 (Nat.zero_le _) (Nat.zero_le _)
      · replace h := xif_t c55 h
        refine ev_aload_n 1 dX12_readsCompared_58 rfl rfl ?_
        refine ev_iconst (v := 1) dX12_readsCompared_59 (by decide) ?_
        refine ev_aload_n 1 dX12_readsCompared_60 rfl rfl ?_
        refine xv_getI cl_12 lk_RX12_210 kd_61 (xl hF rfl) (fun _ => rfl) dX12_readsCompared_61 ?_
        obtain ⟨q8, hq8, h⟩ := xbd_some h
        refine ev_callV (ci := 12) (rest := []) 2 (kX12_wrongAt (E := E) (d := 0) (QQ := (fun v τ n' => v = some (.int q8.1) ∧ τ = xσ q8.2 R ∧ n = n')) (Nat.le_refl _) hF hq8 (⟨rfl, rfl, rfl⟩)) my_X12_wrongAt ⟨m_1538, m_1540, m_52⟩ cl_12 kd_61 (xl hF rfl) rfl rfl (Nat.le_of_ble_eq_true rfl) (Nat.le_trans (by decide) hd) (xlo (by decide) (Nat.le_trans (by decide) hd)) (Nat.zero_le _) (Nat.zero_le _) dX12_readsCompared_64 (fun v τ n' hv => ?_)
        obtain ⟨rfl, rfl, rfl⟩ := hv
        show Ev E (xcm E d 0 0 QQ) Y_X12_readsCompared 67 [(1, .int x3), (0, .ref (E.2.2.2 + iM))] [.int q8.1] (xσ q8.2 R) n 0 0
        obtain ⟨z9, hz9, h⟩ := xbd_some h
        obtain ⟨hzz9, hez9⟩ := xz_some hz9
        rw [hez9]
        cases h
        exact ev_zret rfl hzz9 (hQ) dX12_readsCompared_67 (Nat.zero_le _) (Nat.zero_le _)
    refine ev_icmp_ne (tgt := 23) dX12_readsCompared_15 (by decide) (fun c15 => ?_) (fun c15 => ?_)
    · replace h := xif_f c15 h
      refine ev_aload_n 0 dX12_readsCompared_23 rfl rfl ?_
      obtain ⟨q10, hq10, h⟩ := xbd_some h
      refine ev_callV (ci := 12) (rest := []) 0 (kX12_here (E := E) (d := 0) (QQ := (fun v τ n' => v = some (.int q10) ∧ τ = xσ q1.2 R ∧ n = n')) (Nat.le_refl _) hF hq10 (⟨rfl, rfl, rfl⟩)) my_X12_here ⟨m_1534, m_1536, m_51⟩ cl_12 kd_61 (xl hF rfl) rfl rfl (Nat.le_of_ble_eq_true rfl) (Nat.le_trans (by decide) hd) (xlo (by decide) (Nat.le_trans (by decide) hd)) (Nat.zero_le _) (Nat.zero_le _) dX12_readsCompared_24 (fun v τ n' hv => ?_)
      obtain ⟨rfl, rfl, rfl⟩ := hv
      show Ev E (xcm E d 0 0 QQ) Y_X12_readsCompared 27 [(0, .ref (E.2.2.2 + iM))] [.int q10] (xσ q1.2 R) n 0 0
      refine ev_bipush (v := 62) dX12_readsCompared_27 (by decide) ?_
      refine ev_icmp_ne (tgt := 37) dX12_readsCompared_29 (by decide) (fun c29 => ?_) (fun c29 => ?_)
      · replace h := xif_f c29 h
        refine ev_aload_n 0 dX12_readsCompared_37 rfl rfl ?_
        obtain ⟨q11, hq11, h⟩ := xbd_some h
        refine ev_callV (ci := 12) (rest := []) 0 (kX12_here (E := E) (d := 0) (QQ := (fun v τ n' => v = some (.int q11) ∧ τ = xσ q1.2 R ∧ n = n')) (Nat.le_refl _) hF hq11 (⟨rfl, rfl, rfl⟩)) my_X12_here ⟨m_1534, m_1536, m_51⟩ cl_12 kd_61 (xl hF rfl) rfl rfl (Nat.le_of_ble_eq_true rfl) (Nat.le_trans (by decide) hd) (xlo (by decide) (Nat.le_trans (by decide) hd)) (Nat.zero_le _) (Nat.zero_le _) dX12_readsCompared_38 (fun v τ n' hv => ?_)
        obtain ⟨rfl, rfl, rfl⟩ := hv
        show Ev E (xcm E d 0 0 QQ) Y_X12_readsCompared 41 [(0, .ref (E.2.2.2 + iM))] [.int q11] (xσ q1.2 R) n 0 0
        refine ev_bipush (v := 61) dX12_readsCompared_41 (by decide) ?_
        refine ev_icmp_ne (tgt := 51) dX12_readsCompared_43 (by decide) (fun c43 => ?_) (fun c43 => ?_)
        · replace h := xif_f c43 h
          refine ev_iconst (v := (-1)) dX12_readsCompared_51 (by decide) ?_
          exact ev_sub [0] rfl (j52 _ h)
        · replace h := xif_t c43 h
          refine ev_bipush (v := 9) dX12_readsCompared_46 (by decide) ?_
          refine ev_goto (tgt := 52) dX12_readsCompared_48 (by decide) ?_
          exact ev_sub [0] rfl (j52 _ h)
      · replace h := xif_t c29 h
        refine ev_bipush (v := 8) dX12_readsCompared_32 (by decide) ?_
        refine ev_goto (tgt := 52) dX12_readsCompared_34 (by decide) ?_
        exact ev_sub [0] rfl (j52 _ h)
    · replace h := xif_t c15 h
      refine ev_bipush (v := 7) dX12_readsCompared_18 (by decide) ?_
      refine ev_goto (tgt := 52) dX12_readsCompared_20 (by decide) ?_
      exact ev_sub [0] rfl (j52 _ h)
  · replace h := xif_t c4 h
    refine ev_iconst (v := 0) dX12_readsCompared_7 (by decide) ?_
    cases h
    exact ev_zret rfl (Or.inl rfl) (hQ) dX12_readsCompared_8 (Nat.zero_le _) (Nat.zero_le _)
def fX12_owesBy (p0 : Int32) (p1 : Int32) (p2 : Int32) (p3 : Int32) (μ : xm) : Option (Int32 × xm) := xbd (fX12_feels p0 p1 p2 μ) fun q1 => if p3 = 0 then (xbd (fX12_byLaw 111 1440 q1) fun q4 => some (q4.1, q4.2)) else (if p3 = 1 then (xbd (fX12_byLaw 112 100 q1) fun q3 => some (q3.1, q3.2)) else (xbd (fX12_byLaw 108 100 q1) fun q2 => some (q2.1, q2.2)))
set_option maxHeartbeats 4000000 in
set_option maxRecDepth 100000 in
theorem kX12_owesBy {E : xE} {d : Nat} {QQ : xP} (hd : 6 ≤ d) {p0 : Int32} {p1 : Int32} {p2 : Int32} {p3 : Int32} {μ : xm} {R : xr} {n : Nat} (hF : xFin R n)  {res : Int32 × xm} (h : fX12_owesBy p0 p1 p2 p3 μ = some res) (hQ : QQ (some (.int res.1)) (xσ res.2 R) n) : xCon E d Y_X12_owesBy 0 0 [.ref (E.2.2.2 + iM), .int p0, .int p1, .int p2, .int p3] (xσ μ R) n QQ := by
  refine xCon_of pn_RX12 (Nat.le_of_ble_eq_true rfl) (L0 := [(0, .ref (E.2.2.2 + iM)), (1, .int p0), (2, .int p1), (3, .int p2), (4, .int p3)]) rfl ?_
  unfold fX12_owesBy at h
  refine ev_aload_n 0 dX12_owesBy_0 rfl rfl ?_
  refine ev_iload_n 1 dX12_owesBy_1 rfl rfl ?_
  refine ev_iload_n 2 dX12_owesBy_2 rfl rfl ?_
  refine ev_iload_n 3 dX12_owesBy_3 rfl rfl ?_
  obtain ⟨q1, hq1, h⟩ := xbd_some h
  refine ev_callV (ci := 12) (rest := []) 3 (kX12_feels (E := E) (d := 5) (QQ := (fun v τ n' => v = none ∧ τ = xσ q1 R ∧ n = n')) (Nat.le_refl _) hF hq1 (⟨rfl, rfl, rfl⟩)) my_X12_feels ⟨m_1621, m_1623, m_70⟩ cl_12 kd_61 (xl hF rfl) rfl rfl (Nat.le_of_ble_eq_true rfl) (Nat.le_trans (by decide) hd) (xlo (by decide) (Nat.le_trans (by decide) hd)) (Nat.zero_le _) (Nat.zero_le _) dX12_owesBy_4 (fun v τ n' hv => ?_)
  obtain ⟨rfl, rfl, rfl⟩ := hv
  show Ev E (xcm E d 0 0 QQ) Y_X12_owesBy 7 [(0, .ref (E.2.2.2 + iM)), (1, .int p0), (2, .int p1), (3, .int p2), (4, .int p3)] [] (xσ q1 R) n 0 0
  refine ev_iload 4 dX12_owesBy_7 rfl ?_
  refine ev_if_ne (tgt := 24) dX12_owesBy_9 (by decide) (fun c9 => ?_) (fun c9 => ?_)
  · replace h := xif_f c9 h
    refine ev_iload 4 dX12_owesBy_24 rfl ?_
    refine ev_iconst (v := 1) dX12_owesBy_26 (by decide) ?_
    refine ev_icmp_ne (tgt := 41) dX12_owesBy_27 (by decide) (fun c27 => ?_) (fun c27 => ?_)
    · replace h := xif_f c27 h
      refine ev_aload_n 0 dX12_owesBy_41 rfl rfl ?_
      refine ev_bipush (v := 108) dX12_owesBy_42 (by decide) ?_
      refine ev_bipush (v := 100) dX12_owesBy_44 (by decide) ?_
      obtain ⟨q2, hq2, h⟩ := xbd_some h
      refine ev_callV (ci := 12) (rest := []) 2 (kX12_byLaw (E := E) (d := 2) (QQ := (fun v τ n' => v = some (.int q2.1) ∧ τ = xσ q2.2 R ∧ n = n')) (Nat.le_refl _) hF hq2 (⟨rfl, rfl, rfl⟩)) my_X12_byLaw ⟨m_1625, m_1627, m_71⟩ cl_12 kd_61 (xl hF rfl) rfl rfl (Nat.le_of_ble_eq_true rfl) (Nat.le_trans (by decide) hd) (xlo (by decide) (Nat.le_trans (by decide) hd)) (Nat.zero_le _) (Nat.zero_le _) dX12_owesBy_46 (fun v τ n' hv => ?_)
      obtain ⟨rfl, rfl, rfl⟩ := hv
      show Ev E (xcm E d 0 0 QQ) Y_X12_owesBy 49 [(0, .ref (E.2.2.2 + iM)), (1, .int p0), (2, .int p1), (3, .int p2), (4, .int p3)] [.int q2.1] (xσ q2.2 R) n 0 0
      cases h
      exact ev_iret rfl (hQ) dX12_owesBy_49 (Nat.zero_le _) (Nat.zero_le _)
    · replace h := xif_t c27 h
      refine ev_aload_n 0 dX12_owesBy_30 rfl rfl ?_
      refine ev_bipush (v := 112) dX12_owesBy_31 (by decide) ?_
      refine ev_bipush (v := 100) dX12_owesBy_33 (by decide) ?_
      obtain ⟨q3, hq3, h⟩ := xbd_some h
      refine ev_callV (ci := 12) (rest := []) 2 (kX12_byLaw (E := E) (d := 2) (QQ := (fun v τ n' => v = some (.int q3.1) ∧ τ = xσ q3.2 R ∧ n = n')) (Nat.le_refl _) hF hq3 (⟨rfl, rfl, rfl⟩)) my_X12_byLaw ⟨m_1625, m_1627, m_71⟩ cl_12 kd_61 (xl hF rfl) rfl rfl (Nat.le_of_ble_eq_true rfl) (Nat.le_trans (by decide) hd) (xlo (by decide) (Nat.le_trans (by decide) hd)) (Nat.zero_le _) (Nat.zero_le _) dX12_owesBy_35 (fun v τ n' hv => ?_)
      obtain ⟨rfl, rfl, rfl⟩ := hv
      show Ev E (xcm E d 0 0 QQ) Y_X12_owesBy 38 [(0, .ref (E.2.2.2 + iM)), (1, .int p0), (2, .int p1), (3, .int p2), (4, .int p3)] [.int q3.1] (xσ q3.2 R) n 0 0
      refine ev_goto (tgt := 49) dX12_owesBy_38 (by decide) ?_
      cases h
      exact ev_iret rfl (hQ) dX12_owesBy_49 (Nat.zero_le _) (Nat.zero_le _)
  · replace h := xif_t c9 h
    refine ev_aload_n 0 dX12_owesBy_12 rfl rfl ?_
    refine ev_bipush (v := 111) dX12_owesBy_13 (by decide) ?_
    refine ev_sipush (v := 1440) dX12_owesBy_15 (by decide) ?_
    obtain ⟨q4, hq4, h⟩ := xbd_some h
    refine ev_callV (ci := 12) (rest := []) 2 (kX12_byLaw (E := E) (d := 2) (QQ := (fun v τ n' => v = some (.int q4.1) ∧ τ = xσ q4.2 R ∧ n = n')) (Nat.le_refl _) hF hq4 (⟨rfl, rfl, rfl⟩)) my_X12_byLaw ⟨m_1625, m_1627, m_71⟩ cl_12 kd_61 (xl hF rfl) rfl rfl (Nat.le_of_ble_eq_true rfl) (Nat.le_trans (by decide) hd) (xlo (by decide) (Nat.le_trans (by decide) hd)) (Nat.zero_le _) (Nat.zero_le _) dX12_owesBy_18 (fun v τ n' hv => ?_)
    obtain ⟨rfl, rfl, rfl⟩ := hv
    show Ev E (xcm E d 0 0 QQ) Y_X12_owesBy 21 [(0, .ref (E.2.2.2 + iM)), (1, .int p0), (2, .int p1), (3, .int p2), (4, .int p3)] [.int q4.1] (xσ q4.2 R) n 0 0
    refine ev_goto (tgt := 49) dX12_owesBy_21 (by decide) ?_
    cases h
    exact ev_iret rfl (hQ) dX12_owesBy_49 (Nat.zero_le _) (Nat.zero_le _)
def fX12_readsCondition_j75 (x9 : Int32) (μ5 : xm) : Option ((xm) ⊕ (Int32 × xm)) := xbd (fX12_opens x9 μ5) fun q10 => if q10.1 = 0 then (some (.inr (0, q10.2))) else (some (.inl q10.2))
def fX12_readsCondition_j58 (μ5 : xm) : Option ((xm) ⊕ (Int32 × xm)) := xbd (fX12_here μ5) fun q8 => if q8 = 33 then (fX12_readsCondition_j75 10 μ5) else (fX12_readsCondition_j75 13 μ5)
def fX12_readsCondition_b92 (μ13 : xm) : Option ((xm) ⊕ ((xm) ⊕ (Int32 × xm))) := xbd (fX12_here μ13) fun q15 => if q15 = 41 then (xbd (fX12_lands 1 μ13) fun q16 => xlt (xpI q16 iM 17 ((q16.1 iM 17) - 1)) fun μ17 => xlt (xpI μ17 iM 15 ((μ17.1 iM 15) - 1)) fun μ18 => xlt (xpI μ18 iM 12 ((μ18.1 iM 12) + 1)) fun μ19 => if (μ19.1 iM 17) = 0 then (some (.inr (.inr (1, μ19)))) else (xbd (fX12_endsPiece μ19) fun q20 => some (.inl q20))) else (some (.inr (.inl μ13)))
def fX12_readsCondition_j195 (x26 : Int32) (q22 : xm) : Option ((xm) ⊕ (Int32 × xm)) := xbd (fX12_lands x26 q22) fun q27 => xbd (fX12_here q27) fun q28 => if q28 = 38 then (xbd (fX12_jumps 11 q27) fun q30 => some (.inl q30)) else (xbd (fX12_jumps 12 q27) fun q29 => some (.inl q29))
def fX12_readsCondition_j180 (q22 : xm) : Option ((xm) ⊕ (Int32 × xm)) := xbd (fX12_here q22) fun q25 => if q25 = 124 then (fX12_readsCondition_j195 1 q22) else (fX12_readsCondition_j195 0 q22)
def fX12_readsCondition_b40 (μ5 : xm) : Option ((xm) ⊕ (Int32 × xm)) := xbd (fX12_here μ5) fun q7 => if q7 = 33 then (fX12_readsCondition_j58 μ5) else (xbd (fX12_here μ5) fun q11 => if q11 = 40 then (fX12_readsCondition_j58 μ5) else (xbd (fX12_readsCompared μ5) fun q12 => if q12.1 = 0 then (some (.inr (0, q12.2))) else (xbd (xloop xfu (fun v => fX12_readsCondition_b92 v) q12.2) fun q21 => xsm q21 (fun q22 => xbd (fX12_here q22) fun q24 => if q24 = 38 then (fX12_readsCondition_j180 q22) else (xbd (fX12_here q22) fun q31 => if q31 = 124 then (fX12_readsCondition_j180 q22) else (xbd (fX12_wrongAt 1 (q22.1 iM 12) q22) fun q32 => xbd (xz q32.1) fun z33 => some (.inr (z33, q32.2))))) (fun q23 => some (.inr q23)))))
def fX12_readsCondition (μ : xm) : Option (Int32 × xm) := xbd (fX12_here μ) fun q1 => if q1 = 40 then (xlt (xpI μ iM 15 0) fun μ2 => xlt (xpI μ2 iM 17 0) fun μ3 => xbd (fX12_opens 13 μ3) fun q4 => if q4.1 = 0 then (some (0, q4.2)) else (xbd (xloop xfu (fun v => fX12_readsCondition_b40 v) q4.2) fun q34 => some q34)) else (xbd (fX12_wrongAt 1 (μ.1 iM 12) μ) fun q35 => xbd (xz q35.1) fun z36 => some (z36, q35.2))
set_option maxHeartbeats 4000000 in
set_option maxRecDepth 100000 in
theorem kX12_readsCondition {E : xE} {d : Nat} {QQ : xP} (hd : 6 ≤ d)  {μ : xm} {R : xr} {n : Nat} (hF : xFin R n)  {res : Int32 × xm} (h : fX12_readsCondition μ = some res) (hQ : QQ (some (.int res.1)) (xσ res.2 R) n) : xCon E d Y_X12_readsCondition 0 0 [.ref (E.2.2.2 + iM)] (xσ μ R) n QQ := by
  refine xCon_of pn_RX12 (Nat.le_of_ble_eq_true rfl) (L0 := [(0, .ref (E.2.2.2 + iM))]) rfl ?_
  unfold fX12_readsCondition at h
  refine ev_aload_n 0 dX12_readsCondition_0 rfl rfl ?_
  obtain ⟨q1, hq1, h⟩ := xbd_some h
  refine ev_callV (ci := 12) (rest := []) 0 (kX12_here (E := E) (d := 0) (QQ := (fun v τ n' => v = some (.int q1) ∧ τ = xσ μ R ∧ n = n')) (Nat.le_refl _) hF hq1 (⟨rfl, rfl, rfl⟩)) my_X12_here ⟨m_1534, m_1536, m_51⟩ cl_12 kd_61 (xl hF rfl) rfl rfl (Nat.le_of_ble_eq_true rfl) (Nat.le_trans (by decide) hd) (xlo (by decide) (Nat.le_trans (by decide) hd)) (Nat.zero_le _) (Nat.zero_le _) dX12_readsCondition_1 (fun v τ n' hv => ?_)
  obtain ⟨rfl, rfl, rfl⟩ := hv
  show Ev E (xcm E d 0 0 QQ) Y_X12_readsCondition 4 [(0, .ref (E.2.2.2 + iM))] [.int q1] (xσ μ R) n 0 0
  refine ev_bipush (v := 40) dX12_readsCondition_4 (by decide) ?_
  refine ev_icmp_eq (tgt := 19) dX12_readsCondition_6 (by decide) (fun c6 => ?_) (fun c6 => ?_)
  · replace h := xif_t c6 h
    refine ev_aload_n 0 dX12_readsCondition_19 rfl rfl ?_
    refine ev_iconst (v := 0) dX12_readsCondition_20 (by decide) ?_
    obtain ⟨μ2, hμ2, h⟩ := xlt_some h
    refine xv_putI cl_12 lk_RX12_237 rfl kd_61 (xl hF rfl) rfl rfl (fun _ => rfl) hμ2 dX12_readsCondition_21 ?_
    refine ev_aload_n 0 dX12_readsCondition_24 rfl rfl ?_
    refine ev_iconst (v := 0) dX12_readsCondition_25 (by decide) ?_
    obtain ⟨μ3, hμ3, h⟩ := xlt_some h
    refine xv_putI cl_12 lk_RX12_240 rfl kd_61 (xl hF rfl) rfl rfl (fun _ => rfl) hμ3 dX12_readsCondition_26 ?_
    refine ev_aload_n 0 dX12_readsCondition_29 rfl rfl ?_
    refine ev_bipush (v := 13) dX12_readsCondition_30 (by decide) ?_
    obtain ⟨q4, hq4, h⟩ := xbd_some h
    refine ev_callV (ci := 12) (rest := []) 1 (kX12_opens (E := E) (d := 1) (QQ := (fun v τ n' => v = some (.int q4.1) ∧ τ = xσ q4.2 R ∧ n = n')) (Nat.le_refl _) hF hq4 (⟨rfl, rfl, rfl⟩)) my_X12_opens ⟨m_1550, m_1552, m_55⟩ cl_12 kd_61 (xl hF rfl) rfl rfl (Nat.le_of_ble_eq_true rfl) (Nat.le_trans (by decide) hd) (xlo (by decide) (Nat.le_trans (by decide) hd)) (Nat.zero_le _) (Nat.zero_le _) dX12_readsCondition_32 (fun v τ n' hv => ?_)
    obtain ⟨rfl, rfl, rfl⟩ := hv
    show Ev E (xcm E d 0 0 QQ) Y_X12_readsCondition 35 [(0, .ref (E.2.2.2 + iM))] [.int q4.1] (xσ q4.2 R) n 0 0
    refine ev_if_ne (tgt := 40) dX12_readsCondition_35 (by decide) (fun c35 => ?_) (fun c35 => ?_)
    · replace h := xif_f c35 h
      obtain ⟨q34, hq34, h⟩ := xbd_some h
      refine ev_sub (L' := [(0, .ref (E.2.2.2 + iM))]) [0] rfl ?_
      refine xloop_run (fun v => Ev E (xcm E d 0 0 QQ) Y_X12_readsCondition 40 [(0, .ref (E.2.2.2 + iM))] [] (xσ v R) n 0 0) (fun v => QQ (some (.int v.1)) (xσ v.2 R) n) ?_ _ _ _ hq34 ?_
      · rintro μ5 y6 h hk
        replace h : fX12_readsCondition_b40 μ5 = some y6 := h
        show Ev E (xcm E d 0 0 QQ) Y_X12_readsCondition 40 [(0, .ref (E.2.2.2 + iM))] [] (xσ μ5 R) n 0 0
        unfold fX12_readsCondition_b40 at h
        refine ev_aload_n 0 dX12_readsCondition_40 rfl rfl ?_
        obtain ⟨q7, hq7, h⟩ := xbd_some h
        refine ev_callV (ci := 12) (rest := []) 0 (kX12_here (E := E) (d := 0) (QQ := (fun v τ n' => v = some (.int q7) ∧ τ = xσ μ5 R ∧ n = n')) (Nat.le_refl _) hF hq7 (⟨rfl, rfl, rfl⟩)) my_X12_here ⟨m_1534, m_1536, m_51⟩ cl_12 kd_61 (xl hF rfl) rfl rfl (Nat.le_of_ble_eq_true rfl) (Nat.le_trans (by decide) hd) (xlo (by decide) (Nat.le_trans (by decide) hd)) (Nat.zero_le _) (Nat.zero_le _) dX12_readsCondition_41 (fun v τ n' hv => ?_)
        obtain ⟨rfl, rfl, rfl⟩ := hv
        show Ev E (xcm E d 0 0 QQ) Y_X12_readsCondition 44 [(0, .ref (E.2.2.2 + iM))] [.int q7] (xσ μ5 R) n 0 0
        refine ev_bipush (v := 33) dX12_readsCondition_44 (by decide) ?_
        have j58 : fX12_readsCondition_j58 μ5 = some y6 → Ev E (xcm E d 0 0 QQ) Y_X12_readsCondition 58 [(0, .ref (E.2.2.2 + iM))] [] (xσ μ5 R) n 0 0 := by
          intro h
          unfold fX12_readsCondition_j58 at h
          refine ev_aload_n 0 dX12_readsCondition_58 rfl rfl ?_
          refine ev_aload_n 0 dX12_readsCondition_59 rfl rfl ?_
          obtain ⟨q8, hq8, h⟩ := xbd_some h
          refine ev_callV (ci := 12) (rest := [.ref (E.2.2.2 + iM)]) 0 (kX12_here (E := E) (d := 0) (QQ := (fun v τ n' => v = some (.int q8) ∧ τ = xσ μ5 R ∧ n = n')) (Nat.le_refl _) hF hq8 (⟨rfl, rfl, rfl⟩)) my_X12_here ⟨m_1534, m_1536, m_51⟩ cl_12 kd_61 (xl hF rfl) rfl rfl (Nat.le_of_ble_eq_true rfl) (Nat.le_trans (by decide) hd) (xlo (by decide) (Nat.le_trans (by decide) hd)) (Nat.zero_le _) (Nat.zero_le _) dX12_readsCondition_60 (fun v τ n' hv => ?_)
          obtain ⟨rfl, rfl, rfl⟩ := hv
          show Ev E (xcm E d 0 0 QQ) Y_X12_readsCondition 63 [(0, .ref (E.2.2.2 + iM))] [.int q8, .ref (E.2.2.2 + iM)] (xσ μ5 R) n 0 0
          refine ev_bipush (v := 33) dX12_readsCondition_63 (by decide) ?_
          have j75 : ∀ (x9 : Int32), fX12_readsCondition_j75 x9 μ5 = some y6 → Ev E (xcm E d 0 0 QQ) Y_X12_readsCondition 75 [(0, .ref (E.2.2.2 + iM))] [.int x9, .ref (E.2.2.2 + iM)] (xσ μ5 R) n 0 0 := by
            intro x9 h
            unfold fX12_readsCondition_j75 at h
            obtain ⟨q10, hq10, h⟩ := xbd_some h
            refine ev_callV (ci := 12) (rest := []) 1 (kX12_opens (E := E) (d := 1) (QQ := (fun v τ n' => v = some (.int q10.1) ∧ τ = xσ q10.2 R ∧ n = n')) (Nat.le_refl _) hF hq10 (⟨rfl, rfl, rfl⟩)) my_X12_opens ⟨m_1550, m_1552, m_55⟩ cl_12 kd_61 (xl hF rfl) rfl rfl (Nat.le_of_ble_eq_true rfl) (Nat.le_trans (by decide) hd) (xlo (by decide) (Nat.le_trans (by decide) hd)) (Nat.zero_le _) (Nat.zero_le _) dX12_readsCondition_75 (fun v τ n' hv => ?_)
            obtain ⟨rfl, rfl, rfl⟩ := hv
            show Ev E (xcm E d 0 0 QQ) Y_X12_readsCondition 78 [(0, .ref (E.2.2.2 + iM))] [.int q10.1] (xσ q10.2 R) n 0 0
            refine ev_if_ne (tgt := 40) dX12_readsCondition_78 (by decide) (fun c78 => ?_) (fun c78 => ?_)
            · replace h := xif_f c78 h
              cases h
              replace hk := xel_l hk
              exact ev_sub [0] rfl (hk)
            · replace h := xif_t c78 h
              refine ev_iconst (v := 0) dX12_readsCondition_81 (by decide) ?_
              cases h
              replace hk := xel_r hk
              exact ev_zret rfl (Or.inl rfl) (hk) dX12_readsCondition_82 (Nat.zero_le _) (Nat.zero_le _)
          refine ev_icmp_ne (tgt := 73) dX12_readsCondition_65 (by decide) (fun c65 => ?_) (fun c65 => ?_)
          · replace h := xif_f c65 h
            refine ev_bipush (v := 13) dX12_readsCondition_73 (by decide) ?_
            exact ev_sub [0] rfl (j75 _ h)
          · replace h := xif_t c65 h
            refine ev_bipush (v := 10) dX12_readsCondition_68 (by decide) ?_
            refine ev_goto (tgt := 75) dX12_readsCondition_70 (by decide) ?_
            exact ev_sub [0] rfl (j75 _ h)
        refine ev_icmp_eq (tgt := 58) dX12_readsCondition_46 (by decide) (fun c46 => ?_) (fun c46 => ?_)
        · replace h := xif_t c46 h
          exact ev_sub [0] rfl (j58 h)
        · replace h := xif_f c46 h
          refine ev_aload_n 0 dX12_readsCondition_49 rfl rfl ?_
          obtain ⟨q11, hq11, h⟩ := xbd_some h
          refine ev_callV (ci := 12) (rest := []) 0 (kX12_here (E := E) (d := 0) (QQ := (fun v τ n' => v = some (.int q11) ∧ τ = xσ μ5 R ∧ n = n')) (Nat.le_refl _) hF hq11 (⟨rfl, rfl, rfl⟩)) my_X12_here ⟨m_1534, m_1536, m_51⟩ cl_12 kd_61 (xl hF rfl) rfl rfl (Nat.le_of_ble_eq_true rfl) (Nat.le_trans (by decide) hd) (xlo (by decide) (Nat.le_trans (by decide) hd)) (Nat.zero_le _) (Nat.zero_le _) dX12_readsCondition_50 (fun v τ n' hv => ?_)
          obtain ⟨rfl, rfl, rfl⟩ := hv
          show Ev E (xcm E d 0 0 QQ) Y_X12_readsCondition 53 [(0, .ref (E.2.2.2 + iM))] [.int q11] (xσ μ5 R) n 0 0
          refine ev_bipush (v := 40) dX12_readsCondition_53 (by decide) ?_
          refine ev_icmp_ne (tgt := 83) dX12_readsCondition_55 (by decide) (fun c55 => ?_) (fun c55 => ?_)
          · replace h := xif_f c55 h
            refine ev_aload_n 0 dX12_readsCondition_83 rfl rfl ?_
            obtain ⟨q12, hq12, h⟩ := xbd_some h
            refine ev_callV (ci := 12) (rest := []) 0 (kX12_readsCompared (E := E) (d := 5) (QQ := (fun v τ n' => v = some (.int q12.1) ∧ τ = xσ q12.2 R ∧ n = n')) (Nat.le_refl _) hF hq12 (⟨rfl, rfl, rfl⟩)) my_X12_readsCompared ⟨m_1589, m_1591, m_63⟩ cl_12 kd_61 (xl hF rfl) rfl rfl (Nat.le_of_ble_eq_true rfl) (Nat.le_trans (by decide) hd) (xlo (by decide) (Nat.le_trans (by decide) hd)) (Nat.zero_le _) (Nat.zero_le _) dX12_readsCondition_84 (fun v τ n' hv => ?_)
            obtain ⟨rfl, rfl, rfl⟩ := hv
            show Ev E (xcm E d 0 0 QQ) Y_X12_readsCondition 87 [(0, .ref (E.2.2.2 + iM))] [.int q12.1] (xσ q12.2 R) n 0 0
            refine ev_if_ne (tgt := 92) dX12_readsCondition_87 (by decide) (fun c87 => ?_) (fun c87 => ?_)
            · replace h := xif_f c87 h
              obtain ⟨q21, hq21, h⟩ := xbd_some h
              refine ev_sub (L' := [(0, .ref (E.2.2.2 + iM))]) [0] rfl ?_
              refine xloop_run (fun v => Ev E (xcm E d 0 0 QQ) Y_X12_readsCondition 92 [(0, .ref (E.2.2.2 + iM))] [] (xσ v R) n 0 0) (xel (fun v => Ev E (xcm E d 0 0 QQ) Y_X12_readsCondition 152 [(0, .ref (E.2.2.2 + iM))] [] (xσ v R) n 0 0) (fun v => QQ (some (.int v.1)) (xσ v.2 R) n)) ?_ _ _ _ hq21 ?_
              · rintro μ13 y14 h hk
                replace h : fX12_readsCondition_b92 μ13 = some y14 := h
                show Ev E (xcm E d 0 0 QQ) Y_X12_readsCondition 92 [(0, .ref (E.2.2.2 + iM))] [] (xσ μ13 R) n 0 0
                unfold fX12_readsCondition_b92 at h
                refine ev_aload_n 0 dX12_readsCondition_92 rfl rfl ?_
                obtain ⟨q15, hq15, h⟩ := xbd_some h
                refine ev_callV (ci := 12) (rest := []) 0 (kX12_here (E := E) (d := 0) (QQ := (fun v τ n' => v = some (.int q15) ∧ τ = xσ μ13 R ∧ n = n')) (Nat.le_refl _) hF hq15 (⟨rfl, rfl, rfl⟩)) my_X12_here ⟨m_1534, m_1536, m_51⟩ cl_12 kd_61 (xl hF rfl) rfl rfl (Nat.le_of_ble_eq_true rfl) (Nat.le_trans (by decide) hd) (xlo (by decide) (Nat.le_trans (by decide) hd)) (Nat.zero_le _) (Nat.zero_le _) dX12_readsCondition_93 (fun v τ n' hv => ?_)
                obtain ⟨rfl, rfl, rfl⟩ := hv
                show Ev E (xcm E d 0 0 QQ) Y_X12_readsCondition 96 [(0, .ref (E.2.2.2 + iM))] [.int q15] (xσ μ13 R) n 0 0
                refine ev_bipush (v := 41) dX12_readsCondition_96 (by decide) ?_
                refine ev_icmp_ne (tgt := 152) dX12_readsCondition_98 (by decide) (fun c98 => ?_) (fun c98 => ?_)
                · replace h := xif_f c98 h
                  cases h
                  replace hk := xel_r hk
                  replace hk := xel_l hk
                  exact ev_sub [0] rfl (hk)
                · replace h := xif_t c98 h
                  refine ev_aload_n 0 dX12_readsCondition_101 rfl rfl ?_
                  refine ev_iconst (v := 1) dX12_readsCondition_102 (by decide) ?_
                  obtain ⟨q16, hq16, h⟩ := xbd_some h
                  refine ev_callV (ci := 12) (rest := []) 1 (kX12_lands (E := E) (d := 1) (QQ := (fun v τ n' => v = none ∧ τ = xσ q16 R ∧ n = n')) (Nat.le_refl _) hF hq16 (⟨rfl, rfl, rfl⟩)) my_X12_lands ⟨m_1597, m_1599, m_65⟩ cl_12 kd_61 (xl hF rfl) rfl rfl (Nat.le_of_ble_eq_true rfl) (Nat.le_trans (by decide) hd) (xlo (by decide) (Nat.le_trans (by decide) hd)) (Nat.zero_le _) (Nat.zero_le _) dX12_readsCondition_103 (fun v τ n' hv => ?_)
                  obtain ⟨rfl, rfl, rfl⟩ := hv
                  show Ev E (xcm E d 0 0 QQ) Y_X12_readsCondition 106 [(0, .ref (E.2.2.2 + iM))] [] (xσ q16 R) n 0 0
                  refine ev_aload_n 0 dX12_readsCondition_106 rfl rfl ?_
                  refine ev_aload_n 0 dX12_readsCondition_107 rfl rfl ?_
                  refine xv_getI cl_12 lk_RX12_240 kd_61 (xl hF rfl) (fun _ => rfl) dX12_readsCondition_108 ?_
                  refine ev_iconst (v := 1) dX12_readsCondition_111 (by decide) ?_
                  refine ev_isub dX12_readsCondition_112 ?_
                  obtain ⟨μ17, hμ17, h⟩ := xlt_some h
                  refine xv_putI cl_12 lk_RX12_240 rfl kd_61 (xl hF rfl) rfl rfl (fun _ => rfl) hμ17 dX12_readsCondition_113 ?_
                  refine ev_aload_n 0 dX12_readsCondition_116 rfl rfl ?_
                  refine ev_aload_n 0 dX12_readsCondition_117 rfl rfl ?_
                  refine xv_getI cl_12 lk_RX12_237 kd_61 (xl hF rfl) (fun _ => rfl) dX12_readsCondition_118 ?_
                  refine ev_iconst (v := 1) dX12_readsCondition_121 (by decide) ?_
                  refine ev_isub dX12_readsCondition_122 ?_
                  obtain ⟨μ18, hμ18, h⟩ := xlt_some h
                  refine xv_putI cl_12 lk_RX12_237 rfl kd_61 (xl hF rfl) rfl rfl (fun _ => rfl) hμ18 dX12_readsCondition_123 ?_
                  refine ev_aload_n 0 dX12_readsCondition_126 rfl rfl ?_
                  refine ev_aload_n 0 dX12_readsCondition_127 rfl rfl ?_
                  refine xv_getI cl_12 lk_RX12_210 kd_61 (xl hF rfl) (fun _ => rfl) dX12_readsCondition_128 ?_
                  refine ev_iconst (v := 1) dX12_readsCondition_131 (by decide) ?_
                  refine ev_iadd dX12_readsCondition_132 ?_
                  obtain ⟨μ19, hμ19, h⟩ := xlt_some h
                  refine xv_putI cl_12 lk_RX12_210 rfl kd_61 (xl hF rfl) rfl rfl (fun _ => rfl) hμ19 dX12_readsCondition_133 ?_
                  refine ev_aload_n 0 dX12_readsCondition_136 rfl rfl ?_
                  refine xv_getI cl_12 lk_RX12_240 kd_61 (xl hF rfl) (fun _ => rfl) dX12_readsCondition_137 ?_
                  refine ev_if_ne (tgt := 145) dX12_readsCondition_140 (by decide) (fun c140 => ?_) (fun c140 => ?_)
                  · replace h := xif_f c140 h
                    refine ev_aload_n 0 dX12_readsCondition_145 rfl rfl ?_
                    obtain ⟨q20, hq20, h⟩ := xbd_some h
                    refine ev_callV (ci := 12) (rest := []) 0 (kX12_endsPiece (E := E) (d := 1) (QQ := (fun v τ n' => v = none ∧ τ = xσ q20 R ∧ n = n')) (Nat.le_refl _) hF hq20 (⟨rfl, rfl, rfl⟩)) my_X12_endsPiece ⟨m_1593, m_1595, m_64⟩ cl_12 kd_61 (xl hF rfl) rfl rfl (Nat.le_of_ble_eq_true rfl) (Nat.le_trans (by decide) hd) (xlo (by decide) (Nat.le_trans (by decide) hd)) (Nat.zero_le _) (Nat.zero_le _) dX12_readsCondition_146 (fun v τ n' hv => ?_)
                    obtain ⟨rfl, rfl, rfl⟩ := hv
                    show Ev E (xcm E d 0 0 QQ) Y_X12_readsCondition 149 [(0, .ref (E.2.2.2 + iM))] [] (xσ q20 R) n 0 0
                    refine ev_goto (tgt := 92) dX12_readsCondition_149 (by decide) ?_
                    cases h
                    replace hk := xel_l hk
                    exact ev_sub [0] rfl (hk)
                  · replace h := xif_t c140 h
                    refine ev_iconst (v := 1) dX12_readsCondition_143 (by decide) ?_
                    cases h
                    replace hk := xel_r hk
                    replace hk := xel_r hk
                    exact ev_zret rfl (Or.inr rfl) (hk) dX12_readsCondition_144 (Nat.zero_le _) (Nat.zero_le _)
              · rcases q21 with q22 | q23
                · replace h := xsm_l h
                  show Ev E (xcm E d 0 0 QQ) Y_X12_readsCondition 152 [(0, .ref (E.2.2.2 + iM))] [] (xσ q22 R) n 0 0
                  refine ev_aload_n 0 dX12_readsCondition_152 rfl rfl ?_
                  obtain ⟨q24, hq24, h⟩ := xbd_some h
                  refine ev_callV (ci := 12) (rest := []) 0 (kX12_here (E := E) (d := 0) (QQ := (fun v τ n' => v = some (.int q24) ∧ τ = xσ q22 R ∧ n = n')) (Nat.le_refl _) hF hq24 (⟨rfl, rfl, rfl⟩)) my_X12_here ⟨m_1534, m_1536, m_51⟩ cl_12 kd_61 (xl hF rfl) rfl rfl (Nat.le_of_ble_eq_true rfl) (Nat.le_trans (by decide) hd) (xlo (by decide) (Nat.le_trans (by decide) hd)) (Nat.zero_le _) (Nat.zero_le _) dX12_readsCondition_153 (fun v τ n' hv => ?_)
                  obtain ⟨rfl, rfl, rfl⟩ := hv
                  show Ev E (xcm E d 0 0 QQ) Y_X12_readsCondition 156 [(0, .ref (E.2.2.2 + iM))] [.int q24] (xσ q22 R) n 0 0
                  refine ev_bipush (v := 38) dX12_readsCondition_156 (by decide) ?_
                  have j180 : fX12_readsCondition_j180 q22 = some y6 → Ev E (xcm E d 0 0 QQ) Y_X12_readsCondition 180 [(0, .ref (E.2.2.2 + iM))] [] (xσ q22 R) n 0 0 := by
                    intro h
                    unfold fX12_readsCondition_j180 at h
                    refine ev_aload_n 0 dX12_readsCondition_180 rfl rfl ?_
                    refine ev_aload_n 0 dX12_readsCondition_181 rfl rfl ?_
                    obtain ⟨q25, hq25, h⟩ := xbd_some h
                    refine ev_callV (ci := 12) (rest := [.ref (E.2.2.2 + iM)]) 0 (kX12_here (E := E) (d := 0) (QQ := (fun v τ n' => v = some (.int q25) ∧ τ = xσ q22 R ∧ n = n')) (Nat.le_refl _) hF hq25 (⟨rfl, rfl, rfl⟩)) my_X12_here ⟨m_1534, m_1536, m_51⟩ cl_12 kd_61 (xl hF rfl) rfl rfl (Nat.le_of_ble_eq_true rfl) (Nat.le_trans (by decide) hd) (xlo (by decide) (Nat.le_trans (by decide) hd)) (Nat.zero_le _) (Nat.zero_le _) dX12_readsCondition_182 (fun v τ n' hv => ?_)
                    obtain ⟨rfl, rfl, rfl⟩ := hv
                    show Ev E (xcm E d 0 0 QQ) Y_X12_readsCondition 185 [(0, .ref (E.2.2.2 + iM))] [.int q25, .ref (E.2.2.2 + iM)] (xσ q22 R) n 0 0
                    refine ev_bipush (v := 124) dX12_readsCondition_185 (by decide) ?_
                    have j195 : ∀ (x26 : Int32), fX12_readsCondition_j195 x26 q22 = some y6 → Ev E (xcm E d 0 0 QQ) Y_X12_readsCondition 195 [(0, .ref (E.2.2.2 + iM))] [.int x26, .ref (E.2.2.2 + iM)] (xσ q22 R) n 0 0 := by
                      intro x26 h
                      unfold fX12_readsCondition_j195 at h
                      obtain ⟨q27, hq27, h⟩ := xbd_some h
                      refine ev_callV (ci := 12) (rest := []) 1 (kX12_lands (E := E) (d := 1) (QQ := (fun v τ n' => v = none ∧ τ = xσ q27 R ∧ n = n')) (Nat.le_refl _) hF hq27 (⟨rfl, rfl, rfl⟩)) my_X12_lands ⟨m_1597, m_1599, m_65⟩ cl_12 kd_61 (xl hF rfl) rfl rfl (Nat.le_of_ble_eq_true rfl) (Nat.le_trans (by decide) hd) (xlo (by decide) (Nat.le_trans (by decide) hd)) (Nat.zero_le _) (Nat.zero_le _) dX12_readsCondition_195 (fun v τ n' hv => ?_)
                      obtain ⟨rfl, rfl, rfl⟩ := hv
                      show Ev E (xcm E d 0 0 QQ) Y_X12_readsCondition 198 [(0, .ref (E.2.2.2 + iM))] [] (xσ q27 R) n 0 0
                      refine ev_aload_n 0 dX12_readsCondition_198 rfl rfl ?_
                      refine ev_aload_n 0 dX12_readsCondition_199 rfl rfl ?_
                      obtain ⟨q28, hq28, h⟩ := xbd_some h
                      refine ev_callV (ci := 12) (rest := [.ref (E.2.2.2 + iM)]) 0 (kX12_here (E := E) (d := 0) (QQ := (fun v τ n' => v = some (.int q28) ∧ τ = xσ q27 R ∧ n = n')) (Nat.le_refl _) hF hq28 (⟨rfl, rfl, rfl⟩)) my_X12_here ⟨m_1534, m_1536, m_51⟩ cl_12 kd_61 (xl hF rfl) rfl rfl (Nat.le_of_ble_eq_true rfl) (Nat.le_trans (by decide) hd) (xlo (by decide) (Nat.le_trans (by decide) hd)) (Nat.zero_le _) (Nat.zero_le _) dX12_readsCondition_200 (fun v τ n' hv => ?_)
                      obtain ⟨rfl, rfl, rfl⟩ := hv
                      show Ev E (xcm E d 0 0 QQ) Y_X12_readsCondition 203 [(0, .ref (E.2.2.2 + iM))] [.int q28, .ref (E.2.2.2 + iM)] (xσ q27 R) n 0 0
                      refine ev_bipush (v := 38) dX12_readsCondition_203 (by decide) ?_
                      refine ev_icmp_ne (tgt := 213) dX12_readsCondition_205 (by decide) (fun c205 => ?_) (fun c205 => ?_)
                      · replace h := xif_f c205 h
                        refine ev_bipush (v := 12) dX12_readsCondition_213 (by decide) ?_
                        obtain ⟨q29, hq29, h⟩ := xbd_some h
                        refine ev_callV (ci := 12) (rest := []) 1 (kX12_jumps (E := E) (d := 1) (QQ := (fun v τ n' => v = none ∧ τ = xσ q29 R ∧ n = n')) (Nat.le_refl _) hF hq29 (⟨rfl, rfl, rfl⟩)) my_X12_jumps ⟨m_1601, m_1603, m_66⟩ cl_12 kd_61 (xl hF rfl) rfl rfl (Nat.le_of_ble_eq_true rfl) (Nat.le_trans (by decide) hd) (xlo (by decide) (Nat.le_trans (by decide) hd)) (Nat.zero_le _) (Nat.zero_le _) dX12_readsCondition_215 (fun v τ n' hv => ?_)
                        obtain ⟨rfl, rfl, rfl⟩ := hv
                        show Ev E (xcm E d 0 0 QQ) Y_X12_readsCondition 218 [(0, .ref (E.2.2.2 + iM))] [] (xσ q29 R) n 0 0
                        refine ev_goto (tgt := 40) dX12_readsCondition_218 (by decide) ?_
                        cases h
                        replace hk := xel_l hk
                        exact ev_sub [0] rfl (hk)
                      · replace h := xif_t c205 h
                        refine ev_bipush (v := 11) dX12_readsCondition_208 (by decide) ?_
                        refine ev_goto (tgt := 215) dX12_readsCondition_210 (by decide) ?_
                        obtain ⟨q30, hq30, h⟩ := xbd_some h
                        refine ev_callV (ci := 12) (rest := []) 1 (kX12_jumps (E := E) (d := 1) (QQ := (fun v τ n' => v = none ∧ τ = xσ q30 R ∧ n = n')) (Nat.le_refl _) hF hq30 (⟨rfl, rfl, rfl⟩)) my_X12_jumps ⟨m_1601, m_1603, m_66⟩ cl_12 kd_61 (xl hF rfl) rfl rfl (Nat.le_of_ble_eq_true rfl) (Nat.le_trans (by decide) hd) (xlo (by decide) (Nat.le_trans (by decide) hd)) (Nat.zero_le _) (Nat.zero_le _) dX12_readsCondition_215 (fun v τ n' hv => ?_)
                        obtain ⟨rfl, rfl, rfl⟩ := hv
                        show Ev E (xcm E d 0 0 QQ) Y_X12_readsCondition 218 [(0, .ref (E.2.2.2 + iM))] [] (xσ q30 R) n 0 0
                        refine ev_goto (tgt := 40) dX12_readsCondition_218 (by decide) ?_
                        cases h
                        replace hk := xel_l hk
                        exact ev_sub [0] rfl (hk)
                    refine ev_icmp_ne (tgt := 194) dX12_readsCondition_187 (by decide) (fun c187 => ?_) (fun c187 => ?_)
                    · replace h := xif_f c187 h
                      refine ev_iconst (v := 0) dX12_readsCondition_194 (by decide) ?_
                      exact ev_sub [0] rfl (j195 _ h)
                    · replace h := xif_t c187 h
                      refine ev_iconst (v := 1) dX12_readsCondition_190 (by decide) ?_
                      refine ev_goto (tgt := 195) dX12_readsCondition_191 (by decide) ?_
                      exact ev_sub [0] rfl (j195 _ h)
                  refine ev_icmp_eq (tgt := 180) dX12_readsCondition_158 (by decide) (fun c158 => ?_) (fun c158 => ?_)
                  · replace h := xif_t c158 h
                    exact ev_sub [0] rfl (j180 h)
                  · replace h := xif_f c158 h
                    refine ev_aload_n 0 dX12_readsCondition_161 rfl rfl ?_
                    obtain ⟨q31, hq31, h⟩ := xbd_some h
                    refine ev_callV (ci := 12) (rest := []) 0 (kX12_here (E := E) (d := 0) (QQ := (fun v τ n' => v = some (.int q31) ∧ τ = xσ q22 R ∧ n = n')) (Nat.le_refl _) hF hq31 (⟨rfl, rfl, rfl⟩)) my_X12_here ⟨m_1534, m_1536, m_51⟩ cl_12 kd_61 (xl hF rfl) rfl rfl (Nat.le_of_ble_eq_true rfl) (Nat.le_trans (by decide) hd) (xlo (by decide) (Nat.le_trans (by decide) hd)) (Nat.zero_le _) (Nat.zero_le _) dX12_readsCondition_162 (fun v τ n' hv => ?_)
                    obtain ⟨rfl, rfl, rfl⟩ := hv
                    show Ev E (xcm E d 0 0 QQ) Y_X12_readsCondition 165 [(0, .ref (E.2.2.2 + iM))] [.int q31] (xσ q22 R) n 0 0
                    refine ev_bipush (v := 124) dX12_readsCondition_165 (by decide) ?_
                    refine ev_icmp_eq (tgt := 180) dX12_readsCondition_167 (by decide) (fun c167 => ?_) (fun c167 => ?_)
                    · replace h := xif_t c167 h
                      exact ev_sub [0] rfl (j180 h)
                    · replace h := xif_f c167 h
                      refine ev_aload_n 0 dX12_readsCondition_170 rfl rfl ?_
                      refine ev_iconst (v := 1) dX12_readsCondition_171 (by decide) ?_
                      refine ev_aload_n 0 dX12_readsCondition_172 rfl rfl ?_
                      refine xv_getI cl_12 lk_RX12_210 kd_61 (xl hF rfl) (fun _ => rfl) dX12_readsCondition_173 ?_
                      obtain ⟨q32, hq32, h⟩ := xbd_some h
                      refine ev_callV (ci := 12) (rest := []) 2 (kX12_wrongAt (E := E) (d := 0) (QQ := (fun v τ n' => v = some (.int q32.1) ∧ τ = xσ q32.2 R ∧ n = n')) (Nat.le_refl _) hF hq32 (⟨rfl, rfl, rfl⟩)) my_X12_wrongAt ⟨m_1538, m_1540, m_52⟩ cl_12 kd_61 (xl hF rfl) rfl rfl (Nat.le_of_ble_eq_true rfl) (Nat.le_trans (by decide) hd) (xlo (by decide) (Nat.le_trans (by decide) hd)) (Nat.zero_le _) (Nat.zero_le _) dX12_readsCondition_176 (fun v τ n' hv => ?_)
                      obtain ⟨rfl, rfl, rfl⟩ := hv
                      show Ev E (xcm E d 0 0 QQ) Y_X12_readsCondition 179 [(0, .ref (E.2.2.2 + iM))] [.int q32.1] (xσ q32.2 R) n 0 0
                      obtain ⟨z33, hz33, h⟩ := xbd_some h
                      obtain ⟨hzz33, hez33⟩ := xz_some hz33
                      rw [hez33]
                      cases h
                      replace hk := xel_r hk
                      exact ev_zret rfl hzz33 (hk) dX12_readsCondition_179 (Nat.zero_le _) (Nat.zero_le _)
                · replace h := xsm_r h
                  cases h
                  replace hk := xel_r hk
                  exact hk
            · replace h := xif_t c87 h
              refine ev_iconst (v := 0) dX12_readsCondition_90 (by decide) ?_
              cases h
              replace hk := xel_r hk
              exact ev_zret rfl (Or.inl rfl) (hk) dX12_readsCondition_91 (Nat.zero_le _) (Nat.zero_le _)
          · replace h := xif_t c55 h
            exact ev_sub [0] rfl (j58 h)
      · cases h
        exact hQ
    · replace h := xif_t c35 h
      refine ev_iconst (v := 0) dX12_readsCondition_38 (by decide) ?_
      cases h
      exact ev_zret rfl (Or.inl rfl) (hQ) dX12_readsCondition_39 (Nat.zero_le _) (Nat.zero_le _)
  · replace h := xif_f c6 h
    refine ev_aload_n 0 dX12_readsCondition_9 rfl rfl ?_
    refine ev_iconst (v := 1) dX12_readsCondition_10 (by decide) ?_
    refine ev_aload_n 0 dX12_readsCondition_11 rfl rfl ?_
    refine xv_getI cl_12 lk_RX12_210 kd_61 (xl hF rfl) (fun _ => rfl) dX12_readsCondition_12 ?_
    obtain ⟨q35, hq35, h⟩ := xbd_some h
    refine ev_callV (ci := 12) (rest := []) 2 (kX12_wrongAt (E := E) (d := 0) (QQ := (fun v τ n' => v = some (.int q35.1) ∧ τ = xσ q35.2 R ∧ n = n')) (Nat.le_refl _) hF hq35 (⟨rfl, rfl, rfl⟩)) my_X12_wrongAt ⟨m_1538, m_1540, m_52⟩ cl_12 kd_61 (xl hF rfl) rfl rfl (Nat.le_of_ble_eq_true rfl) (Nat.le_trans (by decide) hd) (xlo (by decide) (Nat.le_trans (by decide) hd)) (Nat.zero_le _) (Nat.zero_le _) dX12_readsCondition_15 (fun v τ n' hv => ?_)
    obtain ⟨rfl, rfl, rfl⟩ := hv
    show Ev E (xcm E d 0 0 QQ) Y_X12_readsCondition 18 [(0, .ref (E.2.2.2 + iM))] [.int q35.1] (xσ q35.2 R) n 0 0
    obtain ⟨z36, hz36, h⟩ := xbd_some h
    obtain ⟨hzz36, hez36⟩ := xz_some hz36
    rw [hez36]
    cases h
    exact ev_zret rfl hzz36 (hQ) dX12_readsCondition_18 (Nat.zero_le _) (Nat.zero_le _)
