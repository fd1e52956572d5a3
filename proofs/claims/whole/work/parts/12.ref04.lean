def fX12_lands_j22 (μ1 : xm) : Option ((xm) ⊕ (xm)) := xbd (xgI μ1 iM_waits 220 ((μ1.1 iM 17) - 1)) fun v4 => xlt (v4 - v4 / 1048576 * 1048576) fun x5 => xbd (xgI μ1 iM_said 220 x5) fun v6 => xbd (xsI μ1 iM_said 220 x5 ((1048576 * (v6 / 1048576)) + (μ1.1 iM 16))) fun μ7 => xlt (xpI μ7 iM 17 ((μ7.1 iM 17) - 1)) fun μ8 => some (.inl μ8)
def fX12_lands_b0 (μ1 : xm) (p0 : Int32) : Option ((xm) ⊕ (xm)) := xbd (fX12_top μ1) fun q3 => if q3 = 11 then (fX12_lands_j22 μ1) else (if p0 = 0 then (some (.inr μ1)) else (xbd (fX12_top μ1) fun q9 => if q9 = 12 then (fX12_lands_j22 μ1) else (some (.inr μ1))))
def fX12_lands (p0 : Int32) (μ : xm) : Option (xm) := xbd (xloop xfu (fun v => fX12_lands_b0 v p0) μ) fun q10 => some q10
set_option maxHeartbeats 4000000 in
set_option maxRecDepth 100000 in
theorem kX12_lands {E : xE} {d : Nat} {QQ : xP} (hd : 1 ≤ d) {p0 : Int32} {μ : xm} {R : xr} {n : Nat} (hF : xFin R n)  {res : xm} (h : fX12_lands p0 μ = some res) (hQ : QQ none (xσ res R) n) : xCon E d Y_X12_lands 0 0 [.ref (E.2.2.2 + iM), .int p0] (xσ μ R) n QQ := by
  refine xCon_of pn_RX12 (Nat.le_of_ble_eq_true rfl) (L0 := [(0, .ref (E.2.2.2 + iM)), (1, .int p0)]) rfl ?_
  unfold fX12_lands at h
  obtain ⟨q10, hq10, h⟩ := xbd_some h
  refine ev_sub (L' := [(0, .ref (E.2.2.2 + iM)), (1, .int p0)]) [0, 1] rfl ?_
  refine xloop_run (fun v => Ev E (xcm E d 0 0 QQ) Y_X12_lands 0 [(0, .ref (E.2.2.2 + iM)), (1, .int p0)] [] (xσ v R) n 0 0) (fun v => Ev E (xcm E d 0 0 QQ) Y_X12_lands 73 [] [] (xσ v R) n 0 0) ?_ _ _ _ hq10 ?_
  · rintro μ1 y2 h hk
    replace h : fX12_lands_b0 μ1 p0 = some y2 := h
    show Ev E (xcm E d 0 0 QQ) Y_X12_lands 0 [(0, .ref (E.2.2.2 + iM)), (1, .int p0)] [] (xσ μ1 R) n 0 0
    unfold fX12_lands_b0 at h
    refine ev_aload_n 0 dX12_lands_0 rfl rfl ?_
    obtain ⟨q3, hq3, h⟩ := xbd_some h
    refine ev_callV (ci := 12) (rest := []) 0 (kX12_top (E := E) (d := 0) (QQ := (fun v τ n' => v = some (.int q3) ∧ τ = xσ μ1 R ∧ n = n')) (Nat.le_refl _) hF hq3 (⟨rfl, rfl, rfl⟩)) my_X12_top ⟨m_1577, m_1579, m_60⟩ cl_12 kd_61 (xl hF rfl) rfl rfl (Nat.le_of_ble_eq_true rfl) (Nat.le_trans (by decide) hd) (xlo (by decide) (Nat.le_trans (by decide) hd)) (Nat.zero_le _) (Nat.zero_le _) dX12_lands_1 (fun v τ n' hv => ?_)
    obtain ⟨rfl, rfl, rfl⟩ := hv
    show Ev E (xcm E d 0 0 QQ) Y_X12_lands 4 [(0, .ref (E.2.2.2 + iM)), (1, .int p0)] [.int q3] (xσ μ1 R) n 0 0
    refine ev_bipush (v := 11) dX12_lands_4 (by decide) ?_
    have j22 : fX12_lands_j22 μ1 = some y2 → Ev E (xcm E d 0 0 QQ) Y_X12_lands 22 [(0, .ref (E.2.2.2 + iM)), (1, .int p0)] [] (xσ μ1 R) n 0 0 := by
      intro h
      unfold fX12_lands_j22 at h
      refine ev_aload_n 0 dX12_lands_22 rfl rfl ?_
      refine xv_getF (a := iM_waits) cl_12 lk_RX12_36 kd_61 (xl hF rfl) (fun _ => rfl) (fr_61_22 hF) dX12_lands_23 ?_
      refine ev_aload_n 0 dX12_lands_26 rfl rfl ?_
      refine xv_getI cl_12 lk_RX12_240 kd_61 (xl hF rfl) (fun _ => rfl) dX12_lands_27 ?_
      refine ev_iconst (v := 1) dX12_lands_30 (by decide) ?_
      refine ev_isub dX12_lands_31 ?_
      obtain ⟨v4, hv4, h⟩ := xbd_some h
      refine xv_iald kd_70 (xl hF rfl) hv4 dX12_lands_32 ?_
      refine ev_ldc (v := 1048576) m_1554 dX12_lands_33 ?_
      refine ev_irem dX12_lands_35 (by decide) ?_
      obtain ⟨x5, hx5, h⟩ := xlt_some h
      refine xv_istore_n (L' := [(2, .int x5), (0, .ref (E.2.2.2 + iM)), (1, .int p0)]) hx5 dX12_lands_36 rfl (Nat.le_of_ble_eq_true rfl) rfl ?_
      refine ev_aload_n 1 dX12_lands_37 rfl rfl ?_
      refine xv_getF (a := iM_said) cl_12 lk_RX12_33 kd_61 (xl hF rfl) (fun _ => rfl) (fr_61_21 hF) dX12_lands_38 ?_
      refine ev_iload_n 0 dX12_lands_41 rfl rfl ?_
      refine ev_ldc (v := 1048576) m_1554 dX12_lands_42 ?_
      refine ev_aload_n 1 dX12_lands_44 rfl rfl ?_
      refine xv_getF (a := iM_said) cl_12 lk_RX12_33 kd_61 (xl hF rfl) (fun _ => rfl) (fr_61_21 hF) dX12_lands_45 ?_
      refine ev_iload_n 0 dX12_lands_48 rfl rfl ?_
      obtain ⟨v6, hv6, h⟩ := xbd_some h
      refine xv_iald kd_69 (xl hF rfl) hv6 dX12_lands_49 ?_
      refine ev_ldc (v := 1048576) m_1554 dX12_lands_50 ?_
      refine ev_idiv dX12_lands_52 (by decide) ?_
      refine ev_imul dX12_lands_53 ?_
      refine ev_aload_n 1 dX12_lands_54 rfl rfl ?_
      refine xv_getI cl_12 lk_RX12_233 kd_61 (xl hF rfl) (fun _ => rfl) dX12_lands_55 ?_
      refine ev_iadd dX12_lands_58 ?_
      obtain ⟨μ7, hμ7, h⟩ := xbd_some h
      refine xv_iast kd_69 (xl hF rfl) hμ7 dX12_lands_59 ?_
      refine ev_aload_n 1 dX12_lands_60 rfl rfl ?_
      refine ev_aload_n 1 dX12_lands_61 rfl rfl ?_
      refine xv_getI cl_12 lk_RX12_240 kd_61 (xl hF rfl) (fun _ => rfl) dX12_lands_62 ?_
      refine ev_iconst (v := 1) dX12_lands_65 (by decide) ?_
      refine ev_isub dX12_lands_66 ?_
      obtain ⟨μ8, hμ8, h⟩ := xlt_some h
      refine xv_putI cl_12 lk_RX12_240 rfl kd_61 (xl hF rfl) rfl rfl (fun _ => rfl) hμ8 dX12_lands_67 ?_
      refine ev_goto (tgt := 0) dX12_lands_70 (by decide) ?_
      cases h
      replace hk := xel_l hk
      exact ev_sub [1, 2] rfl (hk)
    refine ev_icmp_eq (tgt := 22) dX12_lands_6 (by decide) (fun c6 => ?_) (fun c6 => ?_)
    · replace h := xif_t c6 h
      exact ev_sub [0, 1] rfl (j22 h)
    · replace h := xif_f c6 h
      refine ev_iload_n 1 dX12_lands_9 rfl rfl ?_
      refine ev_if_eq (tgt := 73) dX12_lands_10 (by decide) (fun c10 => ?_) (fun c10 => ?_)
      · replace h := xif_t c10 h
        cases h
        replace hk := xel_r hk
        exact ev_sub [] rfl (hk)
      · replace h := xif_f c10 h
        refine ev_aload_n 0 dX12_lands_13 rfl rfl ?_
        obtain ⟨q9, hq9, h⟩ := xbd_some h
        refine ev_callV (ci := 12) (rest := []) 0 (kX12_top (E := E) (d := 0) (QQ := (fun v τ n' => v = some (.int q9) ∧ τ = xσ μ1 R ∧ n = n')) (Nat.le_refl _) hF hq9 (⟨rfl, rfl, rfl⟩)) my_X12_top ⟨m_1577, m_1579, m_60⟩ cl_12 kd_61 (xl hF rfl) rfl rfl (Nat.le_of_ble_eq_true rfl) (Nat.le_trans (by decide) hd) (xlo (by decide) (Nat.le_trans (by decide) hd)) (Nat.zero_le _) (Nat.zero_le _) dX12_lands_14 (fun v τ n' hv => ?_)
        obtain ⟨rfl, rfl, rfl⟩ := hv
        show Ev E (xcm E d 0 0 QQ) Y_X12_lands 17 [(0, .ref (E.2.2.2 + iM)), (1, .int p0)] [.int q9] (xσ μ1 R) n 0 0
        refine ev_bipush (v := 12) dX12_lands_17 (by decide) ?_
        refine ev_icmp_ne (tgt := 73) dX12_lands_19 (by decide) (fun c19 => ?_) (fun c19 => ?_)
        · replace h := xif_f c19 h
          cases h
          replace hk := xel_r hk
          exact ev_sub [] rfl (hk)
        · replace h := xif_t c19 h
          exact ev_sub [0, 1] rfl (j22 h)
  · show Ev E (xcm E d 0 0 QQ) Y_X12_lands 73 [] [] (xσ q10 R) n 0 0
    cases h
    exact ev_vret rfl (hQ) dX12_lands_73 (Nat.zero_le _) (Nat.zero_le _)
def fX12_meeting_b84 (x8 : Int32) (μ9 : xm) : Option ((Int32 × xm) ⊕ (xm)) := if 8 ≤ x8 then (some (.inr μ9)) else (xbd (xsI μ9 iM_cameAt 192 ((8 * (μ9.1 iM 1)) + x8) (-1)) fun μ11 => xlt (x8 + 1) fun x12 => some (.inl (x12, μ11)))
def fX12_meeting (p0 : Int32) (p1 : Int32) (p2 : Int32) (μ : xm) : Option (Int32 × xm) := xbd (fX12_in p0 0 99) fun q1 => if q1 = 0 then (some ((-1), μ)) else (xbd (fX12_in p1 0 1439) fun q2 => if q2 = 0 then (some ((-1), μ)) else (xbd (fX12_in p2 0 255) fun q3 => if q3 = 0 then (some ((-1), μ)) else (xbd (fX12_bits p2) fun q4 => if q4 < 2 then (some ((-1), μ)) else (if (μ.1 iM 1) = 24 then (some ((-1), μ)) else (xbd (xsI μ iM_dayOf 24 (μ.1 iM 1) p0) fun μ5 => xbd (xsI μ5 iM_minuteOf 24 (μ5.1 iM 1) p1) fun μ6 => xbd (xsI μ6 iM_peopleOf 24 (μ6.1 iM 1) p2) fun μ7 => xbd (xloop xfu (fun v => fX12_meeting_b84 v.1 v.2) (0, μ7)) fun q13 => xlt (xpI q13 iM 1 ((q13.1 iM 1) + 1)) fun μ14 => some ((μ14.1 iM 1) - 1, μ14))))))
set_option maxHeartbeats 4000000 in
set_option maxRecDepth 100000 in
theorem kX12_meeting {E : xE} {d : Nat} {QQ : xP} (hd : 1 ≤ d) {p0 : Int32} {p1 : Int32} {p2 : Int32} {μ : xm} {R : xr} {n : Nat} (hF : xFin R n)  {res : Int32 × xm} (h : fX12_meeting p0 p1 p2 μ = some res) (hQ : QQ (some (.int res.1)) (xσ res.2 R) n) : xCon E d Y_X12_meeting 0 0 [.ref (E.2.2.2 + iM), .int p0, .int p1, .int p2] (xσ μ R) n QQ := by
  refine xCon_of pn_RX12 (Nat.le_of_ble_eq_true rfl) (L0 := [(0, .ref (E.2.2.2 + iM)), (1, .int p0), (2, .int p1), (3, .int p2)]) rfl ?_
  unfold fX12_meeting at h
  refine ev_iload_n 1 dX12_meeting_0 rfl rfl ?_
  refine ev_iconst (v := 0) dX12_meeting_1 (by decide) ?_
  refine ev_bipush (v := 99) dX12_meeting_2 (by decide) ?_
  obtain ⟨q1, hq1, h⟩ := xbd_some h
  refine ev_callS (As := [.int p0, .int 0, .int 99]) (rest := []) 3 (kX12_in (E := E) (d := 0) (QQ := (fun v τ n' => v = some (.int q1) ∧ τ = xσ μ R ∧ n = n')) (Nat.le_refl _)  hq1 (⟨rfl, rfl, rfl⟩)) my_X12_in ⟨m_1449, m_1450⟩ rfl rfl (Nat.le_of_ble_eq_true rfl) (Nat.le_trans (by decide) hd) (xlo (by decide) (Nat.le_trans (by decide) hd)) (Nat.zero_le _) (Nat.zero_le _) dX12_meeting_4 (fun v τ n' hv => ?_)
  obtain ⟨rfl, rfl, rfl⟩ := hv
  show Ev E (xcm E d 0 0 QQ) Y_X12_meeting 7 [(0, .ref (E.2.2.2 + iM)), (1, .int p0), (2, .int p1), (3, .int p2)] [.int q1] (xσ μ R) n 0 0
  refine ev_if_eq (tgt := 49) dX12_meeting_7 (by decide) (fun c7 => ?_) (fun c7 => ?_)
  · replace h := xif_t c7 h
    refine ev_iconst (v := (-1)) dX12_meeting_49 (by decide) ?_
    cases h
    exact ev_iret rfl (hQ) dX12_meeting_50 (Nat.zero_le _) (Nat.zero_le _)
  · replace h := xif_f c7 h
    refine ev_iload_n 2 dX12_meeting_10 rfl rfl ?_
    refine ev_iconst (v := 0) dX12_meeting_11 (by decide) ?_
    refine ev_sipush (v := 1439) dX12_meeting_12 (by decide) ?_
    obtain ⟨q2, hq2, h⟩ := xbd_some h
    refine ev_callS (As := [.int p1, .int 0, .int 1439]) (rest := []) 3 (kX12_in (E := E) (d := 0) (QQ := (fun v τ n' => v = some (.int q2) ∧ τ = xσ μ R ∧ n = n')) (Nat.le_refl _)  hq2 (⟨rfl, rfl, rfl⟩)) my_X12_in ⟨m_1449, m_1450⟩ rfl rfl (Nat.le_of_ble_eq_true rfl) (Nat.le_trans (by decide) hd) (xlo (by decide) (Nat.le_trans (by decide) hd)) (Nat.zero_le _) (Nat.zero_le _) dX12_meeting_15 (fun v τ n' hv => ?_)
    obtain ⟨rfl, rfl, rfl⟩ := hv
    show Ev E (xcm E d 0 0 QQ) Y_X12_meeting 18 [(0, .ref (E.2.2.2 + iM)), (1, .int p0), (2, .int p1), (3, .int p2)] [.int q2] (xσ μ R) n 0 0
    refine ev_if_eq (tgt := 49) dX12_meeting_18 (by decide) (fun c18 => ?_) (fun c18 => ?_)
    · replace h := xif_t c18 h
      refine ev_iconst (v := (-1)) dX12_meeting_49 (by decide) ?_
      cases h
      exact ev_iret rfl (hQ) dX12_meeting_50 (Nat.zero_le _) (Nat.zero_le _)
    · replace h := xif_f c18 h
      refine ev_iload_n 3 dX12_meeting_21 rfl rfl ?_
      refine ev_iconst (v := 0) dX12_meeting_22 (by decide) ?_
      refine ev_sipush (v := 255) dX12_meeting_23 (by decide) ?_
      obtain ⟨q3, hq3, h⟩ := xbd_some h
      refine ev_callS (As := [.int p2, .int 0, .int 255]) (rest := []) 3 (kX12_in (E := E) (d := 0) (QQ := (fun v τ n' => v = some (.int q3) ∧ τ = xσ μ R ∧ n = n')) (Nat.le_refl _)  hq3 (⟨rfl, rfl, rfl⟩)) my_X12_in ⟨m_1449, m_1450⟩ rfl rfl (Nat.le_of_ble_eq_true rfl) (Nat.le_trans (by decide) hd) (xlo (by decide) (Nat.le_trans (by decide) hd)) (Nat.zero_le _) (Nat.zero_le _) dX12_meeting_26 (fun v τ n' hv => ?_)
      obtain ⟨rfl, rfl, rfl⟩ := hv
      show Ev E (xcm E d 0 0 QQ) Y_X12_meeting 29 [(0, .ref (E.2.2.2 + iM)), (1, .int p0), (2, .int p1), (3, .int p2)] [.int q3] (xσ μ R) n 0 0
      refine ev_if_eq (tgt := 49) dX12_meeting_29 (by decide) (fun c29 => ?_) (fun c29 => ?_)
      · replace h := xif_t c29 h
        refine ev_iconst (v := (-1)) dX12_meeting_49 (by decide) ?_
        cases h
        exact ev_iret rfl (hQ) dX12_meeting_50 (Nat.zero_le _) (Nat.zero_le _)
      · replace h := xif_f c29 h
        refine ev_iload_n 3 dX12_meeting_32 rfl rfl ?_
        obtain ⟨q4, hq4, h⟩ := xbd_some h
        refine ev_callS (As := [.int p2]) (rest := []) 1 (kX12_bits (E := E) (d := 0) (QQ := (fun v τ n' => v = some (.int q4) ∧ τ = xσ μ R ∧ n = n')) (Nat.le_refl _)  hq4 (⟨rfl, rfl, rfl⟩)) my_X12_bits ⟨m_1463, m_1464⟩ rfl rfl (Nat.le_of_ble_eq_true rfl) (Nat.le_trans (by decide) hd) (xlo (by decide) (Nat.le_trans (by decide) hd)) (Nat.zero_le _) (Nat.zero_le _) dX12_meeting_33 (fun v τ n' hv => ?_)
        obtain ⟨rfl, rfl, rfl⟩ := hv
        show Ev E (xcm E d 0 0 QQ) Y_X12_meeting 36 [(0, .ref (E.2.2.2 + iM)), (1, .int p0), (2, .int p1), (3, .int p2)] [.int q4] (xσ μ R) n 0 0
        refine ev_iconst (v := 2) dX12_meeting_36 (by decide) ?_
        refine ev_icmp_lt (tgt := 49) dX12_meeting_37 (by decide) (fun c37 => ?_) (fun c37 => ?_)
        · replace h := xif_t c37 h
          refine ev_iconst (v := (-1)) dX12_meeting_49 (by decide) ?_
          cases h
          exact ev_iret rfl (hQ) dX12_meeting_50 (Nat.zero_le _) (Nat.zero_le _)
        · replace h := xif_f c37 h
          refine ev_aload_n 0 dX12_meeting_40 rfl rfl ?_
          refine xv_getI cl_12 lk_RX12_155 kd_61 (xl hF rfl) (fun _ => rfl) dX12_meeting_41 ?_
          refine ev_bipush (v := 24) dX12_meeting_44 (by decide) ?_
          refine ev_icmp_ne (tgt := 51) dX12_meeting_46 (by decide) (fun c46 => ?_) (fun c46 => ?_)
          · replace h := xif_f c46 h
            refine ev_aload_n 0 dX12_meeting_51 rfl rfl ?_
            refine xv_getF (a := iM_dayOf) cl_12 lk_RX12_13 kd_61 (xl hF rfl) (fun _ => rfl) (fr_61_5 hF) dX12_meeting_52 ?_
            refine ev_aload_n 0 dX12_meeting_55 rfl rfl ?_
            refine xv_getI cl_12 lk_RX12_155 kd_61 (xl hF rfl) (fun _ => rfl) dX12_meeting_56 ?_
            refine ev_iload_n 1 dX12_meeting_59 rfl rfl ?_
            obtain ⟨μ5, hμ5, h⟩ := xbd_some h
            refine xv_iast kd_63 (xl hF rfl) hμ5 dX12_meeting_60 ?_
            refine ev_aload_n 0 dX12_meeting_61 rfl rfl ?_
            refine xv_getF (a := iM_minuteOf) cl_12 lk_RX12_16 kd_61 (xl hF rfl) (fun _ => rfl) (fr_61_6 hF) dX12_meeting_62 ?_
            refine ev_aload_n 0 dX12_meeting_65 rfl rfl ?_
            refine xv_getI cl_12 lk_RX12_155 kd_61 (xl hF rfl) (fun _ => rfl) dX12_meeting_66 ?_
            refine ev_iload_n 2 dX12_meeting_69 rfl rfl ?_
            obtain ⟨μ6, hμ6, h⟩ := xbd_some h
            refine xv_iast kd_64 (xl hF rfl) hμ6 dX12_meeting_70 ?_
            refine ev_aload_n 0 dX12_meeting_71 rfl rfl ?_
            refine xv_getF (a := iM_peopleOf) cl_12 lk_RX12_19 kd_61 (xl hF rfl) (fun _ => rfl) (fr_61_7 hF) dX12_meeting_72 ?_
            refine ev_aload_n 0 dX12_meeting_75 rfl rfl ?_
            refine xv_getI cl_12 lk_RX12_155 kd_61 (xl hF rfl) (fun _ => rfl) dX12_meeting_76 ?_
            refine ev_iload_n 3 dX12_meeting_79 rfl rfl ?_
            obtain ⟨μ7, hμ7, h⟩ := xbd_some h
            refine xv_iast kd_65 (xl hF rfl) hμ7 dX12_meeting_80 ?_
            refine ev_iconst (v := 0) dX12_meeting_81 (by decide) ?_
            refine xv_istore (L' := [(4, .int 0), (0, .ref (E.2.2.2 + iM)), (1, .int p0), (2, .int p1), (3, .int p2)]) rfl dX12_meeting_82 (Nat.le_of_ble_eq_true rfl) rfl ?_
            obtain ⟨q13, hq13, h⟩ := xbd_some h
            refine ev_sub (L' := [(0, .ref (E.2.2.2 + iM)), (4, .int 0)]) [1, 0] rfl ?_
            refine xloop_run (fun v => Ev E (xcm E d 0 0 QQ) Y_X12_meeting 84 [(0, .ref (E.2.2.2 + iM)), (4, .int v.1)] [] (xσ v.2 R) n 0 0) (fun v => Ev E (xcm E d 0 0 QQ) Y_X12_meeting 113 [(0, .ref (E.2.2.2 + iM))] [] (xσ v R) n 0 0) ?_ _ _ _ hq13 ?_
            · rintro ⟨x8, μ9⟩ y10 h hk
              replace h : fX12_meeting_b84 x8 μ9 = some y10 := h
              show Ev E (xcm E d 0 0 QQ) Y_X12_meeting 84 [(0, .ref (E.2.2.2 + iM)), (4, .int x8)] [] (xσ μ9 R) n 0 0
              unfold fX12_meeting_b84 at h
              refine ev_iload 1 dX12_meeting_84 rfl ?_
              refine ev_bipush (v := 8) dX12_meeting_86 (by decide) ?_
              refine ev_icmp_ge (tgt := 113) dX12_meeting_88 (by decide) (fun c88 => ?_) (fun c88 => ?_)
              · replace h := xif_t c88 h
                cases h
                replace hk := xel_r hk
                exact ev_sub [0] rfl (hk)
              · replace h := xif_f c88 h
                refine ev_aload_n 0 dX12_meeting_91 rfl rfl ?_
                refine xv_getF (a := iM_cameAt) cl_12 lk_RX12_22 kd_61 (xl hF rfl) (fun _ => rfl) (fr_61_8 hF) dX12_meeting_92 ?_
                refine ev_bipush (v := 8) dX12_meeting_95 (by decide) ?_
                refine ev_aload_n 0 dX12_meeting_97 rfl rfl ?_
                refine xv_getI cl_12 lk_RX12_155 kd_61 (xl hF rfl) (fun _ => rfl) dX12_meeting_98 ?_
                refine ev_imul dX12_meeting_101 ?_
                refine ev_iload 1 dX12_meeting_102 rfl ?_
                refine ev_iadd dX12_meeting_104 ?_
                refine ev_iconst (v := (-1)) dX12_meeting_105 (by decide) ?_
                obtain ⟨μ11, hμ11, h⟩ := xbd_some h
                refine xv_iast kd_66 (xl hF rfl) hμ11 dX12_meeting_106 ?_
                obtain ⟨x12, hx12, h⟩ := xlt_some h
                refine ev_iinc (L' := [(4, .int x12), (0, .ref (E.2.2.2 + iM))]) 1 dX12_meeting_107 rfl ((by rfl : x8 + Int32.ofInt 1 = x8 + 1).trans hx12) (Nat.le_of_ble_eq_true rfl) rfl ?_
                refine ev_goto (tgt := 84) dX12_meeting_110 (by decide) ?_
                cases h
                replace hk := xel_l hk
                exact ev_sub [1, 0] rfl (hk)
            · show Ev E (xcm E d 0 0 QQ) Y_X12_meeting 113 [(0, .ref (E.2.2.2 + iM))] [] (xσ q13 R) n 0 0
              refine ev_aload_n 0 dX12_meeting_113 rfl rfl ?_
              refine ev_aload_n 0 dX12_meeting_114 rfl rfl ?_
              refine xv_getI cl_12 lk_RX12_155 kd_61 (xl hF rfl) (fun _ => rfl) dX12_meeting_115 ?_
              refine ev_iconst (v := 1) dX12_meeting_118 (by decide) ?_
              refine ev_iadd dX12_meeting_119 ?_
              obtain ⟨μ14, hμ14, h⟩ := xlt_some h
              refine xv_putI cl_12 lk_RX12_155 rfl kd_61 (xl hF rfl) rfl rfl (fun _ => rfl) hμ14 dX12_meeting_120 ?_
              refine ev_aload_n 0 dX12_meeting_123 rfl rfl ?_
              refine xv_getI cl_12 lk_RX12_155 kd_61 (xl hF rfl) (fun _ => rfl) dX12_meeting_124 ?_
              refine ev_iconst (v := 1) dX12_meeting_127 (by decide) ?_
              refine ev_isub dX12_meeting_128 ?_
              cases h
              exact ev_iret rfl (hQ) dX12_meeting_129 (Nat.zero_le _) (Nat.zero_le _)
          · replace h := xif_t c46 h
            refine ev_iconst (v := (-1)) dX12_meeting_49 (by decide) ?_
            cases h
            exact ev_iret rfl (hQ) dX12_meeting_50 (Nat.zero_le _) (Nat.zero_le _)
def fX12_now_b25 (x3 : Int32) (μ4 : xm) : Option ((Int32 × xm) ⊕ (xm)) := if 192 ≤ x3 then (some (.inr μ4)) else (xbd (xsI μ4 iM_tookIn 192 x3 0) fun μ6 => xbd (xsI μ6 iM_gaveIn 192 x3 0) fun μ7 => xlt (x3 + 1) fun x8 => some (.inl (x8, μ7)))
def fX12_now (p0 : Int32) (μ : xm) : Option (Int32 × xm) := xbd (fX12_in p0 (μ.1 iM 0) 99) fun q1 => if q1 = 0 then (some (0, μ)) else (if p0 ≤ (μ.1 iM 0) then (xlt (xpI μ iM 0 p0) fun μ2 => some (1, μ2)) else (xbd (xloop xfu (fun v => fX12_now_b25 v.1 v.2) (0, μ)) fun q9 => xlt (xpI q9 iM 0 p0) fun μ10 => some (1, μ10)))
set_option maxHeartbeats 4000000 in
set_option maxRecDepth 100000 in
theorem kX12_now {E : xE} {d : Nat} {QQ : xP} (hd : 1 ≤ d) {p0 : Int32} {μ : xm} {R : xr} {n : Nat} (hF : xFin R n)  {res : Int32 × xm} (h : fX12_now p0 μ = some res) (hQ : QQ (some (.int res.1)) (xσ res.2 R) n) : xCon E d Y_X12_now 0 0 [.ref (E.2.2.2 + iM), .int p0] (xσ μ R) n QQ := by
  refine xCon_of pn_RX12 (Nat.le_of_ble_eq_true rfl) (L0 := [(0, .ref (E.2.2.2 + iM)), (1, .int p0)]) rfl ?_
  unfold fX12_now at h
  refine ev_iload_n 1 dX12_now_0 rfl rfl ?_
  refine ev_aload_n 0 dX12_now_1 rfl rfl ?_
  refine xv_getI cl_12 lk_RX12_165 kd_61 (xl hF rfl) (fun _ => rfl) dX12_now_2 ?_
  refine ev_bipush (v := 99) dX12_now_5 (by decide) ?_
  obtain ⟨q1, hq1, h⟩ := xbd_some h
  refine ev_callS (As := [.int p0, .int (μ.1 iM 0), .int 99]) (rest := []) 3 (kX12_in (E := E) (d := 0) (QQ := (fun v τ n' => v = some (.int q1) ∧ τ = xσ μ R ∧ n = n')) (Nat.le_refl _)  hq1 (⟨rfl, rfl, rfl⟩)) my_X12_in ⟨m_1449, m_1450⟩ rfl rfl (Nat.le_of_ble_eq_true rfl) (Nat.le_trans (by decide) hd) (xlo (by decide) (Nat.le_trans (by decide) hd)) (Nat.zero_le _) (Nat.zero_le _) dX12_now_7 (fun v τ n' hv => ?_)
  obtain ⟨rfl, rfl, rfl⟩ := hv
  show Ev E (xcm E d 0 0 QQ) Y_X12_now 10 [(0, .ref (E.2.2.2 + iM)), (1, .int p0)] [.int q1] (xσ μ R) n 0 0
  refine ev_if_ne (tgt := 15) dX12_now_10 (by decide) (fun c10 => ?_) (fun c10 => ?_)
  · replace h := xif_f c10 h
    refine ev_iload_n 1 dX12_now_15 rfl rfl ?_
    refine ev_aload_n 0 dX12_now_16 rfl rfl ?_
    refine xv_getI cl_12 lk_RX12_165 kd_61 (xl hF rfl) (fun _ => rfl) dX12_now_17 ?_
    refine ev_icmp_le (tgt := 52) dX12_now_20 (by decide) (fun c20 => ?_) (fun c20 => ?_)
    · replace h := xif_t c20 h
      refine ev_aload_n 0 dX12_now_52 rfl rfl ?_
      refine ev_iload_n 1 dX12_now_53 rfl rfl ?_
      obtain ⟨μ2, hμ2, h⟩ := xlt_some h
      refine xv_putI cl_12 lk_RX12_165 rfl kd_61 (xl hF rfl) rfl rfl (fun _ => rfl) hμ2 dX12_now_54 ?_
      refine ev_iconst (v := 1) dX12_now_57 (by decide) ?_
      cases h
      exact ev_zret rfl (Or.inr rfl) (hQ) dX12_now_58 (Nat.zero_le _) (Nat.zero_le _)
    · replace h := xif_f c20 h
      refine ev_iconst (v := 0) dX12_now_23 (by decide) ?_
      refine xv_istore_n (L' := [(2, .int 0), (0, .ref (E.2.2.2 + iM)), (1, .int p0)]) rfl dX12_now_24 rfl (Nat.le_of_ble_eq_true rfl) rfl ?_
      obtain ⟨q9, hq9, h⟩ := xbd_some h
      refine ev_sub (L' := [(0, .ref (E.2.2.2 + iM)), (1, .int p0), (2, .int 0)]) [1, 2, 0] rfl ?_
      refine xloop_run (fun v => Ev E (xcm E d 0 0 QQ) Y_X12_now 25 [(0, .ref (E.2.2.2 + iM)), (1, .int p0), (2, .int v.1)] [] (xσ v.2 R) n 0 0) (fun v => Ev E (xcm E d 0 0 QQ) Y_X12_now 52 [(0, .ref (E.2.2.2 + iM)), (1, .int p0)] [] (xσ v R) n 0 0) ?_ _ _ _ hq9 ?_
      · rintro ⟨x3, μ4⟩ y5 h hk
        replace h : fX12_now_b25 x3 μ4 = some y5 := h
        show Ev E (xcm E d 0 0 QQ) Y_X12_now 25 [(0, .ref (E.2.2.2 + iM)), (1, .int p0), (2, .int x3)] [] (xσ μ4 R) n 0 0
        unfold fX12_now_b25 at h
        refine ev_iload_n 2 dX12_now_25 rfl rfl ?_
        refine ev_sipush (v := 192) dX12_now_26 (by decide) ?_
        refine ev_icmp_ge (tgt := 52) dX12_now_29 (by decide) (fun c29 => ?_) (fun c29 => ?_)
        · replace h := xif_t c29 h
          cases h
          replace hk := xel_r hk
          exact ev_sub [0, 1] rfl (hk)
        · replace h := xif_f c29 h
          refine ev_aload_n 0 dX12_now_32 rfl rfl ?_
          refine xv_getF (a := iM_tookIn) cl_12 lk_RX12_93 kd_61 (xl hF rfl) (fun _ => rfl) (fr_61_43 hF) dX12_now_33 ?_
          refine ev_iload_n 2 dX12_now_36 rfl rfl ?_
          refine ev_iconst (v := 0) dX12_now_37 (by decide) ?_
          obtain ⟨μ6, hμ6, h⟩ := xbd_some h
          refine xv_iast kd_89 (xl hF rfl) hμ6 dX12_now_38 ?_
          refine ev_aload_n 0 dX12_now_39 rfl rfl ?_
          refine xv_getF (a := iM_gaveIn) cl_12 lk_RX12_96 kd_61 (xl hF rfl) (fun _ => rfl) (fr_61_44 hF) dX12_now_40 ?_
          refine ev_iload_n 2 dX12_now_43 rfl rfl ?_
          refine ev_iconst (v := 0) dX12_now_44 (by decide) ?_
          obtain ⟨μ7, hμ7, h⟩ := xbd_some h
          refine xv_iast kd_90 (xl hF rfl) hμ7 dX12_now_45 ?_
          obtain ⟨x8, hx8, h⟩ := xlt_some h
          refine ev_iinc (L' := [(2, .int x8), (0, .ref (E.2.2.2 + iM)), (1, .int p0)]) 2 dX12_now_46 rfl ((by rfl : x3 + Int32.ofInt 1 = x3 + 1).trans hx8) (Nat.le_of_ble_eq_true rfl) rfl ?_
          refine ev_goto (tgt := 25) dX12_now_49 (by decide) ?_
          cases h
          replace hk := xel_l hk
          exact ev_sub [1, 2, 0] rfl (hk)
      · show Ev E (xcm E d 0 0 QQ) Y_X12_now 52 [(0, .ref (E.2.2.2 + iM)), (1, .int p0)] [] (xσ q9 R) n 0 0
        refine ev_aload_n 0 dX12_now_52 rfl rfl ?_
        refine ev_iload_n 1 dX12_now_53 rfl rfl ?_
        obtain ⟨μ10, hμ10, h⟩ := xlt_some h
        refine xv_putI cl_12 lk_RX12_165 rfl kd_61 (xl hF rfl) rfl rfl (fun _ => rfl) hμ10 dX12_now_54 ?_
        refine ev_iconst (v := 1) dX12_now_57 (by decide) ?_
        cases h
        exact ev_zret rfl (Or.inr rfl) (hQ) dX12_now_58 (Nat.zero_le _) (Nat.zero_le _)
  · replace h := xif_t c10 h
    refine ev_iconst (v := 0) dX12_now_13 (by decide) ?_
    cases h
    exact ev_zret rfl (Or.inl rfl) (hQ) dX12_now_14 (Nat.zero_le _) (Nat.zero_le _)
def fX12_opens (p0 : Int32) (μ : xm) : Option (Int32 × xm) := if (μ.1 iM 15) = 6 then (xbd (fX12_wrongAt 5 (μ.1 iM 12) μ) fun q5 => xbd (xz q5.1) fun z6 => some (z6, q5.2)) else (xlt (xpI μ iM 15 ((μ.1 iM 15) + 1)) fun μ1 => xbd (xsI μ1 iM_waits 220 (μ1.1 iM 17) (1048576 * p0)) fun μ2 => xlt (xpI μ2 iM 17 ((μ2.1 iM 17) + 1)) fun μ3 => xlt (xpI μ3 iM 12 ((μ3.1 iM 12) + 1)) fun μ4 => some (1, μ4))
set_option maxHeartbeats 4000000 in
set_option maxRecDepth 100000 in
theorem kX12_opens {E : xE} {d : Nat} {QQ : xP} (hd : 1 ≤ d) {p0 : Int32} {μ : xm} {R : xr} {n : Nat} (hF : xFin R n)  {res : Int32 × xm} (h : fX12_opens p0 μ = some res) (hQ : QQ (some (.int res.1)) (xσ res.2 R) n) : xCon E d Y_X12_opens 0 0 [.ref (E.2.2.2 + iM), .int p0] (xσ μ R) n QQ := by
  refine xCon_of pn_RX12 (Nat.le_of_ble_eq_true rfl) (L0 := [(0, .ref (E.2.2.2 + iM)), (1, .int p0)]) rfl ?_
  unfold fX12_opens at h
  refine ev_aload_n 0 dX12_opens_0 rfl rfl ?_
  refine xv_getI cl_12 lk_RX12_237 kd_61 (xl hF rfl) (fun _ => rfl) dX12_opens_1 ?_
  refine ev_bipush (v := 6) dX12_opens_4 (by decide) ?_
  refine ev_icmp_ne (tgt := 19) dX12_opens_6 (by decide) (fun c6 => ?_) (fun c6 => ?_)
  · replace h := xif_f c6 h
    refine ev_aload_n 0 dX12_opens_19 rfl rfl ?_
    refine ev_aload_n 0 dX12_opens_20 rfl rfl ?_
    refine xv_getI cl_12 lk_RX12_237 kd_61 (xl hF rfl) (fun _ => rfl) dX12_opens_21 ?_
    refine ev_iconst (v := 1) dX12_opens_24 (by decide) ?_
    refine ev_iadd dX12_opens_25 ?_
    obtain ⟨μ1, hμ1, h⟩ := xlt_some h
    refine xv_putI cl_12 lk_RX12_237 rfl kd_61 (xl hF rfl) rfl rfl (fun _ => rfl) hμ1 dX12_opens_26 ?_
    refine ev_aload_n 0 dX12_opens_29 rfl rfl ?_
    refine xv_getF (a := iM_waits) cl_12 lk_RX12_36 kd_61 (xl hF rfl) (fun _ => rfl) (fr_61_22 hF) dX12_opens_30 ?_
    refine ev_aload_n 0 dX12_opens_33 rfl rfl ?_
    refine xv_getI cl_12 lk_RX12_240 kd_61 (xl hF rfl) (fun _ => rfl) dX12_opens_34 ?_
    refine ev_ldc (v := 1048576) m_1554 dX12_opens_37 ?_
    refine ev_iload_n 1 dX12_opens_39 rfl rfl ?_
    refine ev_imul dX12_opens_40 ?_
    obtain ⟨μ2, hμ2, h⟩ := xbd_some h
    refine xv_iast kd_70 (xl hF rfl) hμ2 dX12_opens_41 ?_
    refine ev_aload_n 0 dX12_opens_42 rfl rfl ?_
    refine ev_aload_n 0 dX12_opens_43 rfl rfl ?_
    refine xv_getI cl_12 lk_RX12_240 kd_61 (xl hF rfl) (fun _ => rfl) dX12_opens_44 ?_
    refine ev_iconst (v := 1) dX12_opens_47 (by decide) ?_
    refine ev_iadd dX12_opens_48 ?_
    obtain ⟨μ3, hμ3, h⟩ := xlt_some h
    refine xv_putI cl_12 lk_RX12_240 rfl kd_61 (xl hF rfl) rfl rfl (fun _ => rfl) hμ3 dX12_opens_49 ?_
    refine ev_aload_n 0 dX12_opens_52 rfl rfl ?_
    refine ev_aload_n 0 dX12_opens_53 rfl rfl ?_
    refine xv_getI cl_12 lk_RX12_210 kd_61 (xl hF rfl) (fun _ => rfl) dX12_opens_54 ?_
    refine ev_iconst (v := 1) dX12_opens_57 (by decide) ?_
    refine ev_iadd dX12_opens_58 ?_
    obtain ⟨μ4, hμ4, h⟩ := xlt_some h
    refine xv_putI cl_12 lk_RX12_210 rfl kd_61 (xl hF rfl) rfl rfl (fun _ => rfl) hμ4 dX12_opens_59 ?_
    refine ev_iconst (v := 1) dX12_opens_62 (by decide) ?_
    cases h
    exact ev_zret rfl (Or.inr rfl) (hQ) dX12_opens_63 (Nat.zero_le _) (Nat.zero_le _)
  · replace h := xif_t c6 h
    refine ev_aload_n 0 dX12_opens_9 rfl rfl ?_
    refine ev_iconst (v := 5) dX12_opens_10 (by decide) ?_
    refine ev_aload_n 0 dX12_opens_11 rfl rfl ?_
    refine xv_getI cl_12 lk_RX12_210 kd_61 (xl hF rfl) (fun _ => rfl) dX12_opens_12 ?_
    obtain ⟨q5, hq5, h⟩ := xbd_some h
    refine ev_callV (ci := 12) (rest := []) 2 (kX12_wrongAt (E := E) (d := 0) (QQ := (fun v τ n' => v = some (.int q5.1) ∧ τ = xσ q5.2 R ∧ n = n')) (Nat.le_refl _) hF hq5 (⟨rfl, rfl, rfl⟩)) my_X12_wrongAt ⟨m_1538, m_1540, m_52⟩ cl_12 kd_61 (xl hF rfl) rfl rfl (Nat.le_of_ble_eq_true rfl) (Nat.le_trans (by decide) hd) (xlo (by decide) (Nat.le_trans (by decide) hd)) (Nat.zero_le _) (Nat.zero_le _) dX12_opens_15 (fun v τ n' hv => ?_)
    obtain ⟨rfl, rfl, rfl⟩ := hv
    show Ev E (xcm E d 0 0 QQ) Y_X12_opens 18 [(0, .ref (E.2.2.2 + iM)), (1, .int p0)] [.int q5.1] (xσ q5.2 R) n 0 0
    obtain ⟨z6, hz6, h⟩ := xbd_some h
    obtain ⟨hzz6, hez6⟩ := xz_some hz6
    rw [hez6]
    cases h
    exact ev_zret rfl hzz6 (hQ) dX12_opens_18 (Nat.zero_le _) (Nat.zero_le _)
def fX12_seed (p0 : Int32) (μ : xm) : Option (Int32 × xm) := xbd (fX12_in p0 0 65535) fun q1 => if q1 = 0 then (some (0, μ)) else (xlt (xpI μ iM 2 p0) fun μ2 => some (1, μ2))
set_option maxHeartbeats 4000000 in
set_option maxRecDepth 100000 in
theorem kX12_seed {E : xE} {d : Nat} {QQ : xP} (hd : 1 ≤ d) {p0 : Int32} {μ : xm} {R : xr} {n : Nat} (hF : xFin R n)  {res : Int32 × xm} (h : fX12_seed p0 μ = some res) (hQ : QQ (some (.int res.1)) (xσ res.2 R) n) : xCon E d Y_X12_seed 0 0 [.ref (E.2.2.2 + iM), .int p0] (xσ μ R) n QQ := by
  refine xCon_of pn_RX12 (Nat.le_of_ble_eq_true rfl) (L0 := [(0, .ref (E.2.2.2 + iM)), (1, .int p0)]) rfl ?_
  unfold fX12_seed at h
  refine ev_iload_n 1 dX12_seed_0 rfl rfl ?_
  refine ev_iconst (v := 0) dX12_seed_1 (by decide) ?_
  refine ev_ldcw (v := 65535) m_1853 dX12_seed_2 ?_
  obtain ⟨q1, hq1, h⟩ := xbd_some h
  refine ev_callS (As := [.int p0, .int 0, .int 65535]) (rest := []) 3 (kX12_in (E := E) (d := 0) (QQ := (fun v τ n' => v = some (.int q1) ∧ τ = xσ μ R ∧ n = n')) (Nat.le_refl _)  hq1 (⟨rfl, rfl, rfl⟩)) my_X12_in ⟨m_1449, m_1450⟩ rfl rfl (Nat.le_of_ble_eq_true rfl) (Nat.le_trans (by decide) hd) (xlo (by decide) (Nat.le_trans (by decide) hd)) (Nat.zero_le _) (Nat.zero_le _) dX12_seed_5 (fun v τ n' hv => ?_)
  obtain ⟨rfl, rfl, rfl⟩ := hv
  show Ev E (xcm E d 0 0 QQ) Y_X12_seed 8 [(0, .ref (E.2.2.2 + iM)), (1, .int p0)] [.int q1] (xσ μ R) n 0 0
  refine ev_if_ne (tgt := 13) dX12_seed_8 (by decide) (fun c8 => ?_) (fun c8 => ?_)
  · replace h := xif_f c8 h
    refine ev_aload_n 0 dX12_seed_13 rfl rfl ?_
    refine ev_iload_n 1 dX12_seed_14 rfl rfl ?_
    obtain ⟨μ2, hμ2, h⟩ := xlt_some h
    refine xv_putI cl_12 lk_RX12_152 rfl kd_61 (xl hF rfl) rfl rfl (fun _ => rfl) hμ2 dX12_seed_15 ?_
    refine ev_iconst (v := 1) dX12_seed_18 (by decide) ?_
    cases h
    exact ev_zret rfl (Or.inr rfl) (hQ) dX12_seed_19 (Nat.zero_le _) (Nat.zero_le _)
  · replace h := xif_t c8 h
    refine ev_iconst (v := 0) dX12_seed_11 (by decide) ?_
    cases h
    exact ev_zret rfl (Or.inl rfl) (hQ) dX12_seed_12 (Nat.zero_le _) (Nat.zero_le _)
def fX12_takes (p0 : Int32) (μ : xm) : Option (Int32 × xm) := xbd (fX12_here μ) fun q1 => if q1 = p0 then (xlt (xpI μ iM 12 ((μ.1 iM 12) + 1)) fun μ2 => some (1, μ2)) else (xbd (fX12_wrongAt 1 (μ.1 iM 12) μ) fun q3 => xbd (xz q3.1) fun z4 => some (z4, q3.2))
set_option maxHeartbeats 4000000 in
set_option maxRecDepth 100000 in
theorem kX12_takes {E : xE} {d : Nat} {QQ : xP} (hd : 1 ≤ d) {p0 : Int32} {μ : xm} {R : xr} {n : Nat} (hF : xFin R n)  {res : Int32 × xm} (h : fX12_takes p0 μ = some res) (hQ : QQ (some (.int res.1)) (xσ res.2 R) n) : xCon E d Y_X12_takes 0 0 [.ref (E.2.2.2 + iM), .int p0] (xσ μ R) n QQ := by
  refine xCon_of pn_RX12 (Nat.le_of_ble_eq_true rfl) (L0 := [(0, .ref (E.2.2.2 + iM)), (1, .int p0)]) rfl ?_
  unfold fX12_takes at h
  refine ev_aload_n 0 dX12_takes_0 rfl rfl ?_
  obtain ⟨q1, hq1, h⟩ := xbd_some h
  refine ev_callV (ci := 12) (rest := []) 0 (kX12_here (E := E) (d := 0) (QQ := (fun v τ n' => v = some (.int q1) ∧ τ = xσ μ R ∧ n = n')) (Nat.le_refl _) hF hq1 (⟨rfl, rfl, rfl⟩)) my_X12_here ⟨m_1534, m_1536, m_51⟩ cl_12 kd_61 (xl hF rfl) rfl rfl (Nat.le_of_ble_eq_true rfl) (Nat.le_trans (by decide) hd) (xlo (by decide) (Nat.le_trans (by decide) hd)) (Nat.zero_le _) (Nat.zero_le _) dX12_takes_1 (fun v τ n' hv => ?_)
  obtain ⟨rfl, rfl, rfl⟩ := hv
  show Ev E (xcm E d 0 0 QQ) Y_X12_takes 4 [(0, .ref (E.2.2.2 + iM)), (1, .int p0)] [.int q1] (xσ μ R) n 0 0
  refine ev_iload_n 1 dX12_takes_4 rfl rfl ?_
  refine ev_icmp_eq (tgt := 18) dX12_takes_5 (by decide) (fun c5 => ?_) (fun c5 => ?_)
  · replace h := xif_t c5 h
    refine ev_aload_n 0 dX12_takes_18 rfl rfl ?_
    refine ev_aload_n 0 dX12_takes_19 rfl rfl ?_
    refine xv_getI cl_12 lk_RX12_210 kd_61 (xl hF rfl) (fun _ => rfl) dX12_takes_20 ?_
    refine ev_iconst (v := 1) dX12_takes_23 (by decide) ?_
    refine ev_iadd dX12_takes_24 ?_
    obtain ⟨μ2, hμ2, h⟩ := xlt_some h
    refine xv_putI cl_12 lk_RX12_210 rfl kd_61 (xl hF rfl) rfl rfl (fun _ => rfl) hμ2 dX12_takes_25 ?_
    refine ev_iconst (v := 1) dX12_takes_28 (by decide) ?_
    cases h
    exact ev_zret rfl (Or.inr rfl) (hQ) dX12_takes_29 (Nat.zero_le _) (Nat.zero_le _)
  · replace h := xif_f c5 h
    refine ev_aload_n 0 dX12_takes_8 rfl rfl ?_
    refine ev_iconst (v := 1) dX12_takes_9 (by decide) ?_
    refine ev_aload_n 0 dX12_takes_10 rfl rfl ?_
    refine xv_getI cl_12 lk_RX12_210 kd_61 (xl hF rfl) (fun _ => rfl) dX12_takes_11 ?_
    obtain ⟨q3, hq3, h⟩ := xbd_some h
    refine ev_callV (ci := 12) (rest := []) 2 (kX12_wrongAt (E := E) (d := 0) (QQ := (fun v τ n' => v = some (.int q3.1) ∧ τ = xσ q3.2 R ∧ n = n')) (Nat.le_refl _) hF hq3 (⟨rfl, rfl, rfl⟩)) my_X12_wrongAt ⟨m_1538, m_1540, m_52⟩ cl_12 kd_61 (xl hF rfl) rfl rfl (Nat.le_of_ble_eq_true rfl) (Nat.le_trans (by decide) hd) (xlo (by decide) (Nat.le_trans (by decide) hd)) (Nat.zero_le _) (Nat.zero_le _) dX12_takes_14 (fun v τ n' hv => ?_)
    obtain ⟨rfl, rfl, rfl⟩ := hv
    show Ev E (xcm E d 0 0 QQ) Y_X12_takes 17 [(0, .ref (E.2.2.2 + iM)), (1, .int p0)] [.int q3.1] (xσ q3.2 R) n 0 0
    obtain ⟨z4, hz4, h⟩ := xbd_some h
    obtain ⟨hzz4, hez4⟩ := xz_some hz4
    rw [hez4]
    cases h
    exact ev_zret rfl hzz4 (hQ) dX12_takes_17 (Nat.zero_le _) (Nat.zero_le _)
def fX12_wayAt_j23 (x2 : Int32) (p0 : Int32) (p2 : Int32) (μ : xm) : Option (Int32) := if p2 = 0 then (some (x2 + 0)) else (xbd (fX12_isCrossing p0 μ) fun q3 => if q3 = 0 then (some (x2 + 0)) else (some (x2 + (μ.1 iM 55))))
def fX12_wayAt (p0 : Int32) (p1 : Int32) (p2 : Int32) (μ : xm) : Option (Int32) := xbd (xgI μ iM_endMany 8 p0) fun v1 => if v1 = 0 then (fX12_wayAt_j23 0 p0 p2 μ) else (xbd (xgI μ iM_endMinutes 40 ((5 * p0) + p1)) fun v4 => fX12_wayAt_j23 v4 p0 p2 μ)
set_option maxHeartbeats 4000000 in
set_option maxRecDepth 100000 in
theorem kX12_wayAt {E : xE} {d : Nat} {QQ : xP} (hd : 1 ≤ d) {p0 : Int32} {p1 : Int32} {p2 : Int32} {μ : xm} {R : xr} {n : Nat} (hF : xFin R n)  {res : Int32} (h : fX12_wayAt p0 p1 p2 μ = some res) (hQ : QQ (some (.int res)) (xσ μ R) n) : xCon E d Y_X12_wayAt 0 0 [.ref (E.2.2.2 + iM), .int p0, .int p1, .int p2] (xσ μ R) n QQ := by
  refine xCon_of pn_RX12 (Nat.le_of_ble_eq_true rfl) (L0 := [(0, .ref (E.2.2.2 + iM)), (1, .int p0), (2, .int p1), (3, .int p2)]) rfl ?_
  unfold fX12_wayAt at h
  refine ev_aload_n 0 dX12_wayAt_0 rfl rfl ?_
  refine xv_getF (a := iM_endMany) cl_12 lk_RX12_123 kd_61 (xl hF rfl) (fun _ => rfl) (fr_61_57 hF) dX12_wayAt_1 ?_
  refine ev_iload_n 1 dX12_wayAt_4 rfl rfl ?_
  obtain ⟨v1, hv1, h⟩ := xbd_some h
  refine xv_iald kd_99 (xl hF rfl) hv1 dX12_wayAt_5 ?_
  have j23 : ∀ (x2 : Int32), fX12_wayAt_j23 x2 p0 p2 μ = some res → Ev E (xcm E d 0 0 QQ) Y_X12_wayAt 23 [(0, .ref (E.2.2.2 + iM)), (1, .int p0), (3, .int p2)] [.int x2] (xσ μ R) n 0 0 := by
    intro x2 h
    unfold fX12_wayAt_j23 at h
    refine ev_iload_n 2 dX12_wayAt_23 rfl rfl ?_
    refine ev_if_eq (tgt := 42) dX12_wayAt_24 (by decide) (fun c24 => ?_) (fun c24 => ?_)
    · replace h := xif_t c24 h
      refine ev_iconst (v := 0) dX12_wayAt_42 (by decide) ?_
      refine ev_iadd dX12_wayAt_43 ?_
      cases h
      exact ev_iret rfl (hQ) dX12_wayAt_44 (Nat.zero_le _) (Nat.zero_le _)
    · replace h := xif_f c24 h
      refine ev_aload_n 0 dX12_wayAt_27 rfl rfl ?_
      refine ev_iload_n 1 dX12_wayAt_28 rfl rfl ?_
      obtain ⟨q3, hq3, h⟩ := xbd_some h
      refine ev_callV (ci := 12) (rest := [.int x2]) 1 (kX12_isCrossing (E := E) (d := 0) (QQ := (fun v τ n' => v = some (.int q3) ∧ τ = xσ μ R ∧ n = n')) (Nat.le_refl _) hF hq3 (⟨rfl, rfl, rfl⟩)) my_X12_isCrossing ⟨m_1738, m_1740, m_85⟩ cl_12 kd_61 (xl hF rfl) rfl rfl (Nat.le_of_ble_eq_true rfl) (Nat.le_trans (by decide) hd) (xlo (by decide) (Nat.le_trans (by decide) hd)) (Nat.zero_le _) (Nat.zero_le _) dX12_wayAt_29 (fun v τ n' hv => ?_)
      obtain ⟨rfl, rfl, rfl⟩ := hv
      show Ev E (xcm E d 0 0 QQ) Y_X12_wayAt 32 [(0, .ref (E.2.2.2 + iM)), (1, .int p0), (3, .int p2)] [.int q3, .int x2] (xσ μ R) n 0 0
      refine ev_if_eq (tgt := 42) dX12_wayAt_32 (by decide) (fun c32 => ?_) (fun c32 => ?_)
      · replace h := xif_t c32 h
        refine ev_iconst (v := 0) dX12_wayAt_42 (by decide) ?_
        refine ev_iadd dX12_wayAt_43 ?_
        cases h
        exact ev_iret rfl (hQ) dX12_wayAt_44 (Nat.zero_le _) (Nat.zero_le _)
      · replace h := xif_f c32 h
        refine ev_aload_n 0 dX12_wayAt_35 rfl rfl ?_
        refine xv_getI cl_12 lk_RX12_377 kd_61 (xl hF rfl) (fun _ => rfl) dX12_wayAt_36 ?_
        refine ev_goto (tgt := 43) dX12_wayAt_39 (by decide) ?_
        refine ev_iadd dX12_wayAt_43 ?_
        cases h
        exact ev_iret rfl (hQ) dX12_wayAt_44 (Nat.zero_le _) (Nat.zero_le _)
  refine ev_if_ne (tgt := 13) dX12_wayAt_6 (by decide) (fun c6 => ?_) (fun c6 => ?_)
  · replace h := xif_f c6 h
    refine ev_aload_n 0 dX12_wayAt_13 rfl rfl ?_
    refine xv_getF (a := iM_endMinutes) cl_12 lk_RX12_126 kd_61 (xl hF rfl) (fun _ => rfl) (fr_61_58 hF) dX12_wayAt_14 ?_
    refine ev_iconst (v := 5) dX12_wayAt_17 (by decide) ?_
    refine ev_iload_n 1 dX12_wayAt_18 rfl rfl ?_
    refine ev_imul dX12_wayAt_19 ?_
    refine ev_iload_n 2 dX12_wayAt_20 rfl rfl ?_
    refine ev_iadd dX12_wayAt_21 ?_
    obtain ⟨v4, hv4, h⟩ := xbd_some h
    refine xv_iald kd_100 (xl hF rfl) hv4 dX12_wayAt_22 ?_
    exact ev_sub [0, 1, 3] rfl (j23 _ h)
  · replace h := xif_t c6 h
    refine ev_iconst (v := 0) dX12_wayAt_9 (by decide) ?_
    refine ev_goto (tgt := 23) dX12_wayAt_10 (by decide) ?_
    exact ev_sub [0, 1, 3] rfl (j23 _ h)
def fX12_weightsOf_b4 (x1 : Int32) (x2 : Int32) (p0 : Int32) (μ : xm) : Option ((Int32 × Int32) ⊕ (Int32)) := xbd (fX12_endsOf p0 μ) fun q4 => if q4 ≤ x2 then (some (.inr x1)) else (xbd (fX12_weightAt p0 x2 μ) fun q5 => xlt (x1 + q5) fun x6 => xlt (x2 + 1) fun x7 => some (.inl (x6, x7)))
def fX12_weightsOf (p0 : Int32) (μ : xm) : Option (Int32) := xbd (xloop xfu (fun v => fX12_weightsOf_b4 v.1 v.2 p0 μ) (0, 0)) fun q8 => some q8
set_option maxHeartbeats 4000000 in
set_option maxRecDepth 100000 in
theorem kX12_weightsOf {E : xE} {d : Nat} {QQ : xP} (hd : 1 ≤ d) {p0 : Int32} {μ : xm} {R : xr} {n : Nat} (hF : xFin R n)  {res : Int32} (h : fX12_weightsOf p0 μ = some res) (hQ : QQ (some (.int res)) (xσ μ R) n) : xCon E d Y_X12_weightsOf 0 0 [.ref (E.2.2.2 + iM), .int p0] (xσ μ R) n QQ := by
  refine xCon_of pn_RX12 (Nat.le_of_ble_eq_true rfl) (L0 := [(0, .ref (E.2.2.2 + iM)), (1, .int p0)]) rfl ?_
  unfold fX12_weightsOf at h
  refine ev_iconst (v := 0) dX12_weightsOf_0 (by decide) ?_
  refine xv_istore_n (L' := [(2, .int 0), (0, .ref (E.2.2.2 + iM)), (1, .int p0)]) rfl dX12_weightsOf_1 rfl (Nat.le_of_ble_eq_true rfl) rfl ?_
  refine ev_iconst (v := 0) dX12_weightsOf_2 (by decide) ?_
  refine xv_istore_n (L' := [(3, .int 0), (2, .int 0), (0, .ref (E.2.2.2 + iM)), (1, .int p0)]) rfl dX12_weightsOf_3 rfl (Nat.le_of_ble_eq_true rfl) rfl ?_
  obtain ⟨q8, hq8, h⟩ := xbd_some h
  refine ev_sub (L' := [(0, .ref (E.2.2.2 + iM)), (1, .int p0), (2, .int 0), (3, .int 0)]) [2, 3, 1, 0] rfl ?_
  refine xloop_run (fun v => Ev E (xcm E d 0 0 QQ) Y_X12_weightsOf 4 [(0, .ref (E.2.2.2 + iM)), (1, .int p0), (2, .int v.1), (3, .int v.2)] [] (xσ μ R) n 0 0) (fun v => Ev E (xcm E d 0 0 QQ) Y_X12_weightsOf 28 [(2, .int v)] [] (xσ μ R) n 0 0) ?_ _ _ _ hq8 ?_
  · rintro ⟨x1, x2⟩ y3 h hk
    replace h : fX12_weightsOf_b4 x1 x2 p0 μ = some y3 := h
    show Ev E (xcm E d 0 0 QQ) Y_X12_weightsOf 4 [(0, .ref (E.2.2.2 + iM)), (1, .int p0), (2, .int x1), (3, .int x2)] [] (xσ μ R) n 0 0
    unfold fX12_weightsOf_b4 at h
    refine ev_iload_n 3 dX12_weightsOf_4 rfl rfl ?_
    refine ev_aload_n 0 dX12_weightsOf_5 rfl rfl ?_
    refine ev_iload_n 1 dX12_weightsOf_6 rfl rfl ?_
    obtain ⟨q4, hq4, h⟩ := xbd_some h
    refine ev_callV (ci := 12) (rest := [.int x2]) 1 (kX12_endsOf (E := E) (d := 0) (QQ := (fun v τ n' => v = some (.int q4) ∧ τ = xσ μ R ∧ n = n')) (Nat.le_refl _) hF hq4 (⟨rfl, rfl, rfl⟩)) my_X12_endsOf ⟨m_1754, m_1756, m_88⟩ cl_12 kd_61 (xl hF rfl) rfl rfl (Nat.le_of_ble_eq_true rfl) (Nat.le_trans (by decide) hd) (xlo (by decide) (Nat.le_trans (by decide) hd)) (Nat.zero_le _) (Nat.zero_le _) dX12_weightsOf_7 (fun v τ n' hv => ?_)
    obtain ⟨rfl, rfl, rfl⟩ := hv
    show Ev E (xcm E d 0 0 QQ) Y_X12_weightsOf 10 [(0, .ref (E.2.2.2 + iM)), (1, .int p0), (2, .int x1), (3, .int x2)] [.int q4, .int x2] (xσ μ R) n 0 0
    refine ev_icmp_ge (tgt := 28) dX12_weightsOf_10 (by decide) (fun c10 => ?_) (fun c10 => ?_)
    · replace h := xif_t c10 h
      cases h
      replace hk := xel_r hk
      exact ev_sub [2] rfl (hk)
    · replace h := xif_f c10 h
      refine ev_iload_n 2 dX12_weightsOf_13 rfl rfl ?_
      refine ev_aload_n 0 dX12_weightsOf_14 rfl rfl ?_
      refine ev_iload_n 1 dX12_weightsOf_15 rfl rfl ?_
      refine ev_iload_n 3 dX12_weightsOf_16 rfl rfl ?_
      obtain ⟨q5, hq5, h⟩ := xbd_some h
      refine ev_callV (ci := 12) (rest := [.int x1]) 2 (kX12_weightAt (E := E) (d := 0) (QQ := (fun v τ n' => v = some (.int q5) ∧ τ = xσ μ R ∧ n = n')) (Nat.le_refl _) hF hq5 (⟨rfl, rfl, rfl⟩)) my_X12_weightAt ⟨m_1762, m_1764, m_90⟩ cl_12 kd_61 (xl hF rfl) rfl rfl (Nat.le_of_ble_eq_true rfl) (Nat.le_trans (by decide) hd) (xlo (by decide) (Nat.le_trans (by decide) hd)) (Nat.zero_le _) (Nat.zero_le _) dX12_weightsOf_17 (fun v τ n' hv => ?_)
      obtain ⟨rfl, rfl, rfl⟩ := hv
      show Ev E (xcm E d 0 0 QQ) Y_X12_weightsOf 20 [(0, .ref (E.2.2.2 + iM)), (1, .int p0), (2, .int x1), (3, .int x2)] [.int q5, .int x1] (xσ μ R) n 0 0
      refine ev_iadd dX12_weightsOf_20 ?_
      obtain ⟨x6, hx6, h⟩ := xlt_some h
      refine xv_istore_n (L' := [(2, .int x6), (0, .ref (E.2.2.2 + iM)), (1, .int p0), (3, .int x2)]) hx6 dX12_weightsOf_21 rfl (Nat.le_of_ble_eq_true rfl) rfl ?_
      obtain ⟨x7, hx7, h⟩ := xlt_some h
      refine ev_iinc (L' := [(3, .int x7), (2, .int x6), (0, .ref (E.2.2.2 + iM)), (1, .int p0)]) 3 dX12_weightsOf_22 rfl ((by rfl : x2 + Int32.ofInt 1 = x2 + 1).trans hx7) (Nat.le_of_ble_eq_true rfl) rfl ?_
      refine ev_goto (tgt := 4) dX12_weightsOf_25 (by decide) ?_
      cases h
      replace hk := xel_l hk
      exact ev_sub [2, 3, 1, 0] rfl (hk)
  · show Ev E (xcm E d 0 0 QQ) Y_X12_weightsOf 28 [(2, .int q8)] [] (xσ μ R) n 0 0
    refine ev_iload_n 0 dX12_weightsOf_28 rfl rfl ?_
    cases h
    exact ev_iret rfl (hQ) dX12_weightsOf_29 (Nat.zero_le _) (Nat.zero_le _)
def fX12_worth (p0 : Int32) (p1 : Int32) (p2 : Int32) (μ : xm) : Option (Int32 × xm) := xbd (fX12_isPerson p0) fun q1 => if q1 = 0 then (some (0, μ)) else (xbd (fX12_in p1 0 23) fun q2 => if q2 = 0 then (some (0, μ)) else (xbd (fX12_in p2 0 99) fun q3 => if q3 = 0 then (some (0, μ)) else (xbd (xsI μ iM_worthOf 192 ((24 * p0) + p1) p2) fun μ4 => some (1, μ4))))
set_option maxHeartbeats 4000000 in
set_option maxRecDepth 100000 in
theorem kX12_worth {E : xE} {d : Nat} {QQ : xP} (hd : 1 ≤ d) {p0 : Int32} {p1 : Int32} {p2 : Int32} {μ : xm} {R : xr} {n : Nat} (hF : xFin R n)  {res : Int32 × xm} (h : fX12_worth p0 p1 p2 μ = some res) (hQ : QQ (some (.int res.1)) (xσ res.2 R) n) : xCon E d Y_X12_worth 0 0 [.ref (E.2.2.2 + iM), .int p0, .int p1, .int p2] (xσ μ R) n QQ := by
  refine xCon_of pn_RX12 (Nat.le_of_ble_eq_true rfl) (L0 := [(0, .ref (E.2.2.2 + iM)), (1, .int p0), (2, .int p1), (3, .int p2)]) rfl ?_
  unfold fX12_worth at h
  refine ev_iload_n 1 dX12_worth_0 rfl rfl ?_
  obtain ⟨q1, hq1, h⟩ := xbd_some h
  refine ev_callS (As := [.int p0]) (rest := []) 1 (kX12_isPerson (E := E) (d := 0) (QQ := (fun v τ n' => v = some (.int q1) ∧ τ = xσ μ R ∧ n = n')) (Nat.le_refl _)  hq1 (⟨rfl, rfl, rfl⟩)) my_X12_isPerson ⟨m_1456, m_1457⟩ rfl rfl (Nat.le_of_ble_eq_true rfl) (Nat.le_trans (by decide) hd) (xlo (by decide) (Nat.le_trans (by decide) hd)) (Nat.zero_le _) (Nat.zero_le _) dX12_worth_1 (fun v τ n' hv => ?_)
  obtain ⟨rfl, rfl, rfl⟩ := hv
  show Ev E (xcm E d 0 0 QQ) Y_X12_worth 4 [(0, .ref (E.2.2.2 + iM)), (1, .int p0), (2, .int p1), (3, .int p2)] [.int q1] (xσ μ R) n 0 0
  refine ev_if_eq (tgt := 27) dX12_worth_4 (by decide) (fun c4 => ?_) (fun c4 => ?_)
  · replace h := xif_t c4 h
    refine ev_iconst (v := 0) dX12_worth_27 (by decide) ?_
    cases h
    exact ev_zret rfl (Or.inl rfl) (hQ) dX12_worth_28 (Nat.zero_le _) (Nat.zero_le _)
  · replace h := xif_f c4 h
    refine ev_iload_n 2 dX12_worth_7 rfl rfl ?_
    refine ev_iconst (v := 0) dX12_worth_8 (by decide) ?_
    refine ev_bipush (v := 23) dX12_worth_9 (by decide) ?_
    obtain ⟨q2, hq2, h⟩ := xbd_some h
    refine ev_callS (As := [.int p1, .int 0, .int 23]) (rest := []) 3 (kX12_in (E := E) (d := 0) (QQ := (fun v τ n' => v = some (.int q2) ∧ τ = xσ μ R ∧ n = n')) (Nat.le_refl _)  hq2 (⟨rfl, rfl, rfl⟩)) my_X12_in ⟨m_1449, m_1450⟩ rfl rfl (Nat.le_of_ble_eq_true rfl) (Nat.le_trans (by decide) hd) (xlo (by decide) (Nat.le_trans (by decide) hd)) (Nat.zero_le _) (Nat.zero_le _) dX12_worth_11 (fun v τ n' hv => ?_)
    obtain ⟨rfl, rfl, rfl⟩ := hv
    show Ev E (xcm E d 0 0 QQ) Y_X12_worth 14 [(0, .ref (E.2.2.2 + iM)), (1, .int p0), (2, .int p1), (3, .int p2)] [.int q2] (xσ μ R) n 0 0
    refine ev_if_eq (tgt := 27) dX12_worth_14 (by decide) (fun c14 => ?_) (fun c14 => ?_)
    · replace h := xif_t c14 h
      refine ev_iconst (v := 0) dX12_worth_27 (by decide) ?_
      cases h
      exact ev_zret rfl (Or.inl rfl) (hQ) dX12_worth_28 (Nat.zero_le _) (Nat.zero_le _)
    · replace h := xif_f c14 h
      refine ev_iload_n 3 dX12_worth_17 rfl rfl ?_
      refine ev_iconst (v := 0) dX12_worth_18 (by decide) ?_
      refine ev_bipush (v := 99) dX12_worth_19 (by decide) ?_
      obtain ⟨q3, hq3, h⟩ := xbd_some h
      refine ev_callS (As := [.int p2, .int 0, .int 99]) (rest := []) 3 (kX12_in (E := E) (d := 0) (QQ := (fun v τ n' => v = some (.int q3) ∧ τ = xσ μ R ∧ n = n')) (Nat.le_refl _)  hq3 (⟨rfl, rfl, rfl⟩)) my_X12_in ⟨m_1449, m_1450⟩ rfl rfl (Nat.le_of_ble_eq_true rfl) (Nat.le_trans (by decide) hd) (xlo (by decide) (Nat.le_trans (by decide) hd)) (Nat.zero_le _) (Nat.zero_le _) dX12_worth_21 (fun v τ n' hv => ?_)
      obtain ⟨rfl, rfl, rfl⟩ := hv
      show Ev E (xcm E d 0 0 QQ) Y_X12_worth 24 [(0, .ref (E.2.2.2 + iM)), (1, .int p0), (2, .int p1), (3, .int p2)] [.int q3] (xσ μ R) n 0 0
      refine ev_if_ne (tgt := 29) dX12_worth_24 (by decide) (fun c24 => ?_) (fun c24 => ?_)
      · replace h := xif_f c24 h
        refine ev_aload_n 0 dX12_worth_29 rfl rfl ?_
        refine xv_getF (a := iM_worthOf) cl_12 lk_RX12_7 kd_61 (xl hF rfl) (fun _ => rfl) (fr_61_4 hF) dX12_worth_30 ?_
        refine ev_bipush (v := 24) dX12_worth_33 (by decide) ?_
        refine ev_iload_n 1 dX12_worth_35 rfl rfl ?_
        refine ev_imul dX12_worth_36 ?_
        refine ev_iload_n 2 dX12_worth_37 rfl rfl ?_
        refine ev_iadd dX12_worth_38 ?_
        refine ev_iload_n 3 dX12_worth_39 rfl rfl ?_
        obtain ⟨μ4, hμ4, h⟩ := xbd_some h
        refine xv_iast kd_62 (xl hF rfl) hμ4 dX12_worth_40 ?_
        refine ev_iconst (v := 1) dX12_worth_41 (by decide) ?_
        cases h
        exact ev_zret rfl (Or.inr rfl) (hQ) dX12_worth_42 (Nat.zero_le _) (Nat.zero_le _)
      · replace h := xif_t c24 h
        refine ev_iconst (v := 0) dX12_worth_27 (by decide) ?_
        cases h
        exact ev_zret rfl (Or.inl rfl) (hQ) dX12_worth_28 (Nat.zero_le _) (Nat.zero_le _)
def fX12_allCame_b2 (x1 : Int32) (p0 : Int32) (μ : xm) : Option ((Int32) ⊕ ((Unit) ⊕ (Int32))) := if 8 ≤ x1 then (some (.inr (.inl ()))) else (xbd (fX12_isOf p0 x1 μ) fun q3 => if q3 = 0 then (xlt (x1 + 1) fun x4 => some (.inl x4)) else (xbd (xgI μ iM_cameAt 192 ((8 * p0) + x1)) fun v5 => if v5 = (-1) then (some (.inr (.inr 0))) else (xlt (x1 + 1) fun x6 => some (.inl x6))))
def fX12_allCame (p0 : Int32) (μ : xm) : Option (Int32) := xbd (xloop xfu (fun v => fX12_allCame_b2 v p0 μ) 0) fun q7 => xsm q7 (fun q8 => some 1) (fun q9 => some q9)
set_option maxHeartbeats 4000000 in
set_option maxRecDepth 100000 in
theorem kX12_allCame {E : xE} {d : Nat} {QQ : xP} (hd : 2 ≤ d) {p0 : Int32} {μ : xm} {R : xr} {n : Nat} (hF : xFin R n)  {res : Int32} (h : fX12_allCame p0 μ = some res) (hQ : QQ (some (.int res)) (xσ μ R) n) : xCon E d Y_X12_allCame 0 0 [.ref (E.2.2.2 + iM), .int p0] (xσ μ R) n QQ := by
  refine xCon_of pn_RX12 (Nat.le_of_ble_eq_true rfl) (L0 := [(0, .ref (E.2.2.2 + iM)), (1, .int p0)]) rfl ?_
  unfold fX12_allCame at h
  refine ev_iconst (v := 0) dX12_allCame_0 (by decide) ?_
  refine xv_istore_n (L' := [(2, .int 0), (0, .ref (E.2.2.2 + iM)), (1, .int p0)]) rfl dX12_allCame_1 rfl (Nat.le_of_ble_eq_true rfl) rfl ?_
  obtain ⟨q7, hq7, h⟩ := xbd_some h
  refine ev_sub (L' := [(0, .ref (E.2.2.2 + iM)), (1, .int p0), (2, .int 0)]) [1, 2, 0] rfl ?_
  refine xloop_run (fun v => Ev E (xcm E d 0 0 QQ) Y_X12_allCame 2 [(0, .ref (E.2.2.2 + iM)), (1, .int p0), (2, .int v)] [] (xσ μ R) n 0 0) (xel (fun v => Ev E (xcm E d 0 0 QQ) Y_X12_allCame 40 [] [] (xσ μ R) n 0 0) (fun v => QQ (some (.int v)) (xσ μ R) n)) ?_ _ _ _ hq7 ?_
  · rintro x1 y2 h hk
    replace h : fX12_allCame_b2 x1 p0 μ = some y2 := h
    show Ev E (xcm E d 0 0 QQ) Y_X12_allCame 2 [(0, .ref (E.2.2.2 + iM)), (1, .int p0), (2, .int x1)] [] (xσ μ R) n 0 0
    unfold fX12_allCame_b2 at h
    refine ev_iload_n 2 dX12_allCame_2 rfl rfl ?_
    refine ev_bipush (v := 8) dX12_allCame_3 (by decide) ?_
    refine ev_icmp_ge (tgt := 40) dX12_allCame_5 (by decide) (fun c5 => ?_) (fun c5 => ?_)
    · replace h := xif_t c5 h
      cases h
      replace hk := xel_r hk
      replace hk := xel_l hk
      exact ev_sub [] rfl (hk)
    · replace h := xif_f c5 h
      refine ev_aload_n 0 dX12_allCame_8 rfl rfl ?_
      refine ev_iload_n 1 dX12_allCame_9 rfl rfl ?_
      refine ev_iload_n 2 dX12_allCame_10 rfl rfl ?_
      obtain ⟨q3, hq3, h⟩ := xbd_some h
      refine ev_callV (ci := 12) (rest := []) 2 (kX12_isOf (E := E) (d := 1) (QQ := (fun v τ n' => v = some (.int q3) ∧ τ = xσ μ R ∧ n = n')) (Nat.le_refl _) hF hq3 (⟨rfl, rfl, rfl⟩)) my_X12_isOf ⟨m_1470, m_1472, m_40⟩ cl_12 kd_61 (xl hF rfl) rfl rfl (Nat.le_of_ble_eq_true rfl) (Nat.le_trans (by decide) hd) (xlo (by decide) (Nat.le_trans (by decide) hd)) (Nat.zero_le _) (Nat.zero_le _) dX12_allCame_11 (fun v τ n' hv => ?_)
      obtain ⟨rfl, rfl, rfl⟩ := hv
      show Ev E (xcm E d 0 0 QQ) Y_X12_allCame 14 [(0, .ref (E.2.2.2 + iM)), (1, .int p0), (2, .int x1)] [.int q3] (xσ μ R) n 0 0
      refine ev_if_eq (tgt := 34) dX12_allCame_14 (by decide) (fun c14 => ?_) (fun c14 => ?_)
      · replace h := xif_t c14 h
        obtain ⟨x4, hx4, h⟩ := xlt_some h
        refine ev_iinc (L' := [(2, .int x4), (0, .ref (E.2.2.2 + iM)), (1, .int p0)]) 2 dX12_allCame_34 rfl ((by rfl : x1 + Int32.ofInt 1 = x1 + 1).trans hx4) (Nat.le_of_ble_eq_true rfl) rfl ?_
        refine ev_goto (tgt := 2) dX12_allCame_37 (by decide) ?_
        cases h
        replace hk := xel_l hk
        exact ev_sub [1, 2, 0] rfl (hk)
      · replace h := xif_f c14 h
        refine ev_aload_n 0 dX12_allCame_17 rfl rfl ?_
        refine xv_getF (a := iM_cameAt) cl_12 lk_RX12_22 kd_61 (xl hF rfl) (fun _ => rfl) (fr_61_8 hF) dX12_allCame_18 ?_
        refine ev_bipush (v := 8) dX12_allCame_21 (by decide) ?_
        refine ev_iload_n 1 dX12_allCame_23 rfl rfl ?_
        refine ev_imul dX12_allCame_24 ?_
        refine ev_iload_n 2 dX12_allCame_25 rfl rfl ?_
        refine ev_iadd dX12_allCame_26 ?_
        obtain ⟨v5, hv5, h⟩ := xbd_some h
        refine xv_iald kd_66 (xl hF rfl) hv5 dX12_allCame_27 ?_
        refine ev_iconst (v := (-1)) dX12_allCame_28 (by decide) ?_
        refine ev_icmp_ne (tgt := 34) dX12_allCame_29 (by decide) (fun c29 => ?_) (fun c29 => ?_)
        · replace h := xif_f c29 h
          obtain ⟨x6, hx6, h⟩ := xlt_some h
          refine ev_iinc (L' := [(2, .int x6), (0, .ref (E.2.2.2 + iM)), (1, .int p0)]) 2 dX12_allCame_34 rfl ((by rfl : x1 + Int32.ofInt 1 = x1 + 1).trans hx6) (Nat.le_of_ble_eq_true rfl) rfl ?_
          refine ev_goto (tgt := 2) dX12_allCame_37 (by decide) ?_
          cases h
          replace hk := xel_l hk
          exact ev_sub [1, 2, 0] rfl (hk)
        · replace h := xif_t c29 h
          refine ev_iconst (v := 0) dX12_allCame_32 (by decide) ?_
          cases h
          replace hk := xel_r hk
          replace hk := xel_r hk
          exact ev_zret rfl (Or.inl rfl) (hk) dX12_allCame_33 (Nat.zero_le _) (Nat.zero_le _)
  · rcases q7 with q8 | q9
    · replace h := xsm_l h
      show Ev E (xcm E d 0 0 QQ) Y_X12_allCame 40 [] [] (xσ μ R) n 0 0
      refine ev_iconst (v := 1) dX12_allCame_40 (by decide) ?_
      cases h
      exact ev_zret rfl (Or.inr rfl) (hQ) dX12_allCame_41 (Nat.zero_le _) (Nat.zero_le _)
    · replace h := xsm_r h
      cases h
      exact hQ
def fX12_allWith_b6 (x1 : Int32) (x2 : Int32) (μ : xm) : Option ((Int32 × Int32) ⊕ (Int32)) := if (μ.1 iM 61) ≤ x2 then (some (.inr x1)) else (xbd (xgI μ iM_goer 4 x2) fun v4 => xbd (fX12_endsOf v4 μ) fun q5 => xlt (x1 * q5) fun x6 => xlt (x2 + 1) fun x7 => some (.inl (x6, x7)))
def fX12_allWith_b66 (x15 : Int32) (x16 : Int64) (x17 : Int32) (μ18 : xm) (p0 : Int32) (p3 : Int32) : Option ((Int32 × Int64 × Int32 × xm) ⊕ (Int64 × xm)) := if (μ18.1 iM 61) ≤ x17 then (some (.inr (x16, μ18))) else (xbd (xgI μ18 iM_goer 4 x17) fun v20 => xbd (fX12_endsOf v20 μ18) fun q21 => xbd (xrem x15 q21) fun v22 => xbd (xgI μ18 iM_goer 4 x17) fun v23 => xbd (fX12_endsOf v23 μ18) fun q24 => xbd (xdiv x15 q24) fun v25 => xbd (xgI μ18 iM_goer 4 x17) fun v26 => xbd (fX12_weightAt v26 v22 μ18) fun q27 => xlt (x16 * q27.toInt64) fun x28 => xbd (xgI μ18 iM_minuteOf 24 p0) fun v29 => xbd (xgI μ18 iM_aheadOf 4 x17) fun v30 => xbd (xgI μ18 iM_goer 4 x17) fun v31 => xbd (fX12_wayAt v31 v22 p3 μ18) fun q32 => xbd (xsI μ18 iM_comesAt 4 x17 ((v29 - v30) + q32)) fun μ33 => xlt (x17 + 1) fun x34 => some (.inl (v25, x28, x34, μ33)))
def fX12_allWith_b43 (x9 : Int64) (x10 : Int32) (μ11 : xm) (p0 : Int32) (p1 : Int32) (p2 : Int32) (p3 : Int32) (q8 : Int32) : Option ((Int64 × Int32 × xm) ⊕ (Int64 × xm)) := if q8 ≤ x10 then (some (.inr (x9, μ11))) else (xbd (fX12_bridgeWeight p3 μ11) fun q13 => xlt q13.toInt64 fun x14 => xbd (xloop xfu (fun v => fX12_allWith_b66 v.1 v.2.1 v.2.2.1 v.2.2.2 p0 p3) (x10, x14, 0, μ11)) fun q35 => xbd (fX12_dayCost p0 p1 p2 q35.2) fun q36 => xlt (x9 + (q35.1 * q36)) fun x37 => xlt (x10 + 1) fun x38 => some (.inl (x37, x38, q35.2)))
def fX12_allWith (p0 : Int32) (p1 : Int32) (p2 : Int32) (p3 : Int32) (μ : xm) : Option (Int64 × xm) := xbd (xloop xfu (fun v => fX12_allWith_b6 v.1 v.2 μ) (1, 0)) fun q8 => xbd (xloop xfu (fun v => fX12_allWith_b43 v.1 v.2.1 v.2.2 p0 p1 p2 p3 q8) (0, 0, μ)) fun q39 => some (q39.1, q39.2)
set_option maxHeartbeats 4000000 in
set_option maxRecDepth 100000 in
theorem kX12_allWith {E : xE} {d : Nat} {QQ : xP} (hd : 2 ≤ d) {p0 : Int32} {p1 : Int32} {p2 : Int32} {p3 : Int32} {μ : xm} {R : xr} {n : Nat} (hF : xFin R n)  {res : Int64 × xm} (h : fX12_allWith p0 p1 p2 p3 μ = some res) (hQ : QQ (some (.long res.1)) (xσ res.2 R) n) : xCon E d Y_X12_allWith 0 0 [.ref (E.2.2.2 + iM), .int p0, .int p1, .int p2, .int p3] (xσ μ R) n QQ := by
  refine xCon_of pn_RX12 (Nat.le_of_ble_eq_true rfl) (L0 := [(0, .ref (E.2.2.2 + iM)), (1, .int p0), (2, .int p1), (3, .int p2), (4, .int p3)]) rfl ?_
  unfold fX12_allWith at h
  refine ev_iconst (v := 1) dX12_allWith_0 (by decide) ?_
  refine xv_istore (L' := [(5, .int 1), (0, .ref (E.2.2.2 + iM)), (1, .int p0), (2, .int p1), (3, .int p2), (4, .int p3)]) rfl dX12_allWith_1 (Nat.le_of_ble_eq_true rfl) rfl ?_
  refine ev_iconst (v := 0) dX12_allWith_3 (by decide) ?_
  refine xv_istore (L' := [(6, .int 0), (5, .int 1), (0, .ref (E.2.2.2 + iM)), (1, .int p0), (2, .int p1), (3, .int p2), (4, .int p3)]) rfl dX12_allWith_4 (Nat.le_of_ble_eq_true rfl) rfl ?_
  obtain ⟨q8, hq8, h⟩ := xbd_some h
  refine ev_sub (L' := [(0, .ref (E.2.2.2 + iM)), (1, .int p0), (2, .int p1), (3, .int p2), (4, .int p3), (5, .int 1), (6, .int 0)]) [2, 3, 4, 5, 6, 1, 0] rfl ?_
  refine xloop_run (fun v => Ev E (xcm E d 0 0 QQ) Y_X12_allWith 6 [(0, .ref (E.2.2.2 + iM)), (1, .int p0), (2, .int p1), (3, .int p2), (4, .int p3), (5, .int v.1), (6, .int v.2)] [] (xσ μ R) n 0 0) (fun v => Ev E (xcm E d 0 0 QQ) Y_X12_allWith 37 [(0, .ref (E.2.2.2 + iM)), (1, .int p0), (2, .int p1), (3, .int p2), (4, .int p3), (5, .int v)] [] (xσ μ R) n 0 0) ?_ _ _ _ hq8 ?_
  · rintro ⟨x1, x2⟩ y3 h hk
    replace h : fX12_allWith_b6 x1 x2 μ = some y3 := h
    show Ev E (xcm E d 0 0 QQ) Y_X12_allWith 6 [(0, .ref (E.2.2.2 + iM)), (1, .int p0), (2, .int p1), (3, .int p2), (4, .int p3), (5, .int x1), (6, .int x2)] [] (xσ μ R) n 0 0
    unfold fX12_allWith_b6 at h
    refine ev_iload 6 dX12_allWith_6 rfl ?_
    refine ev_aload_n 0 dX12_allWith_8 rfl rfl ?_
    refine xv_getI cl_12 lk_RX12_439 kd_61 (xl hF rfl) (fun _ => rfl) dX12_allWith_9 ?_
    refine ev_icmp_ge (tgt := 37) dX12_allWith_12 (by decide) (fun c12 => ?_) (fun c12 => ?_)
    · replace h := xif_t c12 h
      cases h
      replace hk := xel_r hk
      exact ev_sub [0, 1, 2, 3, 4, 5] rfl (hk)
    · replace h := xif_f c12 h
      refine ev_iload 5 dX12_allWith_15 rfl ?_
      refine ev_aload_n 0 dX12_allWith_17 rfl rfl ?_
      refine ev_aload_n 0 dX12_allWith_18 rfl rfl ?_
      refine xv_getF (a := iM_goer) cl_12 lk_RX12_136 kd_61 (xl hF rfl) (fun _ => rfl) (fr_61_62 hF) dX12_allWith_19 ?_
      refine ev_iload 6 dX12_allWith_22 rfl ?_
      obtain ⟨v4, hv4, h⟩ := xbd_some h
      refine xv_iald kd_103 (xl hF rfl) hv4 dX12_allWith_24 ?_
      obtain ⟨q5, hq5, h⟩ := xbd_some h
      refine ev_callV (ci := 12) (rest := [.int x1]) 1 (kX12_endsOf (E := E) (d := 0) (QQ := (fun v τ n' => v = some (.int q5) ∧ τ = xσ μ R ∧ n = n')) (Nat.le_refl _) hF hq5 (⟨rfl, rfl, rfl⟩)) my_X12_endsOf ⟨m_1754, m_1756, m_88⟩ cl_12 kd_61 (xl hF rfl) rfl rfl (Nat.le_of_ble_eq_true rfl) (Nat.le_trans (by decide) hd) (xlo (by decide) (Nat.le_trans (by decide) hd)) (Nat.zero_le _) (Nat.zero_le _) dX12_allWith_25 (fun v τ n' hv => ?_)
      obtain ⟨rfl, rfl, rfl⟩ := hv
      show Ev E (xcm E d 0 0 QQ) Y_X12_allWith 28 [(0, .ref (E.2.2.2 + iM)), (1, .int p0), (2, .int p1), (3, .int p2), (4, .int p3), (5, .int x1), (6, .int x2)] [.int q5, .int x1] (xσ μ R) n 0 0
      refine ev_imul dX12_allWith_28 ?_
      obtain ⟨x6, hx6, h⟩ := xlt_some h
      refine xv_istore (L' := [(5, .int x6), (0, .ref (E.2.2.2 + iM)), (1, .int p0), (2, .int p1), (3, .int p2), (4, .int p3), (6, .int x2)]) hx6 dX12_allWith_29 (Nat.le_of_ble_eq_true rfl) rfl ?_
      obtain ⟨x7, hx7, h⟩ := xlt_some h
      refine ev_iinc (L' := [(6, .int x7), (5, .int x6), (0, .ref (E.2.2.2 + iM)), (1, .int p0), (2, .int p1), (3, .int p2), (4, .int p3)]) 6 dX12_allWith_31 rfl ((by rfl : x2 + Int32.ofInt 1 = x2 + 1).trans hx7) (Nat.le_of_ble_eq_true rfl) rfl ?_
      refine ev_goto (tgt := 6) dX12_allWith_34 (by decide) ?_
      cases h
      replace hk := xel_l hk
      exact ev_sub [2, 3, 4, 5, 6, 1, 0] rfl (hk)
  · show Ev E (xcm E d 0 0 QQ) Y_X12_allWith 37 [(0, .ref (E.2.2.2 + iM)), (1, .int p0), (2, .int p1), (3, .int p2), (4, .int p3), (5, .int q8)] [] (xσ μ R) n 0 0
    refine ev_lconst (v := 0) dX12_allWith_37 (by decide) ?_
    refine xv_lstore (L' := [(6, .long 0), (0, .ref (E.2.2.2 + iM)), (1, .int p0), (2, .int p1), (3, .int p2), (4, .int p3), (5, .int q8)]) rfl dX12_allWith_38 (Nat.le_of_ble_eq_true rfl) rfl ?_
    refine ev_iconst (v := 0) dX12_allWith_40 (by decide) ?_
    refine xv_istore (L' := [(8, .int 0), (6, .long 0), (0, .ref (E.2.2.2 + iM)), (1, .int p0), (2, .int p1), (3, .int p2), (4, .int p3), (5, .int q8)]) rfl dX12_allWith_41 (Nat.le_of_ble_eq_true rfl) rfl ?_
    obtain ⟨q39, hq39, h⟩ := xbd_some h
    refine ev_sub (L' := [(0, .ref (E.2.2.2 + iM)), (1, .int p0), (2, .int p1), (3, .int p2), (4, .int p3), (5, .int q8), (6, .long 0), (8, .int 0)]) [2, 3, 4, 5, 6, 7, 1, 0] rfl ?_
    refine xloop_run (fun v => Ev E (xcm E d 0 0 QQ) Y_X12_allWith 43 [(0, .ref (E.2.2.2 + iM)), (1, .int p0), (2, .int p1), (3, .int p2), (4, .int p3), (5, .int q8), (6, .long v.1), (8, .int v.2.1)] [] (xσ v.2.2 R) n 0 0) (fun v => Ev E (xcm E d 0 0 QQ) Y_X12_allWith 190 [(6, .long v.1)] [] (xσ v.2 R) n 0 0) ?_ _ _ _ hq39 ?_
    · rintro ⟨x9, x10, μ11⟩ y12 h hk
      replace h : fX12_allWith_b43 x9 x10 μ11 p0 p1 p2 p3 q8 = some y12 := h
      show Ev E (xcm E d 0 0 QQ) Y_X12_allWith 43 [(0, .ref (E.2.2.2 + iM)), (1, .int p0), (2, .int p1), (3, .int p2), (4, .int p3), (5, .int q8), (6, .long x9), (8, .int x10)] [] (xσ μ11 R) n 0 0
      unfold fX12_allWith_b43 at h
      refine ev_iload 7 dX12_allWith_43 rfl ?_
      refine ev_iload 5 dX12_allWith_45 rfl ?_
      refine ev_icmp_ge (tgt := 190) dX12_allWith_47 (by decide) (fun c47 => ?_) (fun c47 => ?_)
      · replace h := xif_t c47 h
        cases h
        replace hk := xel_r hk
        exact ev_sub [6] rfl (hk)
      · replace h := xif_f c47 h
        refine ev_iload 7 dX12_allWith_50 rfl ?_
        refine xv_istore (L' := [(9, .int x10), (0, .ref (E.2.2.2 + iM)), (1, .int p0), (2, .int p1), (3, .int p2), (4, .int p3), (5, .int q8), (6, .long x9), (8, .int x10)]) rfl dX12_allWith_52 (Nat.le_of_ble_eq_true rfl) rfl ?_
        refine ev_aload_n 1 dX12_allWith_54 rfl rfl ?_
        refine ev_iload 5 dX12_allWith_55 rfl ?_
        obtain ⟨q13, hq13, h⟩ := xbd_some h
        refine ev_callV (ci := 12) (rest := []) 1 (kX12_bridgeWeight (E := E) (d := 0) (QQ := (fun v τ n' => v = some (.int q13) ∧ τ = xσ μ11 R ∧ n = n')) (Nat.le_refl _) hF hq13 (⟨rfl, rfl, rfl⟩)) my_X12_bridgeWeight ⟨m_1746, m_1748, m_86⟩ cl_12 kd_61 (xl hF rfl) rfl rfl (Nat.le_of_ble_eq_true rfl) (Nat.le_trans (by decide) hd) (xlo (by decide) (Nat.le_trans (by decide) hd)) (Nat.zero_le _) (Nat.zero_le _) dX12_allWith_57 (fun v τ n' hv => ?_)
        obtain ⟨rfl, rfl, rfl⟩ := hv
        show Ev E (xcm E d 0 0 QQ) Y_X12_allWith 60 [(9, .int x10), (0, .ref (E.2.2.2 + iM)), (1, .int p0), (2, .int p1), (3, .int p2), (4, .int p3), (5, .int q8), (6, .long x9), (8, .int x10)] [.int q13] (xσ μ11 R) n 0 0
        refine ev_i2l dX12_allWith_60 ?_
        obtain ⟨x14, hx14, h⟩ := xlt_some h
        refine xv_lstore (L' := [(10, .long x14), (9, .int x10), (0, .ref (E.2.2.2 + iM)), (1, .int p0), (2, .int p1), (3, .int p2), (4, .int p3), (5, .int q8), (6, .long x9), (8, .int x10)]) hx14 dX12_allWith_61 (Nat.le_of_ble_eq_true rfl) rfl ?_
        refine ev_iconst (v := 0) dX12_allWith_63 (by decide) ?_
        refine xv_istore (L' := [(12, .int 0), (10, .long x14), (9, .int x10), (0, .ref (E.2.2.2 + iM)), (1, .int p0), (2, .int p1), (3, .int p2), (4, .int p3), (5, .int q8), (6, .long x9), (8, .int x10)]) rfl dX12_allWith_64 (Nat.le_of_ble_eq_true rfl) rfl ?_
        obtain ⟨q35, hq35, h⟩ := xbd_some h
        refine ev_sub (L' := [(0, .ref (E.2.2.2 + iM)), (1, .int p0), (2, .int p1), (3, .int p2), (4, .int p3), (5, .int q8), (6, .long x9), (8, .int x10), (9, .int x10), (10, .long x14), (12, .int 0)]) [3, 4, 5, 6, 7, 8, 9, 10, 2, 1, 0] rfl ?_
        refine xloop_run (fun v => Ev E (xcm E d 0 0 QQ) Y_X12_allWith 66 [(0, .ref (E.2.2.2 + iM)), (1, .int p0), (2, .int p1), (3, .int p2), (4, .int p3), (5, .int q8), (6, .long x9), (8, .int x10), (9, .int v.1), (10, .long v.2.1), (12, .int v.2.2.1)] [] (xσ v.2.2.2 R) n 0 0) (fun v => Ev E (xcm E d 0 0 QQ) Y_X12_allWith 169 [(0, .ref (E.2.2.2 + iM)), (1, .int p0), (2, .int p1), (3, .int p2), (4, .int p3), (5, .int q8), (6, .long x9), (8, .int x10), (10, .long v.1)] [] (xσ v.2 R) n 0 0) ?_ _ _ _ hq35 ?_
        · rintro ⟨x15, x16, x17, μ18⟩ y19 h hk
          replace h : fX12_allWith_b66 x15 x16 x17 μ18 p0 p3 = some y19 := h
          show Ev E (xcm E d 0 0 QQ) Y_X12_allWith 66 [(0, .ref (E.2.2.2 + iM)), (1, .int p0), (2, .int p1), (3, .int p2), (4, .int p3), (5, .int q8), (6, .long x9), (8, .int x10), (9, .int x15), (10, .long x16), (12, .int x17)] [] (xσ μ18 R) n 0 0
          unfold fX12_allWith_b66 at h
          refine ev_iload 10 dX12_allWith_66 rfl ?_
          refine ev_aload_n 0 dX12_allWith_68 rfl rfl ?_
          refine xv_getI cl_12 lk_RX12_439 kd_61 (xl hF rfl) (fun _ => rfl) dX12_allWith_69 ?_
          refine ev_icmp_ge (tgt := 169) dX12_allWith_72 (by decide) (fun c72 => ?_) (fun c72 => ?_)
          · replace h := xif_t c72 h
            cases h
            replace hk := xel_r hk
            exact ev_sub [0, 1, 2, 3, 4, 5, 6, 7, 9] rfl (hk)
          · replace h := xif_f c72 h
            refine ev_iload 8 dX12_allWith_75 rfl ?_
            refine ev_aload_n 0 dX12_allWith_77 rfl rfl ?_
            refine ev_aload_n 0 dX12_allWith_78 rfl rfl ?_
            refine xv_getF (a := iM_goer) cl_12 lk_RX12_136 kd_61 (xl hF rfl) (fun _ => rfl) (fr_61_62 hF) dX12_allWith_79 ?_
            refine ev_iload 10 dX12_allWith_82 rfl ?_
            obtain ⟨v20, hv20, h⟩ := xbd_some h
            refine xv_iald kd_103 (xl hF rfl) hv20 dX12_allWith_84 ?_
            obtain ⟨q21, hq21, h⟩ := xbd_some h
            refine ev_callV (ci := 12) (rest := [.int x15]) 1 (kX12_endsOf (E := E) (d := 0) (QQ := (fun v τ n' => v = some (.int q21) ∧ τ = xσ μ18 R ∧ n = n')) (Nat.le_refl _) hF hq21 (⟨rfl, rfl, rfl⟩)) my_X12_endsOf ⟨m_1754, m_1756, m_88⟩ cl_12 kd_61 (xl hF rfl) rfl rfl (Nat.le_of_ble_eq_true rfl) (Nat.le_trans (by decide) hd) (xlo (by decide) (Nat.le_trans (by decide) hd)) (Nat.zero_le _) (Nat.zero_le _) dX12_allWith_85 (fun v τ n' hv => ?_)
            obtain ⟨rfl, rfl, rfl⟩ := hv
            show Ev E (xcm E d 0 0 QQ) Y_X12_allWith 88 [(0, .ref (E.2.2.2 + iM)), (1, .int p0), (2, .int p1), (3, .int p2), (4, .int p3), (5, .int q8), (6, .long x9), (8, .int x10), (9, .int x15), (10, .long x16), (12, .int x17)] [.int q21, .int x15] (xσ μ18 R) n 0 0
            obtain ⟨v22, hv22, h⟩ := xbd_some h
            refine xv_irem hv22 dX12_allWith_88 ?_
            refine xv_istore (L' := [(13, .int v22), (0, .ref (E.2.2.2 + iM)), (1, .int p0), (2, .int p1), (3, .int p2), (4, .int p3), (5, .int q8), (6, .long x9), (8, .int x10), (9, .int x15), (10, .long x16), (12, .int x17)]) rfl dX12_allWith_89 (Nat.le_of_ble_eq_true rfl) rfl ?_
            refine ev_iload 9 dX12_allWith_91 rfl ?_
            refine ev_aload_n 1 dX12_allWith_93 rfl rfl ?_
            refine ev_aload_n 1 dX12_allWith_94 rfl rfl ?_
            refine xv_getF (a := iM_goer) cl_12 lk_RX12_136 kd_61 (xl hF rfl) (fun _ => rfl) (fr_61_62 hF) dX12_allWith_95 ?_
            refine ev_iload 11 dX12_allWith_98 rfl ?_
            obtain ⟨v23, hv23, h⟩ := xbd_some h
            refine xv_iald kd_103 (xl hF rfl) hv23 dX12_allWith_100 ?_
            obtain ⟨q24, hq24, h⟩ := xbd_some h
            refine ev_callV (ci := 12) (rest := [.int x15]) 1 (kX12_endsOf (E := E) (d := 0) (QQ := (fun v τ n' => v = some (.int q24) ∧ τ = xσ μ18 R ∧ n = n')) (Nat.le_refl _) hF hq24 (⟨rfl, rfl, rfl⟩)) my_X12_endsOf ⟨m_1754, m_1756, m_88⟩ cl_12 kd_61 (xl hF rfl) rfl rfl (Nat.le_of_ble_eq_true rfl) (Nat.le_trans (by decide) hd) (xlo (by decide) (Nat.le_trans (by decide) hd)) (Nat.zero_le _) (Nat.zero_le _) dX12_allWith_101 (fun v τ n' hv => ?_)
            obtain ⟨rfl, rfl, rfl⟩ := hv
            show Ev E (xcm E d 0 0 QQ) Y_X12_allWith 104 [(13, .int v22), (0, .ref (E.2.2.2 + iM)), (1, .int p0), (2, .int p1), (3, .int p2), (4, .int p3), (5, .int q8), (6, .long x9), (8, .int x10), (9, .int x15), (10, .long x16), (12, .int x17)] [.int q24, .int x15] (xσ μ18 R) n 0 0
            obtain ⟨v25, hv25, h⟩ := xbd_some h
            refine xv_idiv hv25 dX12_allWith_104 ?_
            refine xv_istore (L' := [(9, .int v25), (13, .int v22), (0, .ref (E.2.2.2 + iM)), (1, .int p0), (2, .int p1), (3, .int p2), (4, .int p3), (5, .int q8), (6, .long x9), (8, .int x10), (10, .long x16), (12, .int x17)]) rfl dX12_allWith_105 (Nat.le_of_ble_eq_true rfl) rfl ?_
            refine ev_lload 10 dX12_allWith_107 rfl ?_
            refine ev_aload_n 2 dX12_allWith_109 rfl rfl ?_
            refine ev_aload_n 2 dX12_allWith_110 rfl rfl ?_
            refine xv_getF (a := iM_goer) cl_12 lk_RX12_136 kd_61 (xl hF rfl) (fun _ => rfl) (fr_61_62 hF) dX12_allWith_111 ?_
            refine ev_iload 11 dX12_allWith_114 rfl ?_
            obtain ⟨v26, hv26, h⟩ := xbd_some h
            refine xv_iald kd_103 (xl hF rfl) hv26 dX12_allWith_116 ?_
            refine ev_iload 1 dX12_allWith_117 rfl ?_
            obtain ⟨q27, hq27, h⟩ := xbd_some h
            refine ev_callV (ci := 12) (rest := [.long x16]) 2 (kX12_weightAt (E := E) (d := 0) (QQ := (fun v τ n' => v = some (.int q27) ∧ τ = xσ μ18 R ∧ n = n')) (Nat.le_refl _) hF hq27 (⟨rfl, rfl, rfl⟩)) my_X12_weightAt ⟨m_1762, m_1764, m_90⟩ cl_12 kd_61 (xl hF rfl) rfl rfl (Nat.le_of_ble_eq_true rfl) (Nat.le_trans (by decide) hd) (xlo (by decide) (Nat.le_trans (by decide) hd)) (Nat.zero_le _) (Nat.zero_le _) dX12_allWith_119 (fun v τ n' hv => ?_)
            obtain ⟨rfl, rfl, rfl⟩ := hv
            show Ev E (xcm E d 0 0 QQ) Y_X12_allWith 122 [(9, .int v25), (13, .int v22), (0, .ref (E.2.2.2 + iM)), (1, .int p0), (2, .int p1), (3, .int p2), (4, .int p3), (5, .int q8), (6, .long x9), (8, .int x10), (10, .long x16), (12, .int x17)] [.int q27, .long x16] (xσ μ18 R) n 0 0
            refine ev_i2l dX12_allWith_122 ?_
            refine ev_lmul dX12_allWith_123 ?_
            obtain ⟨x28, hx28, h⟩ := xlt_some h
            refine xv_lstore (L' := [(10, .long x28), (9, .int v25), (13, .int v22), (0, .ref (E.2.2.2 + iM)), (1, .int p0), (2, .int p1), (3, .int p2), (4, .int p3), (5, .int q8), (6, .long x9), (8, .int x10), (12, .int x17)]) hx28 dX12_allWith_124 (Nat.le_of_ble_eq_true rfl) rfl ?_
            refine ev_aload_n 3 dX12_allWith_126 rfl rfl ?_
            refine xv_getF (a := iM_comesAt) cl_12 lk_RX12_145 kd_61 (xl hF rfl) (fun _ => rfl) (fr_61_65 hF) dX12_allWith_127 ?_
            refine ev_iload 11 dX12_allWith_130 rfl ?_
            refine ev_aload_n 3 dX12_allWith_132 rfl rfl ?_
            refine xv_getF (a := iM_minuteOf) cl_12 lk_RX12_16 kd_61 (xl hF rfl) (fun _ => rfl) (fr_61_6 hF) dX12_allWith_133 ?_
            refine ev_iload_n 4 dX12_allWith_136 rfl rfl ?_
            obtain ⟨v29, hv29, h⟩ := xbd_some h
            refine xv_iald kd_64 (xl hF rfl) hv29 dX12_allWith_137 ?_
            refine ev_aload_n 3 dX12_allWith_138 rfl rfl ?_
            refine xv_getF (a := iM_aheadOf) cl_12 lk_RX12_139 kd_61 (xl hF rfl) (fun _ => rfl) (fr_61_63 hF) dX12_allWith_139 ?_
            refine ev_iload 11 dX12_allWith_142 rfl ?_
            obtain ⟨v30, hv30, h⟩ := xbd_some h
            refine xv_iald kd_104 (xl hF rfl) hv30 dX12_allWith_144 ?_
            refine ev_isub dX12_allWith_145 ?_
            refine ev_aload_n 3 dX12_allWith_146 rfl rfl ?_
            refine ev_aload_n 3 dX12_allWith_147 rfl rfl ?_
            refine xv_getF (a := iM_goer) cl_12 lk_RX12_136 kd_61 (xl hF rfl) (fun _ => rfl) (fr_61_62 hF) dX12_allWith_148 ?_
            refine ev_iload 11 dX12_allWith_151 rfl ?_
            obtain ⟨v31, hv31, h⟩ := xbd_some h
            refine xv_iald kd_103 (xl hF rfl) hv31 dX12_allWith_153 ?_
            refine ev_iload 2 dX12_allWith_154 rfl ?_
            refine ev_iload 7 dX12_allWith_156 rfl ?_
            obtain ⟨q32, hq32, h⟩ := xbd_some h
            refine ev_callV (ci := 12) (rest := [.int (v29 - v30), .int x17, .ref (E.2.2.2 + iM_comesAt)]) 3 (kX12_wayAt (E := E) (d := 1) (QQ := (fun v τ n' => v = some (.int q32) ∧ τ = xσ μ18 R ∧ n = n')) (Nat.le_refl _) hF hq32 (⟨rfl, rfl, rfl⟩)) my_X12_wayAt ⟨m_1758, m_1760, m_89⟩ cl_12 kd_61 (xl hF rfl) rfl rfl (Nat.le_of_ble_eq_true rfl) (Nat.le_trans (by decide) hd) (xlo (by decide) (Nat.le_trans (by decide) hd)) (Nat.zero_le _) (Nat.zero_le _) dX12_allWith_158 (fun v τ n' hv => ?_)
            obtain ⟨rfl, rfl, rfl⟩ := hv
            show Ev E (xcm E d 0 0 QQ) Y_X12_allWith 161 [(10, .long x28), (9, .int v25), (13, .int v22), (0, .ref (E.2.2.2 + iM)), (1, .int p0), (2, .int p1), (3, .int p2), (4, .int p3), (5, .int q8), (6, .long x9), (8, .int x10), (12, .int x17)] [.int q32, .int (v29 - v30), .int x17, .ref (E.2.2.2 + iM_comesAt)] (xσ μ18 R) n 0 0
            refine ev_iadd dX12_allWith_161 ?_
            obtain ⟨μ33, hμ33, h⟩ := xbd_some h
            refine xv_iast kd_106 (xl hF rfl) hμ33 dX12_allWith_162 ?_
            obtain ⟨x34, hx34, h⟩ := xlt_some h
            refine ev_iinc (L' := [(12, .int x34), (10, .long x28), (9, .int v25), (13, .int v22), (0, .ref (E.2.2.2 + iM)), (1, .int p0), (2, .int p1), (3, .int p2), (4, .int p3), (5, .int q8), (6, .long x9), (8, .int x10)]) 11 dX12_allWith_163 rfl ((by rfl : x17 + Int32.ofInt 1 = x17 + 1).trans hx34) (Nat.le_of_ble_eq_true rfl) rfl ?_
            refine ev_goto (tgt := 66) dX12_allWith_166 (by decide) ?_
            cases h
            replace hk := xel_l hk
            exact ev_sub [4, 5, 6, 7, 8, 9, 10, 11, 2, 1, 0] rfl (hk)
        · show Ev E (xcm E d 0 0 QQ) Y_X12_allWith 169 [(0, .ref (E.2.2.2 + iM)), (1, .int p0), (2, .int p1), (3, .int p2), (4, .int p3), (5, .int q8), (6, .long x9), (8, .int x10), (10, .long q35.1)] [] (xσ q35.2 R) n 0 0
          refine ev_lload 6 dX12_allWith_169 rfl ?_
          refine ev_lload 8 dX12_allWith_171 rfl ?_
          refine ev_aload_n 0 dX12_allWith_173 rfl rfl ?_
          refine ev_iload_n 1 dX12_allWith_174 rfl rfl ?_
          refine ev_iload_n 2 dX12_allWith_175 rfl rfl ?_
          refine ev_iload_n 3 dX12_allWith_176 rfl rfl ?_
          obtain ⟨q36, hq36, h⟩ := xbd_some h
          refine ev_callV (ci := 12) (rest := [.long q35.1, .long x9]) 3 (kX12_dayCost (E := E) (d := 0) (QQ := (fun v τ n' => v = some (.long q36) ∧ τ = xσ q35.2 R ∧ n = n')) (Nat.le_refl _) hF hq36 (⟨rfl, rfl, rfl⟩)) my_X12_dayCost ⟨m_1841, m_1843, m_103⟩ cl_12 kd_61 (xl hF rfl) rfl rfl (Nat.le_of_ble_eq_true rfl) (Nat.le_trans (by decide) hd) (xlo (by decide) (Nat.le_trans (by decide) hd)) (Nat.zero_le _) (Nat.zero_le _) dX12_allWith_177 (fun v τ n' hv => ?_)
          obtain ⟨rfl, rfl, rfl⟩ := hv
          show Ev E (xcm E d 0 0 QQ) Y_X12_allWith 180 [(0, .ref (E.2.2.2 + iM)), (1, .int p0), (2, .int p1), (3, .int p2), (4, .int p3), (5, .int q8), (6, .long x9), (8, .int x10), (10, .long q35.1)] [.long q36, .long q35.1, .long x9] (xσ q35.2 R) n 0 0
          refine ev_lmul dX12_allWith_180 ?_
          refine ev_ladd dX12_allWith_181 ?_
          obtain ⟨x37, hx37, h⟩ := xlt_some h
          refine xv_lstore (L' := [(6, .long x37), (0, .ref (E.2.2.2 + iM)), (1, .int p0), (2, .int p1), (3, .int p2), (4, .int p3), (5, .int q8), (8, .int x10), (10, .long q35.1)]) hx37 dX12_allWith_182 (Nat.le_of_ble_eq_true rfl) rfl ?_
          obtain ⟨x38, hx38, h⟩ := xlt_some h
          refine ev_iinc (L' := [(8, .int x38), (6, .long x37), (0, .ref (E.2.2.2 + iM)), (1, .int p0), (2, .int p1), (3, .int p2), (4, .int p3), (5, .int q8), (10, .long q35.1)]) 7 dX12_allWith_184 rfl ((by rfl : x10 + Int32.ofInt 1 = x10 + 1).trans hx38) (Nat.le_of_ble_eq_true rfl) rfl ?_
          refine ev_goto (tgt := 43) dX12_allWith_187 (by decide) ?_
          cases h
          replace hk := xel_l hk
          exact ev_sub [2, 3, 4, 5, 6, 7, 1, 0] rfl (hk)
    · show Ev E (xcm E d 0 0 QQ) Y_X12_allWith 190 [(6, .long q39.1)] [] (xσ q39.2 R) n 0 0
      refine ev_lload 0 dX12_allWith_190 rfl ?_
      cases h
      exact ev_lret rfl (hQ) dX12_allWith_192 (Nat.zero_le _) (Nat.zero_le _)
def fX12_areInRow (p0 : Int32) (p1 : Int32) (p2 : Int32) (p3 : Int32) (p4 : Int32) (μ : xm) : Option (Int32) := xbd (fX12_isOf p0 p2 μ) fun q1 => if q1 = 0 then (some 0) else (xbd (fX12_isOf p1 p2 μ) fun q2 => if q2 = 0 then (some 0) else (xbd (xgI μ iM_dayOf 24 p0) fun v3 => xbd (xgI μ iM_dayOf 24 p1) fun v4 => if v3 = v4 then (xbd (xgI μ iM_minuteOf 24 p1) fun v5 => xbd (xgI μ iM_minuteOf 24 p0) fun v6 => if v5 ≤ v6 then (some 0) else (xbd (fX12_in p3 0 600) fun q7 => if q7 = 0 then (some 0) else (xbd (fX12_in p4 0 99) fun q8 => if q8 = 0 then (some 0) else (some 1)))) else (some 0)))
set_option maxHeartbeats 4000000 in
set_option maxRecDepth 100000 in
theorem kX12_areInRow {E : xE} {d : Nat} {QQ : xP} (hd : 2 ≤ d) {p0 : Int32} {p1 : Int32} {p2 : Int32} {p3 : Int32} {p4 : Int32} {μ : xm} {R : xr} {n : Nat} (hF : xFin R n)  {res : Int32} (h : fX12_areInRow p0 p1 p2 p3 p4 μ = some res) (hQ : QQ (some (.int res)) (xσ μ R) n) : xCon E d Y_X12_areInRow 0 0 [.ref (E.2.2.2 + iM), .int p0, .int p1, .int p2, .int p3, .int p4] (xσ μ R) n QQ := by
  refine xCon_of pn_RX12 (Nat.le_of_ble_eq_true rfl) (L0 := [(0, .ref (E.2.2.2 + iM)), (1, .int p0), (2, .int p1), (3, .int p2), (4, .int p3), (5, .int p4)]) rfl ?_
  unfold fX12_areInRow at h
  refine ev_aload_n 0 dX12_areInRow_0 rfl rfl ?_
  refine ev_iload_n 1 dX12_areInRow_1 rfl rfl ?_
  refine ev_iload_n 3 dX12_areInRow_2 rfl rfl ?_
  obtain ⟨q1, hq1, h⟩ := xbd_some h
  refine ev_callV (ci := 12) (rest := []) 2 (kX12_isOf (E := E) (d := 1) (QQ := (fun v τ n' => v = some (.int q1) ∧ τ = xσ μ R ∧ n = n')) (Nat.le_refl _) hF hq1 (⟨rfl, rfl, rfl⟩)) my_X12_isOf ⟨m_1470, m_1472, m_40⟩ cl_12 kd_61 (xl hF rfl) rfl rfl (Nat.le_of_ble_eq_true rfl) (Nat.le_trans (by decide) hd) (xlo (by decide) (Nat.le_trans (by decide) hd)) (Nat.zero_le _) (Nat.zero_le _) dX12_areInRow_3 (fun v τ n' hv => ?_)
  obtain ⟨rfl, rfl, rfl⟩ := hv
  show Ev E (xcm E d 0 0 QQ) Y_X12_areInRow 6 [(0, .ref (E.2.2.2 + iM)), (1, .int p0), (2, .int p1), (3, .int p2), (4, .int p3), (5, .int p4)] [.int q1] (xσ μ R) n 0 0
  refine ev_if_eq (tgt := 75) dX12_areInRow_6 (by decide) (fun c6 => ?_) (fun c6 => ?_)
  · replace h := xif_t c6 h
    refine ev_iconst (v := 0) dX12_areInRow_75 (by decide) ?_
    cases h
    exact ev_zret rfl (Or.inl rfl) (hQ) dX12_areInRow_76 (Nat.zero_le _) (Nat.zero_le _)
  · replace h := xif_f c6 h
    refine ev_aload_n 0 dX12_areInRow_9 rfl rfl ?_
    refine ev_iload_n 2 dX12_areInRow_10 rfl rfl ?_
    refine ev_iload_n 3 dX12_areInRow_11 rfl rfl ?_
    obtain ⟨q2, hq2, h⟩ := xbd_some h
    refine ev_callV (ci := 12) (rest := []) 2 (kX12_isOf (E := E) (d := 1) (QQ := (fun v τ n' => v = some (.int q2) ∧ τ = xσ μ R ∧ n = n')) (Nat.le_refl _) hF hq2 (⟨rfl, rfl, rfl⟩)) my_X12_isOf ⟨m_1470, m_1472, m_40⟩ cl_12 kd_61 (xl hF rfl) rfl rfl (Nat.le_of_ble_eq_true rfl) (Nat.le_trans (by decide) hd) (xlo (by decide) (Nat.le_trans (by decide) hd)) (Nat.zero_le _) (Nat.zero_le _) dX12_areInRow_12 (fun v τ n' hv => ?_)
    obtain ⟨rfl, rfl, rfl⟩ := hv
    show Ev E (xcm E d 0 0 QQ) Y_X12_areInRow 15 [(0, .ref (E.2.2.2 + iM)), (1, .int p0), (2, .int p1), (3, .int p2), (4, .int p3), (5, .int p4)] [.int q2] (xσ μ R) n 0 0
    refine ev_if_eq (tgt := 75) dX12_areInRow_15 (by decide) (fun c15 => ?_) (fun c15 => ?_)
    · replace h := xif_t c15 h
      refine ev_iconst (v := 0) dX12_areInRow_75 (by decide) ?_
      cases h
      exact ev_zret rfl (Or.inl rfl) (hQ) dX12_areInRow_76 (Nat.zero_le _) (Nat.zero_le _)
    · replace h := xif_f c15 h
      refine ev_aload_n 0 dX12_areInRow_18 rfl rfl ?_
      refine xv_getF (a := iM_dayOf) cl_12 lk_RX12_13 kd_61 (xl hF rfl) (fun _ => rfl) (fr_61_5 hF) dX12_areInRow_19 ?_
      refine ev_iload_n 1 dX12_areInRow_22 rfl rfl ?_
      obtain ⟨v3, hv3, h⟩ := xbd_some h
      refine xv_iald kd_63 (xl hF rfl) hv3 dX12_areInRow_23 ?_
      refine ev_aload_n 0 dX12_areInRow_24 rfl rfl ?_
      refine xv_getF (a := iM_dayOf) cl_12 lk_RX12_13 kd_61 (xl hF rfl) (fun _ => rfl) (fr_61_5 hF) dX12_areInRow_25 ?_
      refine ev_iload_n 2 dX12_areInRow_28 rfl rfl ?_
      obtain ⟨v4, hv4, h⟩ := xbd_some h
      refine xv_iald kd_63 (xl hF rfl) hv4 dX12_areInRow_29 ?_
      refine ev_icmp_ne (tgt := 75) dX12_areInRow_30 (by decide) (fun c30 => ?_) (fun c30 => ?_)
      · replace h := xif_f c30 h
        refine ev_iconst (v := 0) dX12_areInRow_75 (by decide) ?_
        cases h
        exact ev_zret rfl (Or.inl rfl) (hQ) dX12_areInRow_76 (Nat.zero_le _) (Nat.zero_le _)
      · replace h := xif_t c30 h
        refine ev_aload_n 0 dX12_areInRow_33 rfl rfl ?_
        refine xv_getF (a := iM_minuteOf) cl_12 lk_RX12_16 kd_61 (xl hF rfl) (fun _ => rfl) (fr_61_6 hF) dX12_areInRow_34 ?_
        refine ev_iload_n 2 dX12_areInRow_37 rfl rfl ?_
        obtain ⟨v5, hv5, h⟩ := xbd_some h
        refine xv_iald kd_64 (xl hF rfl) hv5 dX12_areInRow_38 ?_
        refine ev_aload_n 0 dX12_areInRow_39 rfl rfl ?_
        refine xv_getF (a := iM_minuteOf) cl_12 lk_RX12_16 kd_61 (xl hF rfl) (fun _ => rfl) (fr_61_6 hF) dX12_areInRow_40 ?_
        refine ev_iload_n 1 dX12_areInRow_43 rfl rfl ?_
        obtain ⟨v6, hv6, h⟩ := xbd_some h
        refine xv_iald kd_64 (xl hF rfl) hv6 dX12_areInRow_44 ?_
        refine ev_icmp_le (tgt := 75) dX12_areInRow_45 (by decide) (fun c45 => ?_) (fun c45 => ?_)
        · replace h := xif_t c45 h
          refine ev_iconst (v := 0) dX12_areInRow_75 (by decide) ?_
          cases h
          exact ev_zret rfl (Or.inl rfl) (hQ) dX12_areInRow_76 (Nat.zero_le _) (Nat.zero_le _)
        · replace h := xif_f c45 h
          refine ev_iload 4 dX12_areInRow_48 rfl ?_
          refine ev_iconst (v := 0) dX12_areInRow_50 (by decide) ?_
          refine ev_sipush (v := 600) dX12_areInRow_51 (by decide) ?_
          obtain ⟨q7, hq7, h⟩ := xbd_some h
          refine ev_callS (As := [.int p3, .int 0, .int 600]) (rest := []) 3 (kX12_in (E := E) (d := 0) (QQ := (fun v τ n' => v = some (.int q7) ∧ τ = xσ μ R ∧ n = n')) (Nat.le_refl _)  hq7 (⟨rfl, rfl, rfl⟩)) my_X12_in ⟨m_1449, m_1450⟩ rfl rfl (Nat.le_of_ble_eq_true rfl) (Nat.le_trans (by decide) hd) (xlo (by decide) (Nat.le_trans (by decide) hd)) (Nat.zero_le _) (Nat.zero_le _) dX12_areInRow_54 (fun v τ n' hv => ?_)
          obtain ⟨rfl, rfl, rfl⟩ := hv
          show Ev E (xcm E d 0 0 QQ) Y_X12_areInRow 57 [(0, .ref (E.2.2.2 + iM)), (1, .int p0), (2, .int p1), (3, .int p2), (4, .int p3), (5, .int p4)] [.int q7] (xσ μ R) n 0 0
          refine ev_if_eq (tgt := 75) dX12_areInRow_57 (by decide) (fun c57 => ?_) (fun c57 => ?_)
          · replace h := xif_t c57 h
            refine ev_iconst (v := 0) dX12_areInRow_75 (by decide) ?_
            cases h
            exact ev_zret rfl (Or.inl rfl) (hQ) dX12_areInRow_76 (Nat.zero_le _) (Nat.zero_le _)
          · replace h := xif_f c57 h
            refine ev_iload 5 dX12_areInRow_60 rfl ?_
            refine ev_iconst (v := 0) dX12_areInRow_62 (by decide) ?_
            refine ev_bipush (v := 99) dX12_areInRow_63 (by decide) ?_
            obtain ⟨q8, hq8, h⟩ := xbd_some h
            refine ev_callS (As := [.int p4, .int 0, .int 99]) (rest := []) 3 (kX12_in (E := E) (d := 0) (QQ := (fun v τ n' => v = some (.int q8) ∧ τ = xσ μ R ∧ n = n')) (Nat.le_refl _)  hq8 (⟨rfl, rfl, rfl⟩)) my_X12_in ⟨m_1449, m_1450⟩ rfl rfl (Nat.le_of_ble_eq_true rfl) (Nat.le_trans (by decide) hd) (xlo (by decide) (Nat.le_trans (by decide) hd)) (Nat.zero_le _) (Nat.zero_le _) dX12_areInRow_65 (fun v τ n' hv => ?_)
            obtain ⟨rfl, rfl, rfl⟩ := hv
            show Ev E (xcm E d 0 0 QQ) Y_X12_areInRow 68 [(0, .ref (E.2.2.2 + iM)), (1, .int p0), (2, .int p1), (3, .int p2), (4, .int p3), (5, .int p4)] [.int q8] (xσ μ R) n 0 0
            refine ev_if_eq (tgt := 75) dX12_areInRow_68 (by decide) (fun c68 => ?_) (fun c68 => ?_)
            · replace h := xif_t c68 h
              refine ev_iconst (v := 0) dX12_areInRow_75 (by decide) ?_
              cases h
              exact ev_zret rfl (Or.inl rfl) (hQ) dX12_areInRow_76 (Nat.zero_le _) (Nat.zero_le _)
            · replace h := xif_f c68 h
              refine ev_iconst (v := 1) dX12_areInRow_71 (by decide) ?_
              refine ev_goto (tgt := 76) dX12_areInRow_72 (by decide) ?_
              cases h
              exact ev_zret rfl (Or.inr rfl) (hQ) dX12_areInRow_76 (Nat.zero_le _) (Nat.zero_le _)
