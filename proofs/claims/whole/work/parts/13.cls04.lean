def fX4_split (p0 : Int32) (p1 : Int32) (μ : xm) : Option (Int32 × xm) := xbd (fX4_holds p0 μ) fun q1 => if q1 = 0 then (some ((-1), μ)) else (xbd (xgI μ iC_notes_owers 60 p0) fun v2 => xbd (xgI μ iC_notes_holders 60 p0) fun v3 => xbd (xgI μ iC_notes_made 60 p0) fun v4 => xbd (xgI μ iC_notes_lapses 60 p0) fun v5 => xbd (fX4_add v2 v3 p1 v4 v5 μ) fun q6 => if q6.1 = (-1) then (some (q6.1, q6.2)) else (xbd (xgI q6.2 iC_notes_minutes 60 p0) fun v7 => xbd (xsI q6.2 iC_notes_minutes 60 p0 (v7 - p1)) fun μ8 => some (q6.1, μ8)))
set_option maxHeartbeats 4000000 in
set_option maxRecDepth 100000 in
theorem kX4_split {E : xE} {d : Nat} {QQ : xP} (hd : 1 ≤ d) {p0 : Int32} {p1 : Int32} {μ : xm} {R : xr} {n : Nat} (hF : xFin R n)  {res : Int32 × xm} (h : fX4_split p0 p1 μ = some res) (hQ : QQ (some (.int res.1)) (xσ res.2 R) n) : xCon E d Y_X4_split 0 0 [.ref (E.2.2.2 + iC_notes), .int p0, .int p1] (xσ μ R) n QQ := by
  refine xCon_of pn_RX4 (Nat.le_of_ble_eq_true rfl) (L0 := [(0, .ref (E.2.2.2 + iC_notes)), (1, .int p0), (2, .int p1)]) rfl ?_
  unfold fX4_split at h
  refine ev_aload_n 0 dX4_split_0 rfl rfl ?_
  refine ev_iload_n 1 dX4_split_1 rfl rfl ?_
  obtain ⟨q1, hq1, h⟩ := xbd_some h
  refine ev_callV (ci := 4) (rest := []) 1 (kX4_holds (E := E) (d := 0) (QQ := (fun v τ n' => v = some (.int q1) ∧ τ = xσ μ R ∧ n = n')) (Nat.le_refl _) hF hq1 (⟨rfl, rfl, rfl⟩)) my_X4_holds ⟨m_801, m_794, m_795⟩ cl_4 kd_28 (xl hF rfl) rfl rfl (Nat.le_of_ble_eq_true rfl) (Nat.le_trans (by decide) hd) (xlo (by decide) (Nat.le_trans (by decide) hd)) (Nat.zero_le _) (Nat.zero_le _) dX4_split_2 (fun v τ n' hv => ?_)
  obtain ⟨rfl, rfl, rfl⟩ := hv
  show Ev E (xcm E d 0 0 QQ) Y_X4_split 5 [(0, .ref (E.2.2.2 + iC_notes)), (1, .int p0), (2, .int p1)] [.int q1] (xσ μ R) n 0 0
  refine ev_if_ne (tgt := 10) dX4_split_5 (by decide) (fun c5 => ?_) (fun c5 => ?_)
  · replace h := xif_f c5 h
    refine ev_aload_n 0 dX4_split_10 rfl rfl ?_
    refine ev_aload_n 0 dX4_split_11 rfl rfl ?_
    refine xv_getF (a := iC_notes_owers) cl_4 lk_RX4_9 kd_28 (xl hF rfl) (fun _ => rfl) (fr_28_0 hF) dX4_split_12 ?_
    refine ev_iload_n 1 dX4_split_15 rfl rfl ?_
    obtain ⟨v2, hv2, h⟩ := xbd_some h
    refine xv_iald kd_29 (xl hF rfl) hv2 dX4_split_16 ?_
    refine ev_aload_n 0 dX4_split_17 rfl rfl ?_
    refine xv_getF (a := iC_notes_holders) cl_4 lk_RX4_15 kd_28 (xl hF rfl) (fun _ => rfl) (fr_28_1 hF) dX4_split_18 ?_
    refine ev_iload_n 1 dX4_split_21 rfl rfl ?_
    obtain ⟨v3, hv3, h⟩ := xbd_some h
    refine xv_iald kd_30 (xl hF rfl) hv3 dX4_split_22 ?_
    refine ev_iload_n 2 dX4_split_23 rfl rfl ?_
    refine ev_aload_n 0 dX4_split_24 rfl rfl ?_
    refine xv_getF (a := iC_notes_made) cl_4 lk_RX4_21 kd_28 (xl hF rfl) (fun _ => rfl) (fr_28_3 hF) dX4_split_25 ?_
    refine ev_iload_n 1 dX4_split_28 rfl rfl ?_
    obtain ⟨v4, hv4, h⟩ := xbd_some h
    refine xv_iald kd_32 (xl hF rfl) hv4 dX4_split_29 ?_
    refine ev_aload_n 0 dX4_split_30 rfl rfl ?_
    refine xv_getF (a := iC_notes_lapses) cl_4 lk_RX4_24 kd_28 (xl hF rfl) (fun _ => rfl) (fr_28_4 hF) dX4_split_31 ?_
    refine ev_iload_n 1 dX4_split_34 rfl rfl ?_
    obtain ⟨v5, hv5, h⟩ := xbd_some h
    refine xv_iald kd_33 (xl hF rfl) hv5 dX4_split_35 ?_
    obtain ⟨q6, hq6, h⟩ := xbd_some h
    refine ev_callV (ci := 4) (rest := []) 5 (kX4_add (E := E) (d := 0) (QQ := (fun v τ n' => v = some (.int q6.1) ∧ τ = xσ q6.2 R ∧ n = n')) (Nat.le_refl _) hF hq6 (⟨rfl, rfl, rfl⟩)) my_X4_add ⟨m_838, m_777, m_778⟩ cl_4 kd_28 (xl hF rfl) rfl rfl (Nat.le_of_ble_eq_true rfl) (Nat.le_trans (by decide) hd) (xlo (by decide) (Nat.le_trans (by decide) hd)) (Nat.zero_le _) (Nat.zero_le _) dX4_split_36 (fun v τ n' hv => ?_)
    obtain ⟨rfl, rfl, rfl⟩ := hv
    show Ev E (xcm E d 0 0 QQ) Y_X4_split 39 [(0, .ref (E.2.2.2 + iC_notes)), (1, .int p0), (2, .int p1)] [.int q6.1] (xσ q6.2 R) n 0 0
    refine xv_istore_n (L' := [(3, .int q6.1), (0, .ref (E.2.2.2 + iC_notes)), (1, .int p0), (2, .int p1)]) rfl dX4_split_39 rfl (Nat.le_of_ble_eq_true rfl) rfl ?_
    refine ev_iload_n 0 dX4_split_40 rfl rfl ?_
    refine ev_iconst (v := (-1)) dX4_split_41 (by decide) ?_
    refine ev_icmp_eq (tgt := 55) dX4_split_42 (by decide) (fun c42 => ?_) (fun c42 => ?_)
    · replace h := xif_t c42 h
      refine ev_iload_n 0 dX4_split_55 rfl rfl ?_
      cases h
      exact ev_iret rfl (hQ) dX4_split_56 (Nat.zero_le _) (Nat.zero_le _)
    · replace h := xif_f c42 h
      refine ev_aload_n 1 dX4_split_45 rfl rfl ?_
      refine xv_getF (a := iC_notes_minutes) cl_4 lk_RX4_18 kd_28 (xl hF rfl) (fun _ => rfl) (fr_28_2 hF) dX4_split_46 ?_
      refine ev_iload_n 2 dX4_split_49 rfl rfl ?_
      refine ev_dup2 dX4_split_50 rfl rfl ?_
      obtain ⟨v7, hv7, h⟩ := xbd_some h
      refine xv_iald kd_31 (xl hF rfl) hv7 dX4_split_51 ?_
      refine ev_iload_n 3 dX4_split_52 rfl rfl ?_
      refine ev_isub dX4_split_53 ?_
      obtain ⟨μ8, hμ8, h⟩ := xbd_some h
      refine xv_iast kd_31 (xl hF rfl) hμ8 dX4_split_54 ?_
      refine ev_iload_n 0 dX4_split_55 rfl rfl ?_
      cases h
      exact ev_iret rfl (hQ) dX4_split_56 (Nat.zero_le _) (Nat.zero_le _)
  · replace h := xif_t c5 h
    refine ev_iconst (v := (-1)) dX4_split_8 (by decide) ?_
    cases h
    exact ev_iret rfl (hQ) dX4_split_9 (Nat.zero_le _) (Nat.zero_le _)
def fX4_useOn_b5 (x1 : Int32) (x2 : Int32) (p0 : Int32) (μ : xm) : Option ((Int32 × Int32) ⊕ (Int32)) := if p0 < x2 then (some (.inr x1)) else (if 7 ≤ x2 then (some (.inr x1)) else (xbd (xgI μ iC_notes_free 7 x2) fun v4 => xlt (xmin x1 v4) fun x5 => xlt (x2 + 1) fun x6 => some (.inl (x5, x6))))
def fX4_useOn_b42 (x8 : Int32) (μ9 : xm) (p0 : Int32) (q7 : Int32) : Option ((Int32 × xm) ⊕ (xm)) := if p0 < x8 then (some (.inr μ9)) else (if 7 ≤ x8 then (some (.inr μ9)) else (xbd (xgI μ9 iC_notes_free 7 x8) fun v11 => xbd (xsI μ9 iC_notes_free 7 x8 (v11 - q7)) fun μ12 => xlt (x8 + 1) fun x13 => some (.inl (x13, μ12))))
def fX4_useOn (p0 : Int32) (p1 : Int32) (μ : xm) : Option (Int32 × xm) := xbd (xloop xfu (fun v => fX4_useOn_b5 v.1 v.2 p0 μ) (p1, 0)) fun q7 => xbd (xloop xfu (fun v => fX4_useOn_b42 v.1 v.2 p0 q7) (0, μ)) fun q14 => some (q7, q14)
set_option maxHeartbeats 4000000 in
set_option maxRecDepth 100000 in
theorem kX4_useOn {E : xE} {d : Nat} {QQ : xP} (hd : 1 ≤ d) {p0 : Int32} {p1 : Int32} {μ : xm} {R : xr} {n : Nat} (hF : xFin R n)  {res : Int32 × xm} (h : fX4_useOn p0 p1 μ = some res) (hQ : QQ (some (.int res.1)) (xσ res.2 R) n) : xCon E d Y_X4_useOn 0 0 [.ref (E.2.2.2 + iC_notes), .int p0, .int p1] (xσ μ R) n QQ := by
  refine xCon_of pn_RX4 (Nat.le_of_ble_eq_true rfl) (L0 := [(0, .ref (E.2.2.2 + iC_notes)), (1, .int p0), (2, .int p1)]) rfl ?_
  unfold fX4_useOn at h
  refine ev_iload_n 2 dX4_useOn_0 rfl rfl ?_
  refine xv_istore_n (L' := [(3, .int p1), (0, .ref (E.2.2.2 + iC_notes)), (1, .int p0), (2, .int p1)]) rfl dX4_useOn_1 rfl (Nat.le_of_ble_eq_true rfl) rfl ?_
  refine ev_iconst (v := 0) dX4_useOn_2 (by decide) ?_
  refine xv_istore (L' := [(4, .int 0), (3, .int p1), (0, .ref (E.2.2.2 + iC_notes)), (1, .int p0), (2, .int p1)]) rfl dX4_useOn_3 (Nat.le_of_ble_eq_true rfl) rfl ?_
  obtain ⟨q7, hq7, h⟩ := xbd_some h
  refine ev_sub (L' := [(0, .ref (E.2.2.2 + iC_notes)), (1, .int p0), (3, .int p1), (4, .int 0)]) [2, 3, 1, 0] rfl ?_
  refine xloop_run (fun v => Ev E (xcm E d 0 0 QQ) Y_X4_useOn 5 [(0, .ref (E.2.2.2 + iC_notes)), (1, .int p0), (3, .int v.1), (4, .int v.2)] [] (xσ μ R) n 0 0) (fun v => Ev E (xcm E d 0 0 QQ) Y_X4_useOn 39 [(0, .ref (E.2.2.2 + iC_notes)), (1, .int p0), (3, .int v)] [] (xσ μ R) n 0 0) ?_ _ _ _ hq7 ?_
  · rintro ⟨x1, x2⟩ y3 h hk
    replace h : fX4_useOn_b5 x1 x2 p0 μ = some y3 := h
    show Ev E (xcm E d 0 0 QQ) Y_X4_useOn 5 [(0, .ref (E.2.2.2 + iC_notes)), (1, .int p0), (3, .int x1), (4, .int x2)] [] (xσ μ R) n 0 0
    unfold fX4_useOn_b5 at h
    refine ev_iload 3 dX4_useOn_5 rfl ?_
    refine ev_iload_n 1 dX4_useOn_7 rfl rfl ?_
    refine ev_icmp_gt (tgt := 39) dX4_useOn_8 (by decide) (fun c8 => ?_) (fun c8 => ?_)
    · replace h := xif_t c8 h
      cases h
      replace hk := xel_r hk
      exact ev_sub [0, 1, 2] rfl (hk)
    · replace h := xif_f c8 h
      refine ev_iload 3 dX4_useOn_11 rfl ?_
      refine ev_aload_n 0 dX4_useOn_13 rfl rfl ?_
      refine xv_getF (a := iC_notes_free) cl_4 lk_RX4_27 kd_28 (xl hF rfl) (fun _ => rfl) (fr_28_5 hF) dX4_useOn_14 ?_
      refine ev_alen (v := 7) 0 (by decide) kd_34 (xl hF rfl) rfl dX4_useOn_17 ?_
      refine ev_icmp_ge (tgt := 39) dX4_useOn_18 (by decide) (fun c18 => ?_) (fun c18 => ?_)
      · replace h := xif_t c18 h
        cases h
        replace hk := xel_r hk
        exact ev_sub [0, 1, 2] rfl (hk)
      · replace h := xif_f c18 h
        refine ev_iload_n 2 dX4_useOn_21 rfl rfl ?_
        refine ev_aload_n 0 dX4_useOn_22 rfl rfl ?_
        refine xv_getF (a := iC_notes_free) cl_4 lk_RX4_27 kd_28 (xl hF rfl) (fun _ => rfl) (fr_28_5 hF) dX4_useOn_23 ?_
        refine ev_iload 3 dX4_useOn_26 rfl ?_
        obtain ⟨v4, hv4, h⟩ := xbd_some h
        refine xv_iald kd_34 (xl hF rfl) hv4 dX4_useOn_28 ?_
        refine ev_mmin ⟨m_880, m_531, m_124, m_532⟩ (Nat.le_trans (by decide) hd) (xlo2 (Nat.le_trans (by decide) hd)) (Nat.le_of_ble_eq_true rfl) (Nat.zero_le _) (Nat.zero_le _) dX4_useOn_29 ?_
        obtain ⟨x5, hx5, h⟩ := xlt_some h
        refine xv_istore_n (L' := [(3, .int x5), (0, .ref (E.2.2.2 + iC_notes)), (1, .int p0), (4, .int x2)]) hx5 dX4_useOn_32 rfl (Nat.le_of_ble_eq_true rfl) rfl ?_
        obtain ⟨x6, hx6, h⟩ := xlt_some h
        refine ev_iinc (L' := [(4, .int x6), (3, .int x5), (0, .ref (E.2.2.2 + iC_notes)), (1, .int p0)]) 3 dX4_useOn_33 rfl ((by rfl : x2 + Int32.ofInt 1 = x2 + 1).trans hx6) (Nat.le_of_ble_eq_true rfl) rfl ?_
        refine ev_goto (tgt := 5) dX4_useOn_36 (by decide) ?_
        cases h
        replace hk := xel_l hk
        exact ev_sub [2, 3, 1, 0] rfl (hk)
  · show Ev E (xcm E d 0 0 QQ) Y_X4_useOn 39 [(0, .ref (E.2.2.2 + iC_notes)), (1, .int p0), (3, .int q7)] [] (xσ μ R) n 0 0
    refine ev_iconst (v := 0) dX4_useOn_39 (by decide) ?_
    refine xv_istore (L' := [(4, .int 0), (0, .ref (E.2.2.2 + iC_notes)), (1, .int p0), (3, .int q7)]) rfl dX4_useOn_40 (Nat.le_of_ble_eq_true rfl) rfl ?_
    obtain ⟨q14, hq14, h⟩ := xbd_some h
    refine ev_sub (L' := [(0, .ref (E.2.2.2 + iC_notes)), (1, .int p0), (3, .int q7), (4, .int 0)]) [1, 2, 3, 0] rfl ?_
    refine xloop_run (fun v => Ev E (xcm E d 0 0 QQ) Y_X4_useOn 42 [(0, .ref (E.2.2.2 + iC_notes)), (1, .int p0), (3, .int q7), (4, .int v.1)] [] (xσ v.2 R) n 0 0) (fun v => Ev E (xcm E d 0 0 QQ) Y_X4_useOn 75 [(3, .int q7)] [] (xσ v R) n 0 0) ?_ _ _ _ hq14 ?_
    · rintro ⟨x8, μ9⟩ y10 h hk
      replace h : fX4_useOn_b42 x8 μ9 p0 q7 = some y10 := h
      show Ev E (xcm E d 0 0 QQ) Y_X4_useOn 42 [(0, .ref (E.2.2.2 + iC_notes)), (1, .int p0), (3, .int q7), (4, .int x8)] [] (xσ μ9 R) n 0 0
      unfold fX4_useOn_b42 at h
      refine ev_iload 3 dX4_useOn_42 rfl ?_
      refine ev_iload_n 1 dX4_useOn_44 rfl rfl ?_
      refine ev_icmp_gt (tgt := 75) dX4_useOn_45 (by decide) (fun c45 => ?_) (fun c45 => ?_)
      · replace h := xif_t c45 h
        cases h
        replace hk := xel_r hk
        exact ev_sub [2] rfl (hk)
      · replace h := xif_f c45 h
        refine ev_iload 3 dX4_useOn_48 rfl ?_
        refine ev_aload_n 0 dX4_useOn_50 rfl rfl ?_
        refine xv_getF (a := iC_notes_free) cl_4 lk_RX4_27 kd_28 (xl hF rfl) (fun _ => rfl) (fr_28_5 hF) dX4_useOn_51 ?_
        refine ev_alen (v := 7) 0 (by decide) kd_34 (xl hF rfl) rfl dX4_useOn_54 ?_
        refine ev_icmp_ge (tgt := 75) dX4_useOn_55 (by decide) (fun c55 => ?_) (fun c55 => ?_)
        · replace h := xif_t c55 h
          cases h
          replace hk := xel_r hk
          exact ev_sub [2] rfl (hk)
        · replace h := xif_f c55 h
          refine ev_aload_n 0 dX4_useOn_58 rfl rfl ?_
          refine xv_getF (a := iC_notes_free) cl_4 lk_RX4_27 kd_28 (xl hF rfl) (fun _ => rfl) (fr_28_5 hF) dX4_useOn_59 ?_
          refine ev_iload 3 dX4_useOn_62 rfl ?_
          refine ev_dup2 dX4_useOn_64 rfl rfl ?_
          obtain ⟨v11, hv11, h⟩ := xbd_some h
          refine xv_iald kd_34 (xl hF rfl) hv11 dX4_useOn_65 ?_
          refine ev_iload_n 2 dX4_useOn_66 rfl rfl ?_
          refine ev_isub dX4_useOn_67 ?_
          obtain ⟨μ12, hμ12, h⟩ := xbd_some h
          refine xv_iast kd_34 (xl hF rfl) hμ12 dX4_useOn_68 ?_
          obtain ⟨x13, hx13, h⟩ := xlt_some h
          refine ev_iinc (L' := [(4, .int x13), (0, .ref (E.2.2.2 + iC_notes)), (1, .int p0), (3, .int q7)]) 3 dX4_useOn_69 rfl ((by rfl : x8 + Int32.ofInt 1 = x8 + 1).trans hx13) (Nat.le_of_ble_eq_true rfl) rfl ?_
          refine ev_goto (tgt := 42) dX4_useOn_72 (by decide) ?_
          cases h
          replace hk := xel_l hk
          exact ev_sub [1, 2, 3, 0] rfl (hk)
    · show Ev E (xcm E d 0 0 QQ) Y_X4_useOn 75 [(3, .int q7)] [] (xσ q14 R) n 0 0
      refine ev_iload_n 0 dX4_useOn_75 rfl rfl ?_
      cases h
      exact ev_iret rfl (hQ) dX4_useOn_76 (Nat.zero_le _) (Nat.zero_le _)
def fX5_countTaking (p0 : Int32) (p1 : Int32) (p2 : Int32) (p3 : Int32) (μ : xm) : Option (xm) := xbd (fX5_slot p0 p2) fun q1 => xbd (fX5_add iC_people_given q1 p3 μ) fun q2 => xbd (fX5_slot p1 p2) fun q3 => xbd (fX5_add iC_people_taken q3 p3 q2) fun q4 => some q4
set_option maxHeartbeats 4000000 in
set_option maxRecDepth 100000 in
theorem kX5_countTaking {E : xE} {d : Nat} {QQ : xP} (hd : 1 ≤ d) {p0 : Int32} {p1 : Int32} {p2 : Int32} {p3 : Int32} {μ : xm} {R : xr} {n : Nat} (hF : xFin R n)  {res : xm} (h : fX5_countTaking p0 p1 p2 p3 μ = some res) (hQ : QQ none (xσ res R) n) : xCon E d Y_X5_countTaking 0 0 [.ref (E.2.2.2 + iC_people), .int p0, .int p1, .int p2, .int p3] (xσ μ R) n QQ := by
  refine xCon_of pn_RX5 (Nat.le_of_ble_eq_true rfl) (L0 := [(0, .ref (E.2.2.2 + iC_people)), (1, .int p0), (2, .int p1), (3, .int p2), (4, .int p3)]) rfl ?_
  unfold fX5_countTaking at h
  refine ev_aload_n 0 dX5_countTaking_0 rfl rfl ?_
  refine xv_getF (a := iC_people_given) cl_5 lk_RX5_15 kd_19 (xl hF rfl) (fun _ => rfl) (fr_19_1 hF) dX5_countTaking_1 ?_
  refine ev_iload_n 1 dX5_countTaking_4 rfl rfl ?_
  refine ev_iload_n 3 dX5_countTaking_5 rfl rfl ?_
  obtain ⟨q1, hq1, h⟩ := xbd_some h
  refine ev_callS (As := [.int p0, .int p2]) (rest := [.ref (E.2.2.2 + iC_people_given)]) 2 (kX5_slot (E := E) (d := 0) (QQ := (fun v τ n' => v = some (.int q1) ∧ τ = xσ μ R ∧ n = n')) (Nat.le_refl _)  hq1 (⟨rfl, rfl, rfl⟩)) my_X5_slot ⟨m_442, m_443⟩ rfl rfl (Nat.le_of_ble_eq_true rfl) (Nat.le_trans (by decide) hd) (xlo (by decide) (Nat.le_trans (by decide) hd)) (Nat.zero_le _) (Nat.zero_le _) dX5_countTaking_6 (fun v τ n' hv => ?_)
  obtain ⟨rfl, rfl, rfl⟩ := hv
  show Ev E (xcm E d 0 0 QQ) Y_X5_countTaking 9 [(0, .ref (E.2.2.2 + iC_people)), (1, .int p0), (2, .int p1), (3, .int p2), (4, .int p3)] [.int q1, .ref (E.2.2.2 + iC_people_given)] (xσ μ R) n 0 0
  refine ev_iload 4 dX5_countTaking_9 rfl ?_
  obtain ⟨q2, hq2, h⟩ := xbd_some h
  refine ev_callS (As := [.ref (E.2.2.2 + iC_people_given), .int q1, .int p3]) (rest := []) 3 (kX5_add (E := E) (d := 0) (QQ := (fun v τ n' => v = none ∧ τ = xσ q2 R ∧ n = n')) (Nat.le_refl _) hF (xIsA_of kd_21 (xl hF rfl)) hq2 (⟨rfl, rfl, rfl⟩)) my_X5_add ⟨m_855, m_856⟩ rfl rfl (Nat.le_of_ble_eq_true rfl) (Nat.le_trans (by decide) hd) (xlo (by decide) (Nat.le_trans (by decide) hd)) (Nat.zero_le _) (Nat.zero_le _) dX5_countTaking_11 (fun v τ n' hv => ?_)
  obtain ⟨rfl, rfl, rfl⟩ := hv
  show Ev E (xcm E d 0 0 QQ) Y_X5_countTaking 14 [(0, .ref (E.2.2.2 + iC_people)), (1, .int p0), (2, .int p1), (3, .int p2), (4, .int p3)] [] (xσ q2 R) n 0 0
  refine ev_aload_n 0 dX5_countTaking_14 rfl rfl ?_
  refine xv_getF (a := iC_people_taken) cl_5 lk_RX5_18 kd_19 (xl hF rfl) (fun _ => rfl) (fr_19_2 hF) dX5_countTaking_15 ?_
  refine ev_iload_n 2 dX5_countTaking_18 rfl rfl ?_
  refine ev_iload_n 3 dX5_countTaking_19 rfl rfl ?_
  obtain ⟨q3, hq3, h⟩ := xbd_some h
  refine ev_callS (As := [.int p1, .int p2]) (rest := [.ref (E.2.2.2 + iC_people_taken)]) 2 (kX5_slot (E := E) (d := 0) (QQ := (fun v τ n' => v = some (.int q3) ∧ τ = xσ q2 R ∧ n = n')) (Nat.le_refl _)  hq3 (⟨rfl, rfl, rfl⟩)) my_X5_slot ⟨m_442, m_443⟩ rfl rfl (Nat.le_of_ble_eq_true rfl) (Nat.le_trans (by decide) hd) (xlo (by decide) (Nat.le_trans (by decide) hd)) (Nat.zero_le _) (Nat.zero_le _) dX5_countTaking_20 (fun v τ n' hv => ?_)
  obtain ⟨rfl, rfl, rfl⟩ := hv
  show Ev E (xcm E d 0 0 QQ) Y_X5_countTaking 23 [(0, .ref (E.2.2.2 + iC_people)), (1, .int p0), (2, .int p1), (3, .int p2), (4, .int p3)] [.int q3, .ref (E.2.2.2 + iC_people_taken)] (xσ q2 R) n 0 0
  refine ev_iload 4 dX5_countTaking_23 rfl ?_
  obtain ⟨q4, hq4, h⟩ := xbd_some h
  refine ev_callS (As := [.ref (E.2.2.2 + iC_people_taken), .int q3, .int p3]) (rest := []) 3 (kX5_add (E := E) (d := 0) (QQ := (fun v τ n' => v = none ∧ τ = xσ q4 R ∧ n = n')) (Nat.le_refl _) hF (xIsA_of kd_22 (xl hF rfl)) hq4 (⟨rfl, rfl, rfl⟩)) my_X5_add ⟨m_855, m_856⟩ rfl rfl (Nat.le_of_ble_eq_true rfl) (Nat.le_trans (by decide) hd) (xlo (by decide) (Nat.le_trans (by decide) hd)) (Nat.zero_le _) (Nat.zero_le _) dX5_countTaking_25 (fun v τ n' hv => ?_)
  obtain ⟨rfl, rfl, rfl⟩ := hv
  show Ev E (xcm E d 0 0 QQ) Y_X5_countTaking 28 [(0, .ref (E.2.2.2 + iC_people)), (1, .int p0), (2, .int p1), (3, .int p2), (4, .int p3)] [] (xσ q4 R) n 0 0
  cases h
  exact ev_vret rfl (hQ) dX5_countTaking_28 (Nat.zero_le _) (Nat.zero_le _)
def fX5_emptyHours (μ : xm) : Option (xm) := xbd (fJ7_fill_53178 iC_people_given 0 μ) fun q1 => xbd (fJ7_fill_53178 iC_people_taken 0 q1) fun q2 => some q2
set_option maxHeartbeats 4000000 in
set_option maxRecDepth 100000 in
theorem kX5_emptyHours {E : xE} {d : Nat} {QQ : xP} (hd : 1 ≤ d)  {μ : xm} {R : xr} {n : Nat} (hF : xFin R n)  {res : xm} (h : fX5_emptyHours μ = some res) (hQ : QQ none (xσ res R) n) : xCon E d Y_X5_emptyHours 0 0 [.ref (E.2.2.2 + iC_people)] (xσ μ R) n QQ := by
  refine xCon_of pn_RX5 (Nat.le_of_ble_eq_true rfl) (L0 := [(0, .ref (E.2.2.2 + iC_people))]) rfl ?_
  unfold fX5_emptyHours at h
  refine ev_aload_n 0 dX5_emptyHours_0 rfl rfl ?_
  refine xv_getF (a := iC_people_given) cl_5 lk_RX5_15 kd_19 (xl hF rfl) (fun _ => rfl) (fr_19_1 hF) dX5_emptyHours_1 ?_
  refine ev_iconst (v := 0) dX5_emptyHours_4 (by decide) ?_
  obtain ⟨q1, hq1, h⟩ := xbd_some h
  refine ev_callS (As := [.ref (E.2.2.2 + iC_people_given), .int 0]) (rest := []) 2 (kJ7_fill_53178 (E := E) (d := 0) (QQ := (fun v τ n' => v = none ∧ τ = xσ q1 R ∧ n = n')) (Nat.le_refl _) (xIsA_of kd_21 (xl hF rfl)) hq1 (⟨rfl, rfl, rfl⟩)) my_J7_fill_53178 ⟨m_211, m_212⟩ rfl rfl (Nat.le_of_ble_eq_true rfl) (Nat.le_trans (by decide) hd) (xlo (by decide) (Nat.le_trans (by decide) hd)) (Nat.zero_le _) (Nat.zero_le _) dX5_emptyHours_5 (fun v τ n' hv => ?_)
  obtain ⟨rfl, rfl, rfl⟩ := hv
  show Ev E (xcm E d 0 0 QQ) Y_X5_emptyHours 8 [(0, .ref (E.2.2.2 + iC_people))] [] (xσ q1 R) n 0 0
  refine ev_aload_n 0 dX5_emptyHours_8 rfl rfl ?_
  refine xv_getF (a := iC_people_taken) cl_5 lk_RX5_18 kd_19 (xl hF rfl) (fun _ => rfl) (fr_19_2 hF) dX5_emptyHours_9 ?_
  refine ev_iconst (v := 0) dX5_emptyHours_12 (by decide) ?_
  obtain ⟨q2, hq2, h⟩ := xbd_some h
  refine ev_callS (As := [.ref (E.2.2.2 + iC_people_taken), .int 0]) (rest := []) 2 (kJ7_fill_53178 (E := E) (d := 0) (QQ := (fun v τ n' => v = none ∧ τ = xσ q2 R ∧ n = n')) (Nat.le_refl _) (xIsA_of kd_22 (xl hF rfl)) hq2 (⟨rfl, rfl, rfl⟩)) my_J7_fill_53178 ⟨m_211, m_212⟩ rfl rfl (Nat.le_of_ble_eq_true rfl) (Nat.le_trans (by decide) hd) (xlo (by decide) (Nat.le_trans (by decide) hd)) (Nat.zero_le _) (Nat.zero_le _) dX5_emptyHours_13 (fun v τ n' hv => ?_)
  obtain ⟨rfl, rfl, rfl⟩ := hv
  show Ev E (xcm E d 0 0 QQ) Y_X5_emptyHours 16 [(0, .ref (E.2.2.2 + iC_people))] [] (xσ q2 R) n 0 0
  cases h
  exact ev_vret rfl (hQ) dX5_emptyHours_16 (Nat.zero_le _) (Nat.zero_le _)
def fX5_givenIn (p0 : Int32) (p1 : Int32) (μ : xm) : Option (Int32) := xbd (fX5_slot p0 p1) fun q1 => if q1 < 0 then (some 0) else (if 192 ≤ q1 then (some 0) else (xbd (xgI μ iC_people_given 192 q1) fun v2 => some v2))
set_option maxHeartbeats 4000000 in
set_option maxRecDepth 100000 in
theorem kX5_givenIn {E : xE} {d : Nat} {QQ : xP} (hd : 1 ≤ d) {p0 : Int32} {p1 : Int32} {μ : xm} {R : xr} {n : Nat} (hF : xFin R n)  {res : Int32} (h : fX5_givenIn p0 p1 μ = some res) (hQ : QQ (some (.int res)) (xσ μ R) n) : xCon E d Y_X5_givenIn 0 0 [.ref (E.2.2.2 + iC_people), .int p0, .int p1] (xσ μ R) n QQ := by
  refine xCon_of pn_RX5 (Nat.le_of_ble_eq_true rfl) (L0 := [(0, .ref (E.2.2.2 + iC_people)), (1, .int p0), (2, .int p1)]) rfl ?_
  unfold fX5_givenIn at h
  refine ev_iload_n 1 dX5_givenIn_0 rfl rfl ?_
  refine ev_iload_n 2 dX5_givenIn_1 rfl rfl ?_
  obtain ⟨q1, hq1, h⟩ := xbd_some h
  refine ev_callS (As := [.int p0, .int p1]) (rest := []) 2 (kX5_slot (E := E) (d := 0) (QQ := (fun v τ n' => v = some (.int q1) ∧ τ = xσ μ R ∧ n = n')) (Nat.le_refl _)  hq1 (⟨rfl, rfl, rfl⟩)) my_X5_slot ⟨m_442, m_443⟩ rfl rfl (Nat.le_of_ble_eq_true rfl) (Nat.le_trans (by decide) hd) (xlo (by decide) (Nat.le_trans (by decide) hd)) (Nat.zero_le _) (Nat.zero_le _) dX5_givenIn_2 (fun v τ n' hv => ?_)
  obtain ⟨rfl, rfl, rfl⟩ := hv
  show Ev E (xcm E d 0 0 QQ) Y_X5_givenIn 5 [(0, .ref (E.2.2.2 + iC_people)), (1, .int p0), (2, .int p1)] [.int q1] (xσ μ R) n 0 0
  refine xv_istore_n (L' := [(3, .int q1), (0, .ref (E.2.2.2 + iC_people)), (1, .int p0), (2, .int p1)]) rfl dX5_givenIn_5 rfl (Nat.le_of_ble_eq_true rfl) rfl ?_
  refine ev_iload_n 0 dX5_givenIn_6 rfl rfl ?_
  refine ev_if_lt (tgt := 28) dX5_givenIn_7 (by decide) (fun c7 => ?_) (fun c7 => ?_)
  · replace h := xif_t c7 h
    refine ev_iconst (v := 0) dX5_givenIn_28 (by decide) ?_
    cases h
    exact ev_iret rfl (hQ) dX5_givenIn_29 (Nat.zero_le _) (Nat.zero_le _)
  · replace h := xif_f c7 h
    refine ev_iload_n 0 dX5_givenIn_10 rfl rfl ?_
    refine ev_aload_n 1 dX5_givenIn_11 rfl rfl ?_
    refine xv_getF (a := iC_people_given) cl_5 lk_RX5_15 kd_19 (xl hF rfl) (fun _ => rfl) (fr_19_1 hF) dX5_givenIn_12 ?_
    refine ev_alen (v := 192) 0 (by decide) kd_21 (xl hF rfl) rfl dX5_givenIn_15 ?_
    refine ev_icmp_ge (tgt := 28) dX5_givenIn_16 (by decide) (fun c16 => ?_) (fun c16 => ?_)
    · replace h := xif_t c16 h
      refine ev_iconst (v := 0) dX5_givenIn_28 (by decide) ?_
      cases h
      exact ev_iret rfl (hQ) dX5_givenIn_29 (Nat.zero_le _) (Nat.zero_le _)
    · replace h := xif_f c16 h
      refine ev_aload_n 1 dX5_givenIn_19 rfl rfl ?_
      refine xv_getF (a := iC_people_given) cl_5 lk_RX5_15 kd_19 (xl hF rfl) (fun _ => rfl) (fr_19_1 hF) dX5_givenIn_20 ?_
      refine ev_iload_n 0 dX5_givenIn_23 rfl rfl ?_
      obtain ⟨v2, hv2, h⟩ := xbd_some h
      refine xv_iald kd_21 (xl hF rfl) hv2 dX5_givenIn_24 ?_
      refine ev_goto (tgt := 29) dX5_givenIn_25 (by decide) ?_
      cases h
      exact ev_iret rfl (hQ) dX5_givenIn_29 (Nat.zero_le _) (Nat.zero_le _)
def fX5_setWorth (p0 : Int32) (p1 : Int32) (p2 : Int32) (μ : xm) : Option (xm) := xbd (fX5_slot p0 p1) fun q1 => if q1 < 0 then (some μ) else (if 192 ≤ q1 then (some μ) else (xbd (xsI μ iC_people_worths 192 q1 p2) fun μ2 => some μ2))
set_option maxHeartbeats 4000000 in
set_option maxRecDepth 100000 in
theorem kX5_setWorth {E : xE} {d : Nat} {QQ : xP} (hd : 1 ≤ d) {p0 : Int32} {p1 : Int32} {p2 : Int32} {μ : xm} {R : xr} {n : Nat} (hF : xFin R n)  {res : xm} (h : fX5_setWorth p0 p1 p2 μ = some res) (hQ : QQ none (xσ res R) n) : xCon E d Y_X5_setWorth 0 0 [.ref (E.2.2.2 + iC_people), .int p0, .int p1, .int p2] (xσ μ R) n QQ := by
  refine xCon_of pn_RX5 (Nat.le_of_ble_eq_true rfl) (L0 := [(0, .ref (E.2.2.2 + iC_people)), (1, .int p0), (2, .int p1), (3, .int p2)]) rfl ?_
  unfold fX5_setWorth at h
  refine ev_iload_n 1 dX5_setWorth_0 rfl rfl ?_
  refine ev_iload_n 2 dX5_setWorth_1 rfl rfl ?_
  obtain ⟨q1, hq1, h⟩ := xbd_some h
  refine ev_callS (As := [.int p0, .int p1]) (rest := []) 2 (kX5_slot (E := E) (d := 0) (QQ := (fun v τ n' => v = some (.int q1) ∧ τ = xσ μ R ∧ n = n')) (Nat.le_refl _)  hq1 (⟨rfl, rfl, rfl⟩)) my_X5_slot ⟨m_442, m_443⟩ rfl rfl (Nat.le_of_ble_eq_true rfl) (Nat.le_trans (by decide) hd) (xlo (by decide) (Nat.le_trans (by decide) hd)) (Nat.zero_le _) (Nat.zero_le _) dX5_setWorth_2 (fun v τ n' hv => ?_)
  obtain ⟨rfl, rfl, rfl⟩ := hv
  show Ev E (xcm E d 0 0 QQ) Y_X5_setWorth 5 [(0, .ref (E.2.2.2 + iC_people)), (1, .int p0), (2, .int p1), (3, .int p2)] [.int q1] (xσ μ R) n 0 0
  refine xv_istore (L' := [(4, .int q1), (0, .ref (E.2.2.2 + iC_people)), (1, .int p0), (2, .int p1), (3, .int p2)]) rfl dX5_setWorth_5 (Nat.le_of_ble_eq_true rfl) rfl ?_
  refine ev_iload 0 dX5_setWorth_7 rfl ?_
  refine ev_if_lt (tgt := 30) dX5_setWorth_9 (by decide) (fun c9 => ?_) (fun c9 => ?_)
  · replace h := xif_t c9 h
    cases h
    exact ev_vret rfl (hQ) dX5_setWorth_30 (Nat.zero_le _) (Nat.zero_le _)
  · replace h := xif_f c9 h
    refine ev_iload 0 dX5_setWorth_12 rfl ?_
    refine ev_aload_n 1 dX5_setWorth_14 rfl rfl ?_
    refine xv_getF (a := iC_people_worths) cl_5 lk_RX5_9 kd_19 (xl hF rfl) (fun _ => rfl) (fr_19_0 hF) dX5_setWorth_15 ?_
    refine ev_alen (v := 192) 0 (by decide) kd_20 (xl hF rfl) rfl dX5_setWorth_18 ?_
    refine ev_icmp_ge (tgt := 30) dX5_setWorth_19 (by decide) (fun c19 => ?_) (fun c19 => ?_)
    · replace h := xif_t c19 h
      cases h
      exact ev_vret rfl (hQ) dX5_setWorth_30 (Nat.zero_le _) (Nat.zero_le _)
    · replace h := xif_f c19 h
      refine ev_aload_n 1 dX5_setWorth_22 rfl rfl ?_
      refine xv_getF (a := iC_people_worths) cl_5 lk_RX5_9 kd_19 (xl hF rfl) (fun _ => rfl) (fr_19_0 hF) dX5_setWorth_23 ?_
      refine ev_iload 0 dX5_setWorth_26 rfl ?_
      refine ev_iload_n 4 dX5_setWorth_28 rfl rfl ?_
      obtain ⟨μ2, hμ2, h⟩ := xbd_some h
      refine xv_iast kd_20 (xl hF rfl) hμ2 dX5_setWorth_29 ?_
      cases h
      exact ev_vret rfl (hQ) dX5_setWorth_30 (Nat.zero_le _) (Nat.zero_le _)
def fX5_takenIn (p0 : Int32) (p1 : Int32) (μ : xm) : Option (Int32) := xbd (fX5_slot p0 p1) fun q1 => if q1 < 0 then (some 0) else (if 192 ≤ q1 then (some 0) else (xbd (xgI μ iC_people_taken 192 q1) fun v2 => some v2))
set_option maxHeartbeats 4000000 in
set_option maxRecDepth 100000 in
theorem kX5_takenIn {E : xE} {d : Nat} {QQ : xP} (hd : 1 ≤ d) {p0 : Int32} {p1 : Int32} {μ : xm} {R : xr} {n : Nat} (hF : xFin R n)  {res : Int32} (h : fX5_takenIn p0 p1 μ = some res) (hQ : QQ (some (.int res)) (xσ μ R) n) : xCon E d Y_X5_takenIn 0 0 [.ref (E.2.2.2 + iC_people), .int p0, .int p1] (xσ μ R) n QQ := by
  refine xCon_of pn_RX5 (Nat.le_of_ble_eq_true rfl) (L0 := [(0, .ref (E.2.2.2 + iC_people)), (1, .int p0), (2, .int p1)]) rfl ?_
  unfold fX5_takenIn at h
  refine ev_iload_n 1 dX5_takenIn_0 rfl rfl ?_
  refine ev_iload_n 2 dX5_takenIn_1 rfl rfl ?_
  obtain ⟨q1, hq1, h⟩ := xbd_some h
  refine ev_callS (As := [.int p0, .int p1]) (rest := []) 2 (kX5_slot (E := E) (d := 0) (QQ := (fun v τ n' => v = some (.int q1) ∧ τ = xσ μ R ∧ n = n')) (Nat.le_refl _)  hq1 (⟨rfl, rfl, rfl⟩)) my_X5_slot ⟨m_442, m_443⟩ rfl rfl (Nat.le_of_ble_eq_true rfl) (Nat.le_trans (by decide) hd) (xlo (by decide) (Nat.le_trans (by decide) hd)) (Nat.zero_le _) (Nat.zero_le _) dX5_takenIn_2 (fun v τ n' hv => ?_)
  obtain ⟨rfl, rfl, rfl⟩ := hv
  show Ev E (xcm E d 0 0 QQ) Y_X5_takenIn 5 [(0, .ref (E.2.2.2 + iC_people)), (1, .int p0), (2, .int p1)] [.int q1] (xσ μ R) n 0 0
  refine xv_istore_n (L' := [(3, .int q1), (0, .ref (E.2.2.2 + iC_people)), (1, .int p0), (2, .int p1)]) rfl dX5_takenIn_5 rfl (Nat.le_of_ble_eq_true rfl) rfl ?_
  refine ev_iload_n 0 dX5_takenIn_6 rfl rfl ?_
  refine ev_if_lt (tgt := 28) dX5_takenIn_7 (by decide) (fun c7 => ?_) (fun c7 => ?_)
  · replace h := xif_t c7 h
    refine ev_iconst (v := 0) dX5_takenIn_28 (by decide) ?_
    cases h
    exact ev_iret rfl (hQ) dX5_takenIn_29 (Nat.zero_le _) (Nat.zero_le _)
  · replace h := xif_f c7 h
    refine ev_iload_n 0 dX5_takenIn_10 rfl rfl ?_
    refine ev_aload_n 1 dX5_takenIn_11 rfl rfl ?_
    refine xv_getF (a := iC_people_taken) cl_5 lk_RX5_18 kd_19 (xl hF rfl) (fun _ => rfl) (fr_19_2 hF) dX5_takenIn_12 ?_
    refine ev_alen (v := 192) 0 (by decide) kd_22 (xl hF rfl) rfl dX5_takenIn_15 ?_
    refine ev_icmp_ge (tgt := 28) dX5_takenIn_16 (by decide) (fun c16 => ?_) (fun c16 => ?_)
    · replace h := xif_t c16 h
      refine ev_iconst (v := 0) dX5_takenIn_28 (by decide) ?_
      cases h
      exact ev_iret rfl (hQ) dX5_takenIn_29 (Nat.zero_le _) (Nat.zero_le _)
    · replace h := xif_f c16 h
      refine ev_aload_n 1 dX5_takenIn_19 rfl rfl ?_
      refine xv_getF (a := iC_people_taken) cl_5 lk_RX5_18 kd_19 (xl hF rfl) (fun _ => rfl) (fr_19_2 hF) dX5_takenIn_20 ?_
      refine ev_iload_n 0 dX5_takenIn_23 rfl rfl ?_
      obtain ⟨v2, hv2, h⟩ := xbd_some h
      refine xv_iald kd_22 (xl hF rfl) hv2 dX5_takenIn_24 ?_
      refine ev_goto (tgt := 29) dX5_takenIn_25 (by decide) ?_
      cases h
      exact ev_iret rfl (hQ) dX5_takenIn_29 (Nat.zero_le _) (Nat.zero_le _)
def fX5_worthAt (p0 : Int32) (p1 : Int32) (μ : xm) : Option (Int32) := xbd (fX5_slot p0 p1) fun q1 => if q1 < 0 then (some 0) else (if 192 ≤ q1 then (some 0) else (xbd (xgI μ iC_people_worths 192 q1) fun v2 => some v2))
set_option maxHeartbeats 4000000 in
set_option maxRecDepth 100000 in
theorem kX5_worthAt {E : xE} {d : Nat} {QQ : xP} (hd : 1 ≤ d) {p0 : Int32} {p1 : Int32} {μ : xm} {R : xr} {n : Nat} (hF : xFin R n)  {res : Int32} (h : fX5_worthAt p0 p1 μ = some res) (hQ : QQ (some (.int res)) (xσ μ R) n) : xCon E d Y_X5_worthAt 0 0 [.ref (E.2.2.2 + iC_people), .int p0, .int p1] (xσ μ R) n QQ := by
  refine xCon_of pn_RX5 (Nat.le_of_ble_eq_true rfl) (L0 := [(0, .ref (E.2.2.2 + iC_people)), (1, .int p0), (2, .int p1)]) rfl ?_
  unfold fX5_worthAt at h
  refine ev_iload_n 1 dX5_worthAt_0 rfl rfl ?_
  refine ev_iload_n 2 dX5_worthAt_1 rfl rfl ?_
  obtain ⟨q1, hq1, h⟩ := xbd_some h
  refine ev_callS (As := [.int p0, .int p1]) (rest := []) 2 (kX5_slot (E := E) (d := 0) (QQ := (fun v τ n' => v = some (.int q1) ∧ τ = xσ μ R ∧ n = n')) (Nat.le_refl _)  hq1 (⟨rfl, rfl, rfl⟩)) my_X5_slot ⟨m_442, m_443⟩ rfl rfl (Nat.le_of_ble_eq_true rfl) (Nat.le_trans (by decide) hd) (xlo (by decide) (Nat.le_trans (by decide) hd)) (Nat.zero_le _) (Nat.zero_le _) dX5_worthAt_2 (fun v τ n' hv => ?_)
  obtain ⟨rfl, rfl, rfl⟩ := hv
  show Ev E (xcm E d 0 0 QQ) Y_X5_worthAt 5 [(0, .ref (E.2.2.2 + iC_people)), (1, .int p0), (2, .int p1)] [.int q1] (xσ μ R) n 0 0
  refine xv_istore_n (L' := [(3, .int q1), (0, .ref (E.2.2.2 + iC_people)), (1, .int p0), (2, .int p1)]) rfl dX5_worthAt_5 rfl (Nat.le_of_ble_eq_true rfl) rfl ?_
  refine ev_iload_n 0 dX5_worthAt_6 rfl rfl ?_
  refine ev_if_lt (tgt := 28) dX5_worthAt_7 (by decide) (fun c7 => ?_) (fun c7 => ?_)
  · replace h := xif_t c7 h
    refine ev_iconst (v := 0) dX5_worthAt_28 (by decide) ?_
    cases h
    exact ev_iret rfl (hQ) dX5_worthAt_29 (Nat.zero_le _) (Nat.zero_le _)
  · replace h := xif_f c7 h
    refine ev_iload_n 0 dX5_worthAt_10 rfl rfl ?_
    refine ev_aload_n 1 dX5_worthAt_11 rfl rfl ?_
    refine xv_getF (a := iC_people_worths) cl_5 lk_RX5_9 kd_19 (xl hF rfl) (fun _ => rfl) (fr_19_0 hF) dX5_worthAt_12 ?_
    refine ev_alen (v := 192) 0 (by decide) kd_20 (xl hF rfl) rfl dX5_worthAt_15 ?_
    refine ev_icmp_ge (tgt := 28) dX5_worthAt_16 (by decide) (fun c16 => ?_) (fun c16 => ?_)
    · replace h := xif_t c16 h
      refine ev_iconst (v := 0) dX5_worthAt_28 (by decide) ?_
      cases h
      exact ev_iret rfl (hQ) dX5_worthAt_29 (Nat.zero_le _) (Nat.zero_le _)
    · replace h := xif_f c16 h
      refine ev_aload_n 1 dX5_worthAt_19 rfl rfl ?_
      refine xv_getF (a := iC_people_worths) cl_5 lk_RX5_9 kd_19 (xl hF rfl) (fun _ => rfl) (fr_19_0 hF) dX5_worthAt_20 ?_
      refine ev_iload_n 0 dX5_worthAt_23 rfl rfl ?_
      obtain ⟨v2, hv2, h⟩ := xbd_some h
      refine xv_iald kd_20 (xl hF rfl) hv2 dX5_worthAt_24 ?_
      refine ev_goto (tgt := 29) dX5_worthAt_25 (by decide) ?_
      cases h
      exact ev_iret rfl (hQ) dX5_worthAt_29 (Nat.zero_le _) (Nat.zero_le _)
def fX6_spreadLasts_b2 (x1 : Int32) (μ2 : xm) (p0 : Int32) (p1 : Int32) (R : xr) : Option ((Int32 × xm) ⊕ (xm)) := xbd (R iC_rest 4) fun a4 => xbd (fX8_length a4 μ2) fun q5 => if q5 ≤ x1 then (some (.inr μ2)) else (xbd (R iC_rest 5) fun a6 => xbd (R iC_rest 4) fun a7 => xbd (fX8_minuteAt a7 x1 μ2) fun q8 => xbd (R iC_rest 4) fun a9 => xbd (fX8_weightAt a9 x1 μ2) fun q10 => xbd (fX8_add a6 (xmax p0 q8) (p1.toInt64 * q10) μ2) fun q11 => xlt (x1 + 1) fun x12 => some (.inl (x12, q11)))
def fX6_spreadLasts (p0 : Int32) (p1 : Int32) (μ : xm) (R : xr) : Option (xm) := xbd (xloop xfu (fun v => fX6_spreadLasts_b2 v.1 v.2 p0 p1 R) (0, μ)) fun q13 => some q13
set_option maxHeartbeats 4000000 in
set_option maxRecDepth 100000 in
theorem kX6_spreadLasts {E : xE} {d : Nat} {QQ : xP} (hd : 1 ≤ d) {p0 : Int32} {p1 : Int32} {μ : xm} {R : xr} {n : Nat} (hF : xFin R n)  {res : xm} (h : fX6_spreadLasts p0 p1 μ R = some res) (hQ : QQ none (xσ res R) n) : xCon E d Y_X6_spreadLasts 0 0 [.ref (E.2.2.2 + iC_rest), .int p0, .int p1] (xσ μ R) n QQ := by
  refine xCon_of pn_RX6 (Nat.le_of_ble_eq_true rfl) (L0 := [(0, .ref (E.2.2.2 + iC_rest)), (1, .int p0), (2, .int p1)]) rfl ?_
  unfold fX6_spreadLasts at h
  refine ev_iconst (v := 0) dX6_spreadLasts_0 (by decide) ?_
  refine xv_istore_n (L' := [(3, .int 0), (0, .ref (E.2.2.2 + iC_rest)), (1, .int p0), (2, .int p1)]) rfl dX6_spreadLasts_1 rfl (Nat.le_of_ble_eq_true rfl) rfl ?_
  obtain ⟨q13, hq13, h⟩ := xbd_some h
  refine ev_sub (L' := [(0, .ref (E.2.2.2 + iC_rest)), (1, .int p0), (2, .int p1), (3, .int 0)]) [1, 2, 3, 0] rfl ?_
  refine xloop_run (fun v => Ev E (xcm E d 0 0 QQ) Y_X6_spreadLasts 2 [(0, .ref (E.2.2.2 + iC_rest)), (1, .int p0), (2, .int p1), (3, .int v.1)] [] (xσ v.2 R) n 0 0) (fun v => Ev E (xcm E d 0 0 QQ) Y_X6_spreadLasts 49 [] [] (xσ v R) n 0 0) ?_ _ _ _ hq13 ?_
  · rintro ⟨x1, μ2⟩ y3 h hk
    replace h : fX6_spreadLasts_b2 x1 μ2 p0 p1 R = some y3 := h
    show Ev E (xcm E d 0 0 QQ) Y_X6_spreadLasts 2 [(0, .ref (E.2.2.2 + iC_rest)), (1, .int p0), (2, .int p1), (3, .int x1)] [] (xσ μ2 R) n 0 0
    unfold fX6_spreadLasts_b2 at h
    refine ev_iload_n 3 dX6_spreadLasts_2 rfl rfl ?_
    refine ev_aload_n 0 dX6_spreadLasts_3 rfl rfl ?_
    refine xv_getR cl_6 lk_RX6_22 kd_49 (xl hF rfl) (fun _ => rfl) dX6_spreadLasts_4 ?_
    obtain ⟨a4, ha4, h⟩ := xbd_some h
    refine xv_nn ha4 ?_
    replace ha4 := dy_49_4 hF _ ha4
    obtain ⟨q5, hq5, h⟩ := xbd_some h
    refine ev_callV (ci := 8) (rest := [.int x1]) 0 (kX8_length (E := E) (d := 0) (QQ := (fun v τ n' => v = some (.int q5) ∧ τ = xσ μ2 R ∧ n = n')) (Nat.le_refl _) hF ha4 hq5 (⟨rfl, rfl, rfl⟩)) my_X8_length ⟨m_1130, m_1131, m_1132⟩ cl_8 (xIs8_kd ha4) (xIs8_lt ha4) rfl rfl (Nat.le_of_ble_eq_true rfl) (Nat.le_trans (by decide) hd) (xlo (by decide) (Nat.le_trans (by decide) hd)) (Nat.zero_le _) (Nat.zero_le _) dX6_spreadLasts_7 (fun v τ n' hv => ?_)
    obtain ⟨rfl, rfl, rfl⟩ := hv
    show Ev E (xcm E d 0 0 QQ) Y_X6_spreadLasts 10 [(0, .ref (E.2.2.2 + iC_rest)), (1, .int p0), (2, .int p1), (3, .int x1)] [.int q5, .int x1] (xσ μ2 R) n 0 0
    refine ev_icmp_ge (tgt := 49) dX6_spreadLasts_10 (by decide) (fun c10 => ?_) (fun c10 => ?_)
    · replace h := xif_t c10 h
      cases h
      replace hk := xel_r hk
      exact ev_sub [] rfl (hk)
    · replace h := xif_f c10 h
      refine ev_aload_n 0 dX6_spreadLasts_13 rfl rfl ?_
      refine xv_getR cl_6 lk_RX6_26 kd_49 (xl hF rfl) (fun _ => rfl) dX6_spreadLasts_14 ?_
      obtain ⟨a6, ha6, h⟩ := xbd_some h
      refine xv_nn ha6 ?_
      replace ha6 := dy_49_5 hF _ ha6
      refine ev_iload_n 1 dX6_spreadLasts_17 rfl rfl ?_
      refine ev_aload_n 0 dX6_spreadLasts_18 rfl rfl ?_
      refine xv_getR cl_6 lk_RX6_22 kd_49 (xl hF rfl) (fun _ => rfl) dX6_spreadLasts_19 ?_
      obtain ⟨a7, ha7, h⟩ := xbd_some h
      refine xv_nn ha7 ?_
      replace ha7 := dy_49_4 hF _ ha7
      refine ev_iload_n 3 dX6_spreadLasts_22 rfl rfl ?_
      obtain ⟨q8, hq8, h⟩ := xbd_some h
      refine ev_callV (ci := 8) (rest := [.int p0, .ref (E.2.2.2 + a6)]) 1 (kX8_minuteAt (E := E) (d := 0) (QQ := (fun v τ n' => v = some (.int q8) ∧ τ = xσ μ2 R ∧ n = n')) (Nat.le_refl _) hF ha7 hq8 (⟨rfl, rfl, rfl⟩)) my_X8_minuteAt ⟨m_1134, m_1135, m_1136⟩ cl_8 (xIs8_kd ha7) (xIs8_lt ha7) rfl rfl (Nat.le_of_ble_eq_true rfl) (Nat.le_trans (by decide) hd) (xlo (by decide) (Nat.le_trans (by decide) hd)) (Nat.zero_le _) (Nat.zero_le _) dX6_spreadLasts_23 (fun v τ n' hv => ?_)
      obtain ⟨rfl, rfl, rfl⟩ := hv
      show Ev E (xcm E d 0 0 QQ) Y_X6_spreadLasts 26 [(0, .ref (E.2.2.2 + iC_rest)), (1, .int p0), (2, .int p1), (3, .int x1)] [.int q8, .int p0, .ref (E.2.2.2 + a6)] (xσ μ2 R) n 0 0
      refine ev_mmax ⟨m_1124, m_534, m_124, m_535⟩ (Nat.le_trans (by decide) hd) (xlo2 (Nat.le_trans (by decide) hd)) (Nat.le_of_ble_eq_true rfl) (Nat.zero_le _) (Nat.zero_le _) dX6_spreadLasts_26 ?_
      refine ev_iload_n 2 dX6_spreadLasts_29 rfl rfl ?_
      refine ev_i2l dX6_spreadLasts_30 ?_
      refine ev_aload_n 0 dX6_spreadLasts_31 rfl rfl ?_
      refine xv_getR cl_6 lk_RX6_22 kd_49 (xl hF rfl) (fun _ => rfl) dX6_spreadLasts_32 ?_
      obtain ⟨a9, ha9, h⟩ := xbd_some h
      refine xv_nn ha9 ?_
      replace ha9 := dy_49_4 hF _ ha9
      refine ev_iload_n 3 dX6_spreadLasts_35 rfl rfl ?_
      obtain ⟨q10, hq10, h⟩ := xbd_some h
      refine ev_callV (ci := 8) (rest := [.long (p1.toInt64), .int (xmax p0 q8), .ref (E.2.2.2 + a6)]) 1 (kX8_weightAt (E := E) (d := 0) (QQ := (fun v τ n' => v = some (.long q10) ∧ τ = xσ μ2 R ∧ n = n')) (Nat.le_refl _) hF ha9 hq10 (⟨rfl, rfl, rfl⟩)) my_X8_weightAt ⟨m_1138, m_1139, m_1140⟩ cl_8 (xIs8_kd ha9) (xIs8_lt ha9) rfl rfl (Nat.le_of_ble_eq_true rfl) (Nat.le_trans (by decide) hd) (xlo (by decide) (Nat.le_trans (by decide) hd)) (Nat.zero_le _) (Nat.zero_le _) dX6_spreadLasts_36 (fun v τ n' hv => ?_)
      obtain ⟨rfl, rfl, rfl⟩ := hv
      show Ev E (xcm E d 0 0 QQ) Y_X6_spreadLasts 39 [(0, .ref (E.2.2.2 + iC_rest)), (1, .int p0), (2, .int p1), (3, .int x1)] [.long q10, .long (p1.toInt64), .int (xmax p0 q8), .ref (E.2.2.2 + a6)] (xσ μ2 R) n 0 0
      refine ev_lmul dX6_spreadLasts_39 ?_
      obtain ⟨q11, hq11, h⟩ := xbd_some h
      refine ev_callV (ci := 8) (rest := []) 2 (kX8_add (E := E) (d := 0) (QQ := (fun v τ n' => v = none ∧ τ = xσ q11 R ∧ n = n')) (Nat.le_refl _) hF ha6 hq11 (⟨rfl, rfl, rfl⟩)) my_X8_add ⟨m_1113, m_1114, m_1115⟩ cl_8 (xIs8_kd ha6) (xIs8_lt ha6) rfl rfl (Nat.le_of_ble_eq_true rfl) (Nat.le_trans (by decide) hd) (xlo (by decide) (Nat.le_trans (by decide) hd)) (Nat.zero_le _) (Nat.zero_le _) dX6_spreadLasts_40 (fun v τ n' hv => ?_)
      obtain ⟨rfl, rfl, rfl⟩ := hv
      show Ev E (xcm E d 0 0 QQ) Y_X6_spreadLasts 43 [(0, .ref (E.2.2.2 + iC_rest)), (1, .int p0), (2, .int p1), (3, .int x1)] [] (xσ q11 R) n 0 0
      obtain ⟨x12, hx12, h⟩ := xlt_some h
      refine ev_iinc (L' := [(3, .int x12), (0, .ref (E.2.2.2 + iC_rest)), (1, .int p0), (2, .int p1)]) 3 dX6_spreadLasts_43 rfl ((by rfl : x1 + Int32.ofInt 1 = x1 + 1).trans hx12) (Nat.le_of_ble_eq_true rfl) rfl ?_
      refine ev_goto (tgt := 2) dX6_spreadLasts_46 (by decide) ?_
      cases h
      replace hk := xel_l hk
      exact ev_sub [1, 2, 3, 0] rfl (hk)
  · show Ev E (xcm E d 0 0 QQ) Y_X6_spreadLasts 49 [] [] (xσ q13 R) n 0 0
    cases h
    exact ev_vret rfl (hQ) dX6_spreadLasts_49 (Nat.zero_le _) (Nat.zero_le _)
def fX7_dueFrom (p0 : Int32) (p1 : Int32) (μ : xm) : Option (Int32) := xbd (fX11_isPerson p0) fun q1 => if q1 = 0 then (some 0) else (xbd (fX11_isPerson p1) fun q2 => if q2 = 0 then (some 0) else (xbd (xgI μ iC_striking_due 64 ((p0 * 8) + p1)) fun v3 => some v3))
set_option maxHeartbeats 4000000 in
set_option maxRecDepth 100000 in
theorem kX7_dueFrom {E : xE} {d : Nat} {QQ : xP} (hd : 1 ≤ d) {p0 : Int32} {p1 : Int32} {μ : xm} {R : xr} {n : Nat} (hF : xFin R n)  {res : Int32} (h : fX7_dueFrom p0 p1 μ = some res) (hQ : QQ (some (.int res)) (xσ μ R) n) : xCon E d Y_X7_dueFrom 0 0 [.ref (E.2.2.2 + iC_striking), .int p0, .int p1] (xσ μ R) n QQ := by
  refine xCon_of pn_RX7 (Nat.le_of_ble_eq_true rfl) (L0 := [(0, .ref (E.2.2.2 + iC_striking)), (1, .int p0), (2, .int p1)]) rfl ?_
  unfold fX7_dueFrom at h
  refine ev_iload_n 1 dX7_dueFrom_0 rfl rfl ?_
  obtain ⟨q1, hq1, h⟩ := xbd_some h
  refine ev_callSN (As := [.int p0]) (rest := []) 1 (kX11_isPerson (E := E) (d := 0) (QQ := (fun v τ n' => v = some (.int q1) ∧ τ = xσ μ R ∧ n = n')) (Nat.le_refl _)  hq1 (⟨rfl, rfl, rfl⟩)) my_X11_isPerson ⟨⟨_, xnm_9⟩, m_436⟩ rfl rfl (Nat.le_of_ble_eq_true rfl) (Nat.le_trans (by decide) hd) (xlo (by decide) (Nat.le_trans (by decide) hd)) (Nat.zero_le _) (Nat.zero_le _) dX7_dueFrom_1 (fun v τ n' hv => ?_)
  obtain ⟨rfl, rfl, rfl⟩ := hv
  show Ev E (xcm E d 0 0 QQ) Y_X7_dueFrom 4 [(0, .ref (E.2.2.2 + iC_striking)), (1, .int p0), (2, .int p1)] [.int q1] (xσ μ R) n 0 0
  refine ev_if_eq (tgt := 28) dX7_dueFrom_4 (by decide) (fun c4 => ?_) (fun c4 => ?_)
  · replace h := xif_t c4 h
    refine ev_iconst (v := 0) dX7_dueFrom_28 (by decide) ?_
    cases h
    exact ev_iret rfl (hQ) dX7_dueFrom_29 (Nat.zero_le _) (Nat.zero_le _)
  · replace h := xif_f c4 h
    refine ev_iload_n 2 dX7_dueFrom_7 rfl rfl ?_
    obtain ⟨q2, hq2, h⟩ := xbd_some h
    refine ev_callSN (As := [.int p1]) (rest := []) 1 (kX11_isPerson (E := E) (d := 0) (QQ := (fun v τ n' => v = some (.int q2) ∧ τ = xσ μ R ∧ n = n')) (Nat.le_refl _)  hq2 (⟨rfl, rfl, rfl⟩)) my_X11_isPerson ⟨⟨_, xnm_9⟩, m_436⟩ rfl rfl (Nat.le_of_ble_eq_true rfl) (Nat.le_trans (by decide) hd) (xlo (by decide) (Nat.le_trans (by decide) hd)) (Nat.zero_le _) (Nat.zero_le _) dX7_dueFrom_8 (fun v τ n' hv => ?_)
    obtain ⟨rfl, rfl, rfl⟩ := hv
    show Ev E (xcm E d 0 0 QQ) Y_X7_dueFrom 11 [(0, .ref (E.2.2.2 + iC_striking)), (1, .int p0), (2, .int p1)] [.int q2] (xσ μ R) n 0 0
    refine ev_if_eq (tgt := 28) dX7_dueFrom_11 (by decide) (fun c11 => ?_) (fun c11 => ?_)
    · replace h := xif_t c11 h
      refine ev_iconst (v := 0) dX7_dueFrom_28 (by decide) ?_
      cases h
      exact ev_iret rfl (hQ) dX7_dueFrom_29 (Nat.zero_le _) (Nat.zero_le _)
    · replace h := xif_f c11 h
      refine ev_aload_n 0 dX7_dueFrom_14 rfl rfl ?_
      refine xv_getF (a := iC_striking_due) cl_7 lk_RX7_11 kd_35 (xl hF rfl) (fun _ => rfl) (fr_35_0 hF) dX7_dueFrom_15 ?_
      refine ev_iload_n 1 dX7_dueFrom_18 rfl rfl ?_
      refine ev_bipush (v := 8) dX7_dueFrom_19 (by decide) ?_
      refine ev_imul dX7_dueFrom_21 ?_
      refine ev_iload_n 2 dX7_dueFrom_22 rfl rfl ?_
      refine ev_iadd dX7_dueFrom_23 ?_
      obtain ⟨v3, hv3, h⟩ := xbd_some h
      refine xv_iald kd_36 (xl hF rfl) hv3 dX7_dueFrom_24 ?_
      refine ev_goto (tgt := 29) dX7_dueFrom_25 (by decide) ?_
      cases h
      exact ev_iret rfl (hQ) dX7_dueFrom_29 (Nat.zero_le _) (Nat.zero_le _)
def fX7_fewestPayments_b18 (x4 : Int32) (x5 : Int32) (x6 : Int32) (x1 : Int32) (μ2 : xm) : Option ((Int32 × Int32 × Int32) ⊕ (Int32 × Int32)) := if 8 ≤ x6 then (some (.inr (x4, x5))) else (xlt (x1 &&& (((1 : Int32) <<< (x6 &&& 31)) ^^^ (-1))) fun x8 => if x8 = x1 then (xlt (x6 + 1) fun x9 => some (.inl (x4, x5, x9))) else (if x8 < 0 then (xlt (x6 + 1) fun x10 => some (.inl (x4, x5, x10))) else (if x8 < 256 then (xbd (xgI μ2 iC_striking_balance 8 x6) fun v11 => xlt (x4 + v11) fun x12 => xbd (xgI μ2 iC_striking_clear 256 x8) fun v13 => xlt (xmax x5 v13) fun x14 => xlt (x6 + 1) fun x15 => some (.inl (x12, x14, x15))) else (xlt (x6 + 1) fun x16 => some (.inl (x4, x5, x16))))))
def fX7_fewestPayments_b2 (x1 : Int32) (μ2 : xm) : Option ((Int32 × xm) ⊕ (xm)) := if 256 ≤ x1 then (some (.inr μ2)) else (xbd (xloop xfu (fun v => fX7_fewestPayments_b18 v.1 v.2.1 v.2.2 x1 μ2) (0, 0, 0)) fun q17 => if q17.1 = 0 then (xbd (xsI μ2 iC_striking_clear 256 x1 (q17.2 + 1)) fun μ20 => xlt (x1 + 1) fun x21 => some (.inl (x21, μ20))) else (xbd (xsI μ2 iC_striking_clear 256 x1 (q17.2 + 0)) fun μ18 => xlt (x1 + 1) fun x19 => some (.inl (x19, μ18))))
def fX7_fewestPayments (μ : xm) : Option (Int32 × xm) := xbd (xloop xfu (fun v => fX7_fewestPayments_b2 v.1 v.2) (1, μ)) fun q22 => xbd (xgI q22 iC_striking_clear 256 255) fun v23 => some (8 - v23, q22)
set_option maxHeartbeats 4000000 in
set_option maxRecDepth 100000 in
theorem kX7_fewestPayments {E : xE} {d : Nat} {QQ : xP} (hd : 1 ≤ d)  {μ : xm} {R : xr} {n : Nat} (hF : xFin R n)  {res : Int32 × xm} (h : fX7_fewestPayments μ = some res) (hQ : QQ (some (.int res.1)) (xσ res.2 R) n) : xCon E d Y_X7_fewestPayments 0 0 [.ref (E.2.2.2 + iC_striking)] (xσ μ R) n QQ := by
  refine xCon_of pn_RX7 (Nat.le_of_ble_eq_true rfl) (L0 := [(0, .ref (E.2.2.2 + iC_striking))]) rfl ?_
  unfold fX7_fewestPayments at h
  refine ev_iconst (v := 1) dX7_fewestPayments_0 (by decide) ?_
  refine xv_istore_n (L' := [(1, .int 1), (0, .ref (E.2.2.2 + iC_striking))]) rfl dX7_fewestPayments_1 rfl (Nat.le_of_ble_eq_true rfl) rfl ?_
  obtain ⟨q22, hq22, h⟩ := xbd_some h
  refine ev_sub (L' := [(0, .ref (E.2.2.2 + iC_striking)), (1, .int 1)]) [1, 0] rfl ?_
  refine xloop_run (fun v => Ev E (xcm E d 0 0 QQ) Y_X7_fewestPayments 2 [(0, .ref (E.2.2.2 + iC_striking)), (1, .int v.1)] [] (xσ v.2 R) n 0 0) (fun v => Ev E (xcm E d 0 0 QQ) Y_X7_fewestPayments 110 [(0, .ref (E.2.2.2 + iC_striking))] [] (xσ v R) n 0 0) ?_ _ _ _ hq22 ?_
  · rintro ⟨x1, μ2⟩ y3 h hk
    replace h : fX7_fewestPayments_b2 x1 μ2 = some y3 := h
    show Ev E (xcm E d 0 0 QQ) Y_X7_fewestPayments 2 [(0, .ref (E.2.2.2 + iC_striking)), (1, .int x1)] [] (xσ μ2 R) n 0 0
    unfold fX7_fewestPayments_b2 at h
    refine ev_iload_n 1 dX7_fewestPayments_2 rfl rfl ?_
    refine ev_aload_n 0 dX7_fewestPayments_3 rfl rfl ?_
    refine xv_getF (a := iC_striking_clear) cl_7 lk_RX7_27 kd_35 (xl hF rfl) (fun _ => rfl) (fr_35_5 hF) dX7_fewestPayments_4 ?_
    refine ev_alen (v := 256) 0 (by decide) kd_41 (xl hF rfl) rfl dX7_fewestPayments_7 ?_
    refine ev_icmp_ge (tgt := 110) dX7_fewestPayments_8 (by decide) (fun c8 => ?_) (fun c8 => ?_)
    · replace h := xif_t c8 h
      cases h
      replace hk := xel_r hk
      exact ev_sub [0] rfl (hk)
    · replace h := xif_f c8 h
      refine ev_iconst (v := 0) dX7_fewestPayments_11 (by decide) ?_
      refine xv_istore_n (L' := [(2, .int 0), (0, .ref (E.2.2.2 + iC_striking)), (1, .int x1)]) rfl dX7_fewestPayments_12 rfl (Nat.le_of_ble_eq_true rfl) rfl ?_
      refine ev_iconst (v := 0) dX7_fewestPayments_13 (by decide) ?_
      refine xv_istore_n (L' := [(3, .int 0), (2, .int 0), (0, .ref (E.2.2.2 + iC_striking)), (1, .int x1)]) rfl dX7_fewestPayments_14 rfl (Nat.le_of_ble_eq_true rfl) rfl ?_
      refine ev_iconst (v := 0) dX7_fewestPayments_15 (by decide) ?_
      refine xv_istore (L' := [(4, .int 0), (3, .int 0), (2, .int 0), (0, .ref (E.2.2.2 + iC_striking)), (1, .int x1)]) rfl dX7_fewestPayments_16 (Nat.le_of_ble_eq_true rfl) rfl ?_
      obtain ⟨q17, hq17, h⟩ := xbd_some h
      refine ev_sub (L' := [(0, .ref (E.2.2.2 + iC_striking)), (1, .int x1), (2, .int 0), (3, .int 0), (4, .int 0)]) [3, 4, 2, 1, 0] rfl ?_
      refine xloop_run (fun v => Ev E (xcm E d 0 0 QQ) Y_X7_fewestPayments 18 [(0, .ref (E.2.2.2 + iC_striking)), (1, .int x1), (2, .int v.1), (3, .int v.2.1), (4, .int v.2.2)] [] (xσ μ2 R) n 0 0) (fun v => Ev E (xcm E d 0 0 QQ) Y_X7_fewestPayments 87 [(0, .ref (E.2.2.2 + iC_striking)), (1, .int x1), (2, .int v.1), (3, .int v.2)] [] (xσ μ2 R) n 0 0) ?_ _ _ _ hq17 ?_
      · rintro ⟨x4, x5, x6⟩ y7 h hk
        replace h : fX7_fewestPayments_b18 x4 x5 x6 x1 μ2 = some y7 := h
        show Ev E (xcm E d 0 0 QQ) Y_X7_fewestPayments 18 [(0, .ref (E.2.2.2 + iC_striking)), (1, .int x1), (2, .int x4), (3, .int x5), (4, .int x6)] [] (xσ μ2 R) n 0 0
        unfold fX7_fewestPayments_b18 at h
        refine ev_iload 4 dX7_fewestPayments_18 rfl ?_
        refine ev_bipush (v := 8) dX7_fewestPayments_20 (by decide) ?_
        refine ev_icmp_ge (tgt := 87) dX7_fewestPayments_22 (by decide) (fun c22 => ?_) (fun c22 => ?_)
        · replace h := xif_t c22 h
          cases h
          replace hk := xel_r hk
          exact ev_sub [0, 1, 2, 3] rfl (hk)
        · replace h := xif_f c22 h
          refine ev_iload_n 1 dX7_fewestPayments_25 rfl rfl ?_
          refine ev_iconst (v := 1) dX7_fewestPayments_26 (by decide) ?_
          refine ev_iload 4 dX7_fewestPayments_27 rfl ?_
          refine ev_ishl dX7_fewestPayments_29 ?_
          refine ev_iconst (v := (-1)) dX7_fewestPayments_30 (by decide) ?_
          refine ev_ixor dX7_fewestPayments_31 ?_
          refine ev_iand dX7_fewestPayments_32 ?_
          obtain ⟨x8, hx8, h⟩ := xlt_some h
          refine xv_istore (L' := [(5, .int x8), (0, .ref (E.2.2.2 + iC_striking)), (1, .int x1), (2, .int x4), (3, .int x5), (4, .int x6)]) hx8 dX7_fewestPayments_33 (Nat.le_of_ble_eq_true rfl) rfl ?_
          refine ev_iload 0 dX7_fewestPayments_35 rfl ?_
          refine ev_iload_n 2 dX7_fewestPayments_37 rfl rfl ?_
          refine ev_icmp_eq (tgt := 81) dX7_fewestPayments_38 (by decide) (fun c38 => ?_) (fun c38 => ?_)
          · replace h := xif_t c38 h
            obtain ⟨x9, hx9, h⟩ := xlt_some h
            refine ev_iinc (L' := [(4, .int x9), (5, .int x8), (0, .ref (E.2.2.2 + iC_striking)), (1, .int x1), (2, .int x4), (3, .int x5)]) 5 dX7_fewestPayments_81 rfl ((by rfl : x6 + Int32.ofInt 1 = x6 + 1).trans hx9) (Nat.le_of_ble_eq_true rfl) rfl ?_
            refine ev_goto (tgt := 18) dX7_fewestPayments_84 (by decide) ?_
            cases h
            replace hk := xel_l hk
            exact ev_sub [2, 3, 4, 5, 0] rfl (hk)
          · replace h := xif_f c38 h
            refine ev_iload 0 dX7_fewestPayments_41 rfl ?_
            refine ev_if_lt (tgt := 81) dX7_fewestPayments_43 (by decide) (fun c43 => ?_) (fun c43 => ?_)
            · replace h := xif_t c43 h
              obtain ⟨x10, hx10, h⟩ := xlt_some h
              refine ev_iinc (L' := [(4, .int x10), (5, .int x8), (0, .ref (E.2.2.2 + iC_striking)), (1, .int x1), (2, .int x4), (3, .int x5)]) 5 dX7_fewestPayments_81 rfl ((by rfl : x6 + Int32.ofInt 1 = x6 + 1).trans hx10) (Nat.le_of_ble_eq_true rfl) rfl ?_
              refine ev_goto (tgt := 18) dX7_fewestPayments_84 (by decide) ?_
              cases h
              replace hk := xel_l hk
              exact ev_sub [2, 3, 4, 5, 0] rfl (hk)
            · replace h := xif_f c43 h
              refine ev_iload 0 dX7_fewestPayments_46 rfl ?_
              refine ev_aload_n 1 dX7_fewestPayments_48 rfl rfl ?_
              refine xv_getF (a := iC_striking_clear) cl_7 lk_RX7_27 kd_35 (xl hF rfl) (fun _ => rfl) (fr_35_5 hF) dX7_fewestPayments_49 ?_
              refine ev_alen (v := 256) 0 (by decide) kd_41 (xl hF rfl) rfl dX7_fewestPayments_52 ?_
              refine ev_icmp_lt (tgt := 59) dX7_fewestPayments_53 (by decide) (fun c53 => ?_) (fun c53 => ?_)
              · replace h := xif_t c53 h
                refine ev_iload_n 3 dX7_fewestPayments_59 rfl rfl ?_
                refine ev_aload_n 1 dX7_fewestPayments_60 rfl rfl ?_
                refine xv_getF (a := iC_striking_balance) cl_7 lk_RX7_18 kd_35 (xl hF rfl) (fun _ => rfl) (fr_35_2 hF) dX7_fewestPayments_61 ?_
                refine ev_iload 5 dX7_fewestPayments_64 rfl ?_
                obtain ⟨v11, hv11, h⟩ := xbd_some h
                refine xv_iald kd_38 (xl hF rfl) hv11 dX7_fewestPayments_66 ?_
                refine ev_iadd dX7_fewestPayments_67 ?_
                obtain ⟨x12, hx12, h⟩ := xlt_some h
                refine xv_istore_n (L' := [(2, .int x12), (5, .int x8), (0, .ref (E.2.2.2 + iC_striking)), (1, .int x1), (3, .int x5), (4, .int x6)]) hx12 dX7_fewestPayments_68 rfl (Nat.le_of_ble_eq_true rfl) rfl ?_
                refine ev_iload_n 4 dX7_fewestPayments_69 rfl rfl ?_
                refine ev_aload_n 2 dX7_fewestPayments_70 rfl rfl ?_
                refine xv_getF (a := iC_striking_clear) cl_7 lk_RX7_27 kd_35 (xl hF rfl) (fun _ => rfl) (fr_35_5 hF) dX7_fewestPayments_71 ?_
                refine ev_iload 1 dX7_fewestPayments_74 rfl ?_
                obtain ⟨v13, hv13, h⟩ := xbd_some h
                refine xv_iald kd_41 (xl hF rfl) hv13 dX7_fewestPayments_76 ?_
                refine ev_mmax ⟨m_953, m_534, m_124, m_535⟩ (Nat.le_trans (by decide) hd) (xlo2 (Nat.le_trans (by decide) hd)) (Nat.le_of_ble_eq_true rfl) (Nat.zero_le _) (Nat.zero_le _) dX7_fewestPayments_77 ?_
                obtain ⟨x14, hx14, h⟩ := xlt_some h
                refine xv_istore_n (L' := [(3, .int x14), (2, .int x12), (5, .int x8), (0, .ref (E.2.2.2 + iC_striking)), (1, .int x1), (4, .int x6)]) hx14 dX7_fewestPayments_80 rfl (Nat.le_of_ble_eq_true rfl) rfl ?_
                obtain ⟨x15, hx15, h⟩ := xlt_some h
                refine ev_iinc (L' := [(4, .int x15), (3, .int x14), (2, .int x12), (5, .int x8), (0, .ref (E.2.2.2 + iC_striking)), (1, .int x1)]) 5 dX7_fewestPayments_81 rfl ((by rfl : x6 + Int32.ofInt 1 = x6 + 1).trans hx15) (Nat.le_of_ble_eq_true rfl) rfl ?_
                refine ev_goto (tgt := 18) dX7_fewestPayments_84 (by decide) ?_
                cases h
                replace hk := xel_l hk
                exact ev_sub [4, 5, 2, 1, 0] rfl (hk)
              · replace h := xif_f c53 h
                refine ev_goto (tgt := 81) dX7_fewestPayments_56 (by decide) ?_
                obtain ⟨x16, hx16, h⟩ := xlt_some h
                refine ev_iinc (L' := [(4, .int x16), (5, .int x8), (0, .ref (E.2.2.2 + iC_striking)), (1, .int x1), (2, .int x4), (3, .int x5)]) 5 dX7_fewestPayments_81 rfl ((by rfl : x6 + Int32.ofInt 1 = x6 + 1).trans hx16) (Nat.le_of_ble_eq_true rfl) rfl ?_
                refine ev_goto (tgt := 18) dX7_fewestPayments_84 (by decide) ?_
                cases h
                replace hk := xel_l hk
                exact ev_sub [2, 3, 4, 5, 0] rfl (hk)
      · show Ev E (xcm E d 0 0 QQ) Y_X7_fewestPayments 87 [(0, .ref (E.2.2.2 + iC_striking)), (1, .int x1), (2, .int q17.1), (3, .int q17.2)] [] (xσ μ2 R) n 0 0
        refine ev_aload_n 0 dX7_fewestPayments_87 rfl rfl ?_
        refine xv_getF (a := iC_striking_clear) cl_7 lk_RX7_27 kd_35 (xl hF rfl) (fun _ => rfl) (fr_35_5 hF) dX7_fewestPayments_88 ?_
        refine ev_iload_n 1 dX7_fewestPayments_91 rfl rfl ?_
        refine ev_iload_n 3 dX7_fewestPayments_92 rfl rfl ?_
        refine ev_iload_n 2 dX7_fewestPayments_93 rfl rfl ?_
        refine ev_if_ne (tgt := 101) dX7_fewestPayments_94 (by decide) (fun c94 => ?_) (fun c94 => ?_)
        · replace h := xif_f c94 h
          refine ev_iconst (v := 0) dX7_fewestPayments_101 (by decide) ?_
          refine ev_iadd dX7_fewestPayments_102 ?_
          obtain ⟨μ18, hμ18, h⟩ := xbd_some h
          refine xv_iast kd_41 (xl hF rfl) hμ18 dX7_fewestPayments_103 ?_
          obtain ⟨x19, hx19, h⟩ := xlt_some h
          refine ev_iinc (L' := [(1, .int x19), (0, .ref (E.2.2.2 + iC_striking)), (2, .int q17.1), (3, .int q17.2)]) 1 dX7_fewestPayments_104 rfl ((by rfl : x1 + Int32.ofInt 1 = x1 + 1).trans hx19) (Nat.le_of_ble_eq_true rfl) rfl ?_
          refine ev_goto (tgt := 2) dX7_fewestPayments_107 (by decide) ?_
          cases h
          replace hk := xel_l hk
          exact ev_sub [1, 0] rfl (hk)
        · replace h := xif_t c94 h
          refine ev_iconst (v := 1) dX7_fewestPayments_97 (by decide) ?_
          refine ev_goto (tgt := 102) dX7_fewestPayments_98 (by decide) ?_
          refine ev_iadd dX7_fewestPayments_102 ?_
          obtain ⟨μ20, hμ20, h⟩ := xbd_some h
          refine xv_iast kd_41 (xl hF rfl) hμ20 dX7_fewestPayments_103 ?_
          obtain ⟨x21, hx21, h⟩ := xlt_some h
          refine ev_iinc (L' := [(1, .int x21), (0, .ref (E.2.2.2 + iC_striking)), (2, .int q17.1), (3, .int q17.2)]) 1 dX7_fewestPayments_104 rfl ((by rfl : x1 + Int32.ofInt 1 = x1 + 1).trans hx21) (Nat.le_of_ble_eq_true rfl) rfl ?_
          refine ev_goto (tgt := 2) dX7_fewestPayments_107 (by decide) ?_
          cases h
          replace hk := xel_l hk
          exact ev_sub [1, 0] rfl (hk)
  · show Ev E (xcm E d 0 0 QQ) Y_X7_fewestPayments 110 [(0, .ref (E.2.2.2 + iC_striking))] [] (xσ q22 R) n 0 0
    refine ev_bipush (v := 8) dX7_fewestPayments_110 (by decide) ?_
    refine ev_aload_n 0 dX7_fewestPayments_112 rfl rfl ?_
    refine xv_getF (a := iC_striking_clear) cl_7 lk_RX7_27 kd_35 (xl hF rfl) (fun _ => rfl) (fr_35_5 hF) dX7_fewestPayments_113 ?_
    refine ev_sipush (v := 255) dX7_fewestPayments_116 (by decide) ?_
    obtain ⟨v23, hv23, h⟩ := xbd_some h
    refine xv_iald kd_41 (xl hF rfl) hv23 dX7_fewestPayments_119 ?_
    refine ev_isub dX7_fewestPayments_120 ?_
    cases h
    exact ev_iret rfl (hQ) dX7_fewestPayments_121 (Nat.zero_le _) (Nat.zero_le _)
def fX7_leftFrom (p0 : Int32) (p1 : Int32) (μ : xm) : Option (Int32) := xbd (fX11_isPerson p0) fun q1 => if q1 = 0 then (some 0) else (xbd (fX11_isPerson p1) fun q2 => if q2 = 0 then (some 0) else (xbd (xgI μ iC_striking_left 64 ((p0 * 8) + p1)) fun v3 => some v3))
set_option maxHeartbeats 4000000 in
set_option maxRecDepth 100000 in
theorem kX7_leftFrom {E : xE} {d : Nat} {QQ : xP} (hd : 1 ≤ d) {p0 : Int32} {p1 : Int32} {μ : xm} {R : xr} {n : Nat} (hF : xFin R n)  {res : Int32} (h : fX7_leftFrom p0 p1 μ = some res) (hQ : QQ (some (.int res)) (xσ μ R) n) : xCon E d Y_X7_leftFrom 0 0 [.ref (E.2.2.2 + iC_striking), .int p0, .int p1] (xσ μ R) n QQ := by
  refine xCon_of pn_RX7 (Nat.le_of_ble_eq_true rfl) (L0 := [(0, .ref (E.2.2.2 + iC_striking)), (1, .int p0), (2, .int p1)]) rfl ?_
  unfold fX7_leftFrom at h
  refine ev_iload_n 1 dX7_leftFrom_0 rfl rfl ?_
  obtain ⟨q1, hq1, h⟩ := xbd_some h
  refine ev_callSN (As := [.int p0]) (rest := []) 1 (kX11_isPerson (E := E) (d := 0) (QQ := (fun v τ n' => v = some (.int q1) ∧ τ = xσ μ R ∧ n = n')) (Nat.le_refl _)  hq1 (⟨rfl, rfl, rfl⟩)) my_X11_isPerson ⟨⟨_, xnm_9⟩, m_436⟩ rfl rfl (Nat.le_of_ble_eq_true rfl) (Nat.le_trans (by decide) hd) (xlo (by decide) (Nat.le_trans (by decide) hd)) (Nat.zero_le _) (Nat.zero_le _) dX7_leftFrom_1 (fun v τ n' hv => ?_)
  obtain ⟨rfl, rfl, rfl⟩ := hv
  show Ev E (xcm E d 0 0 QQ) Y_X7_leftFrom 4 [(0, .ref (E.2.2.2 + iC_striking)), (1, .int p0), (2, .int p1)] [.int q1] (xσ μ R) n 0 0
  refine ev_if_eq (tgt := 28) dX7_leftFrom_4 (by decide) (fun c4 => ?_) (fun c4 => ?_)
  · replace h := xif_t c4 h
    refine ev_iconst (v := 0) dX7_leftFrom_28 (by decide) ?_
    cases h
    exact ev_iret rfl (hQ) dX7_leftFrom_29 (Nat.zero_le _) (Nat.zero_le _)
  · replace h := xif_f c4 h
    refine ev_iload_n 2 dX7_leftFrom_7 rfl rfl ?_
    obtain ⟨q2, hq2, h⟩ := xbd_some h
    refine ev_callSN (As := [.int p1]) (rest := []) 1 (kX11_isPerson (E := E) (d := 0) (QQ := (fun v τ n' => v = some (.int q2) ∧ τ = xσ μ R ∧ n = n')) (Nat.le_refl _)  hq2 (⟨rfl, rfl, rfl⟩)) my_X11_isPerson ⟨⟨_, xnm_9⟩, m_436⟩ rfl rfl (Nat.le_of_ble_eq_true rfl) (Nat.le_trans (by decide) hd) (xlo (by decide) (Nat.le_trans (by decide) hd)) (Nat.zero_le _) (Nat.zero_le _) dX7_leftFrom_8 (fun v τ n' hv => ?_)
    obtain ⟨rfl, rfl, rfl⟩ := hv
    show Ev E (xcm E d 0 0 QQ) Y_X7_leftFrom 11 [(0, .ref (E.2.2.2 + iC_striking)), (1, .int p0), (2, .int p1)] [.int q2] (xσ μ R) n 0 0
    refine ev_if_eq (tgt := 28) dX7_leftFrom_11 (by decide) (fun c11 => ?_) (fun c11 => ?_)
    · replace h := xif_t c11 h
      refine ev_iconst (v := 0) dX7_leftFrom_28 (by decide) ?_
      cases h
      exact ev_iret rfl (hQ) dX7_leftFrom_29 (Nat.zero_le _) (Nat.zero_le _)
    · replace h := xif_f c11 h
      refine ev_aload_n 0 dX7_leftFrom_14 rfl rfl ?_
      refine xv_getF (a := iC_striking_left) cl_7 lk_RX7_15 kd_35 (xl hF rfl) (fun _ => rfl) (fr_35_1 hF) dX7_leftFrom_15 ?_
      refine ev_iload_n 1 dX7_leftFrom_18 rfl rfl ?_
      refine ev_bipush (v := 8) dX7_leftFrom_19 (by decide) ?_
      refine ev_imul dX7_leftFrom_21 ?_
      refine ev_iload_n 2 dX7_leftFrom_22 rfl rfl ?_
      refine ev_iadd dX7_leftFrom_23 ?_
      obtain ⟨v3, hv3, h⟩ := xbd_some h
      refine xv_iald kd_37 (xl hF rfl) hv3 dX7_leftFrom_24 ?_
      refine ev_goto (tgt := 29) dX7_leftFrom_25 (by decide) ?_
      cases h
      exact ev_iret rfl (hQ) dX7_leftFrom_29 (Nat.zero_le _) (Nat.zero_le _)
def fX9_wordAt_b4 (x1 : Int32) (x2 : Int32) (p0 : Int32) (μ : xm) : Option ((Int32 × Int32) ⊕ (Int32)) := if 4 ≤ x2 then (some (.inr x1)) else (xbd (fX9_byteAt ((p0 * 4) + x2) μ) fun q4 => xlt ((x1 <<< ((8 : Int32) &&& 31)) ||| (q4 &&& 255)) fun x5 => xlt (x2 + 1) fun x6 => some (.inl (x5, x6)))
def fX9_wordAt (p0 : Int32) (μ : xm) : Option (Int32) := xbd (xloop xfu (fun v => fX9_wordAt_b4 v.1 v.2 p0 μ) (0, 0)) fun q7 => some q7
set_option maxHeartbeats 4000000 in
set_option maxRecDepth 100000 in
theorem kX9_wordAt {E : xE} {d : Nat} {QQ : xP} (hd : 1 ≤ d) {p0 : Int32} {μ : xm} {R : xr} {n : Nat} (hF : xFin R n)  {res : Int32} (h : fX9_wordAt p0 μ = some res) (hQ : QQ (some (.int res)) (xσ μ R) n) : xCon E d Y_X9_wordAt 0 0 [.ref (E.2.2.2 + iC_tape), .int p0] (xσ μ R) n QQ := by
  refine xCon_of pn_RX9 (Nat.le_of_ble_eq_true rfl) (L0 := [(0, .ref (E.2.2.2 + iC_tape)), (1, .int p0)]) rfl ?_
  unfold fX9_wordAt at h
  refine ev_iconst (v := 0) dX9_wordAt_0 (by decide) ?_
  refine xv_istore_n (L' := [(2, .int 0), (0, .ref (E.2.2.2 + iC_tape)), (1, .int p0)]) rfl dX9_wordAt_1 rfl (Nat.le_of_ble_eq_true rfl) rfl ?_
  refine ev_iconst (v := 0) dX9_wordAt_2 (by decide) ?_
  refine xv_istore_n (L' := [(3, .int 0), (2, .int 0), (0, .ref (E.2.2.2 + iC_tape)), (1, .int p0)]) rfl dX9_wordAt_3 rfl (Nat.le_of_ble_eq_true rfl) rfl ?_
  obtain ⟨q7, hq7, h⟩ := xbd_some h
  refine ev_sub (L' := [(0, .ref (E.2.2.2 + iC_tape)), (1, .int p0), (2, .int 0), (3, .int 0)]) [2, 3, 1, 0] rfl ?_
  refine xloop_run (fun v => Ev E (xcm E d 0 0 QQ) Y_X9_wordAt 4 [(0, .ref (E.2.2.2 + iC_tape)), (1, .int p0), (2, .int v.1), (3, .int v.2)] [] (xσ μ R) n 0 0) (fun v => Ev E (xcm E d 0 0 QQ) Y_X9_wordAt 34 [(2, .int v)] [] (xσ μ R) n 0 0) ?_ _ _ _ hq7 ?_
  · rintro ⟨x1, x2⟩ y3 h hk
    replace h : fX9_wordAt_b4 x1 x2 p0 μ = some y3 := h
    show Ev E (xcm E d 0 0 QQ) Y_X9_wordAt 4 [(0, .ref (E.2.2.2 + iC_tape)), (1, .int p0), (2, .int x1), (3, .int x2)] [] (xσ μ R) n 0 0
    unfold fX9_wordAt_b4 at h
    refine ev_iload_n 3 dX9_wordAt_4 rfl rfl ?_
    refine ev_iconst (v := 4) dX9_wordAt_5 (by decide) ?_
    refine ev_icmp_ge (tgt := 34) dX9_wordAt_6 (by decide) (fun c6 => ?_) (fun c6 => ?_)
    · replace h := xif_t c6 h
      cases h
      replace hk := xel_r hk
      exact ev_sub [2] rfl (hk)
    · replace h := xif_f c6 h
      refine ev_iload_n 2 dX9_wordAt_9 rfl rfl ?_
      refine ev_bipush (v := 8) dX9_wordAt_10 (by decide) ?_
      refine ev_ishl dX9_wordAt_12 ?_
      refine ev_aload_n 0 dX9_wordAt_13 rfl rfl ?_
      refine ev_iload_n 1 dX9_wordAt_14 rfl rfl ?_
      refine ev_iconst (v := 4) dX9_wordAt_15 (by decide) ?_
      refine ev_imul dX9_wordAt_16 ?_
      refine ev_iload_n 3 dX9_wordAt_17 rfl rfl ?_
      refine ev_iadd dX9_wordAt_18 ?_
      obtain ⟨q4, hq4, h⟩ := xbd_some h
      refine ev_callV (ci := 9) (rest := [.int (x1 <<< ((8 : Int32) &&& 31))]) 1 (kX9_byteAt (E := E) (d := 0) (QQ := (fun v τ n' => v = some (.int q4) ∧ τ = xσ μ R ∧ n = n')) (Nat.le_refl _) hF hq4 (⟨rfl, rfl, rfl⟩)) my_X9_byteAt ⟨m_1215, m_537, m_538⟩ cl_9 kd_1 (xl hF rfl) rfl rfl (Nat.le_of_ble_eq_true rfl) (Nat.le_trans (by decide) hd) (xlo (by decide) (Nat.le_trans (by decide) hd)) (Nat.zero_le _) (Nat.zero_le _) dX9_wordAt_19 (fun v τ n' hv => ?_)
      obtain ⟨rfl, rfl, rfl⟩ := hv
      show Ev E (xcm E d 0 0 QQ) Y_X9_wordAt 22 [(0, .ref (E.2.2.2 + iC_tape)), (1, .int p0), (2, .int x1), (3, .int x2)] [.int q4, .int (x1 <<< ((8 : Int32) &&& 31))] (xσ μ R) n 0 0
      refine ev_sipush (v := 255) dX9_wordAt_22 (by decide) ?_
      refine ev_iand dX9_wordAt_25 ?_
      refine ev_ior dX9_wordAt_26 ?_
      obtain ⟨x5, hx5, h⟩ := xlt_some h
      refine xv_istore_n (L' := [(2, .int x5), (0, .ref (E.2.2.2 + iC_tape)), (1, .int p0), (3, .int x2)]) hx5 dX9_wordAt_27 rfl (Nat.le_of_ble_eq_true rfl) rfl ?_
      obtain ⟨x6, hx6, h⟩ := xlt_some h
      refine ev_iinc (L' := [(3, .int x6), (2, .int x5), (0, .ref (E.2.2.2 + iC_tape)), (1, .int p0)]) 3 dX9_wordAt_28 rfl ((by rfl : x2 + Int32.ofInt 1 = x2 + 1).trans hx6) (Nat.le_of_ble_eq_true rfl) rfl ?_
      refine ev_goto (tgt := 4) dX9_wordAt_31 (by decide) ?_
      cases h
      replace hk := xel_l hk
      exact ev_sub [2, 3, 1, 0] rfl (hk)
  · show Ev E (xcm E d 0 0 QQ) Y_X9_wordAt 34 [(2, .int q7)] [] (xσ μ R) n 0 0
    refine ev_iload_n 0 dX9_wordAt_34 rfl rfl ?_
    cases h
    exact ev_iret rfl (hQ) dX9_wordAt_35 (Nat.zero_le _) (Nat.zero_le _)
def fX0_amount_b3 (x1 : Int32) (μ2 : xm) (o : Nat) (p0 : Int32) (p1 : Int32) (p2 : Nat) : Option ((Int32 × xm) ⊕ ((xm) ⊕ (Int32 × xm))) := if (μ2.1 o 6) ≤ x1 then (some (.inr (.inl μ2))) else (if 14 ≤ x1 then (some (.inr (.inl μ2))) else (xbd (xgI μ2 (o + 1) 14 x1) fun v4 => if v4 = p0 then (xbd (xgI μ2 (o + 3) 14 x1) fun v6 => xbd (xgI μ2 (o + 4) 14 x1) fun v7 => xbd (fX0_reckon o v6 v7 p2 μ2) fun q8 => if (lg_cmp q8.1 1) = 0 then (xbd (xgI q8.2 (o + 2) 14 x1) fun v9 => xbd (xgI q8.2 (o + 3) 14 x1) fun v10 => xbd (fX0_reckon o v9 v10 p2 q8.2) fun q11 => if (lg_cmp q11.1 1099511627776) = 0 then (some (.inr (.inr (0, q11.2)))) else (xbd (fX11_held q11.1.toInt32 0 p1) fun q12 => some (.inr (.inr (q12, q11.2))))) else (xlt (x1 + 1) fun x13 => some (.inl (x13, q8.2)))) else (xlt (x1 + 1) fun x5 => some (.inl (x5, μ2)))))
def fX0_amount (o : Nat) (p0 : Int32) (p1 : Int32) (p2 : Nat) (μ : xm) : Option (Int32 × xm) := xbd (xloop xfu (fun v => fX0_amount_b3 v.1 v.2 o p0 p1 p2) (0, μ)) fun q14 => xsm q14 (fun q15 => some (0, q15)) (fun q16 => some q16)
set_option maxHeartbeats 4000000 in
set_option maxRecDepth 100000 in
theorem kX0_amount {E : xE} {d : Nat} {QQ : xP} (hd : 2 ≤ d) {o : Nat} {p0 : Int32} {p1 : Int32} {p2 : Nat} {μ : xm} {R : xr} {n : Nat} (hF : xFin R n) (hI : xIs 0 o n) (hp2 : xIsA 1 p2 n) {res : Int32 × xm} (h : fX0_amount o p0 p1 p2 μ = some res) (hQ : QQ (some (.int res.1)) (xσ res.2 R) n) : xCon E d Y_X0_amount 0 0 [.ref (E.2.2.2 + o), .int p0, .int p1, .ref (E.2.2.2 + p2)] (xσ μ R) n QQ := by
  refine xCon_of pn_RX0 (Nat.le_of_ble_eq_true rfl) (L0 := [(0, .ref (E.2.2.2 + o)), (1, .int p0), (2, .int p1), (3, .ref (E.2.2.2 + p2))]) rfl ?_
  unfold fX0_amount at h
  refine ev_iconst (v := 0) dX0_amount_0 (by decide) ?_
  refine xv_istore (L' := [(4, .int 0), (0, .ref (E.2.2.2 + o)), (1, .int p0), (2, .int p1), (3, .ref (E.2.2.2 + p2))]) rfl dX0_amount_1 (Nat.le_of_ble_eq_true rfl) rfl ?_
  obtain ⟨q14, hq14, h⟩ := xbd_some h
  refine ev_sub (L' := [(0, .ref (E.2.2.2 + o)), (1, .int p0), (2, .int p1), (3, .ref (E.2.2.2 + p2)), (4, .int 0)]) [1, 2, 3, 4, 0] rfl ?_
  refine xloop_run (fun v => Ev E (xcm E d 0 0 QQ) Y_X0_amount 3 [(0, .ref (E.2.2.2 + o)), (1, .int p0), (2, .int p1), (3, .ref (E.2.2.2 + p2)), (4, .int v.1)] [] (xσ v.2 R) n 0 0) (xel (fun v => Ev E (xcm E d 0 0 QQ) Y_X0_amount 106 [] [] (xσ v R) n 0 0) (fun v => QQ (some (.int v.1)) (xσ v.2 R) n)) ?_ _ _ _ hq14 ?_
  · rintro ⟨x1, μ2⟩ y3 h hk
    replace h : fX0_amount_b3 x1 μ2 o p0 p1 p2 = some y3 := h
    show Ev E (xcm E d 0 0 QQ) Y_X0_amount 3 [(0, .ref (E.2.2.2 + o)), (1, .int p0), (2, .int p1), (3, .ref (E.2.2.2 + p2)), (4, .int x1)] [] (xσ μ2 R) n 0 0
    unfold fX0_amount_b3 at h
    refine ev_iload 4 dX0_amount_3 rfl ?_
    refine ev_aload_n 0 dX0_amount_5 rfl rfl ?_
    refine xv_getI cl_0 lk_RX0_31 (xIs0_kd hI) (xIs0_lt hI) (fun _ => rfl) dX0_amount_6 ?_
    refine ev_icmp_ge (tgt := 106) dX0_amount_9 (by decide) (fun c9 => ?_) (fun c9 => ?_)
    · replace h := xif_t c9 h
      cases h
      replace hk := xel_r hk
      replace hk := xel_l hk
      exact ev_sub [] rfl (hk)
    · replace h := xif_f c9 h
      refine ev_iload 4 dX0_amount_12 rfl ?_
      refine ev_bipush (v := 14) dX0_amount_14 (by decide) ?_
      refine ev_icmp_ge (tgt := 106) dX0_amount_16 (by decide) (fun c16 => ?_) (fun c16 => ?_)
      · replace h := xif_t c16 h
        cases h
        replace hk := xel_r hk
        replace hk := xel_l hk
        exact ev_sub [] rfl (hk)
      · replace h := xif_f c16 h
        refine ev_aload_n 0 dX0_amount_19 rfl rfl ?_
        refine xv_getF (a := (o + 1)) cl_0 lk_RX0_9 (xIs0_kd hI) (xIs0_lt hI) (fun _ => rfl) (xIs0_fr0 hF hI) dX0_amount_20 ?_
        refine ev_iload 4 dX0_amount_23 rfl ?_
        obtain ⟨v4, hv4, h⟩ := xbd_some h
        refine xv_iald (xIs0_kd0 hI) (xIs0_lt0 hI) hv4 dX0_amount_25 ?_
        refine ev_iload_n 1 dX0_amount_26 rfl rfl ?_
        refine ev_icmp_ne (tgt := 100) dX0_amount_27 (by decide) (fun c27 => ?_) (fun c27 => ?_)
        · replace h := xif_f c27 h
          obtain ⟨x5, hx5, h⟩ := xlt_some h
          refine ev_iinc (L' := [(4, .int x5), (0, .ref (E.2.2.2 + o)), (1, .int p0), (2, .int p1), (3, .ref (E.2.2.2 + p2))]) 4 dX0_amount_100 rfl ((by rfl : x1 + Int32.ofInt 1 = x1 + 1).trans hx5) (Nat.le_of_ble_eq_true rfl) rfl ?_
          refine ev_goto (tgt := 3) dX0_amount_103 (by decide) ?_
          cases h
          replace hk := xel_l hk
          exact ev_sub [1, 2, 3, 4, 0] rfl (hk)
        · replace h := xif_t c27 h
          refine ev_aload_n 0 dX0_amount_30 rfl rfl ?_
          refine ev_aload_n 0 dX0_amount_31 rfl rfl ?_
          refine xv_getF (a := (o + 3)) cl_0 lk_RX0_18 (xIs0_kd hI) (xIs0_lt hI) (fun _ => rfl) (xIs0_fr2 hF hI) dX0_amount_32 ?_
          refine ev_iload 4 dX0_amount_35 rfl ?_
          obtain ⟨v6, hv6, h⟩ := xbd_some h
          refine xv_iald (xIs0_kd2 hI) (xIs0_lt2 hI) hv6 dX0_amount_37 ?_
          refine ev_aload_n 0 dX0_amount_38 rfl rfl ?_
          refine xv_getF (a := (o + 4)) cl_0 lk_RX0_21 (xIs0_kd hI) (xIs0_lt hI) (fun _ => rfl) (xIs0_fr3 hF hI) dX0_amount_39 ?_
          refine ev_iload 4 dX0_amount_42 rfl ?_
          obtain ⟨v7, hv7, h⟩ := xbd_some h
          refine xv_iald (xIs0_kd3 hI) (xIs0_lt3 hI) hv7 dX0_amount_44 ?_
          refine ev_aload_n 3 dX0_amount_45 rfl rfl ?_
          obtain ⟨q8, hq8, h⟩ := xbd_some h
          refine ev_callV (ci := 0) (rest := []) 3 (kX0_reckon (E := E) (d := 1) (QQ := (fun v τ n' => v = some (.long q8.1) ∧ τ = xσ q8.2 R ∧ n = n')) (Nat.le_refl _) hF hI hp2 hq8 (⟨rfl, rfl, rfl⟩)) my_X0_reckon ⟨m_714, m_716, m_13⟩ cl_0 (xIs0_kd hI) (xIs0_lt hI) rfl rfl (Nat.le_of_ble_eq_true rfl) (Nat.le_trans (by decide) hd) (xlo (by decide) (Nat.le_trans (by decide) hd)) (Nat.zero_le _) (Nat.zero_le _) dX0_amount_46 (fun v τ n' hv => ?_)
          obtain ⟨rfl, rfl, rfl⟩ := hv
          show Ev E (xcm E d 0 0 QQ) Y_X0_amount 49 [(0, .ref (E.2.2.2 + o)), (1, .int p0), (2, .int p1), (3, .ref (E.2.2.2 + p2)), (4, .int x1)] [.long q8.1] (xσ q8.2 R) n 0 0
          refine ev_lconst (v := 1) dX0_amount_49 (by decide) ?_
          refine ev_lcmp dX0_amount_50 ?_
          refine ev_if_eq (tgt := 57) dX0_amount_51 (by decide) (fun c51 => ?_) (fun c51 => ?_)
          · replace h := xif_t c51 h
            refine ev_aload_n 0 dX0_amount_57 rfl rfl ?_
            refine ev_aload_n 0 dX0_amount_58 rfl rfl ?_
            refine xv_getF (a := (o + 2)) cl_0 lk_RX0_15 (xIs0_kd hI) (xIs0_lt hI) (fun _ => rfl) (xIs0_fr1 hF hI) dX0_amount_59 ?_
            refine ev_iload 4 dX0_amount_62 rfl ?_
            obtain ⟨v9, hv9, h⟩ := xbd_some h
            refine xv_iald (xIs0_kd1 hI) (xIs0_lt1 hI) hv9 dX0_amount_64 ?_
            refine ev_aload_n 0 dX0_amount_65 rfl rfl ?_
            refine xv_getF (a := (o + 3)) cl_0 lk_RX0_18 (xIs0_kd hI) (xIs0_lt hI) (fun _ => rfl) (xIs0_fr2 hF hI) dX0_amount_66 ?_
            refine ev_iload 4 dX0_amount_69 rfl ?_
            obtain ⟨v10, hv10, h⟩ := xbd_some h
            refine xv_iald (xIs0_kd2 hI) (xIs0_lt2 hI) hv10 dX0_amount_71 ?_
            refine ev_aload_n 3 dX0_amount_72 rfl rfl ?_
            obtain ⟨q11, hq11, h⟩ := xbd_some h
            refine ev_callV (ci := 0) (rest := []) 3 (kX0_reckon (E := E) (d := 1) (QQ := (fun v τ n' => v = some (.long q11.1) ∧ τ = xσ q11.2 R ∧ n = n')) (Nat.le_refl _) hF hI hp2 hq11 (⟨rfl, rfl, rfl⟩)) my_X0_reckon ⟨m_714, m_716, m_13⟩ cl_0 (xIs0_kd hI) (xIs0_lt hI) rfl rfl (Nat.le_of_ble_eq_true rfl) (Nat.le_trans (by decide) hd) (xlo (by decide) (Nat.le_trans (by decide) hd)) (Nat.zero_le _) (Nat.zero_le _) dX0_amount_73 (fun v τ n' hv => ?_)
            obtain ⟨rfl, rfl, rfl⟩ := hv
            show Ev E (xcm E d 0 0 QQ) Y_X0_amount 76 [(0, .ref (E.2.2.2 + o)), (1, .int p0), (2, .int p1), (3, .ref (E.2.2.2 + p2)), (4, .int x1)] [.long q11.1] (xσ q11.2 R) n 0 0
            refine xv_lstore (L' := [(5, .long q11.1), (0, .ref (E.2.2.2 + o)), (1, .int p0), (2, .int p1), (3, .ref (E.2.2.2 + p2)), (4, .int x1)]) rfl dX0_amount_76 (Nat.le_of_ble_eq_true rfl) rfl ?_
            refine ev_lload 0 dX0_amount_78 rfl ?_
            refine ev_ldc2 (v := 1099511627776) m_726 dX0_amount_80 ?_
            refine ev_lcmp dX0_amount_83 ?_
            refine ev_if_ne (tgt := 91) dX0_amount_84 (by decide) (fun c84 => ?_) (fun c84 => ?_)
            · replace h := xif_f c84 h
              refine ev_lload 0 dX0_amount_91 rfl ?_
              refine ev_l2i dX0_amount_93 ?_
              refine ev_iconst (v := 0) dX0_amount_94 (by decide) ?_
              refine ev_iload_n 3 dX0_amount_95 rfl rfl ?_
              obtain ⟨q12, hq12, h⟩ := xbd_some h
              refine ev_callSN (As := [.int (q11.1.toInt32), .int 0, .int p1]) (rest := []) 3 (kX11_held (E := E) (d := 1) (QQ := (fun v τ n' => v = some (.int q12) ∧ τ = xσ q11.2 R ∧ n = n')) (Nat.le_refl _)  hq12 (⟨rfl, rfl, rfl⟩)) my_X11_held ⟨⟨_, xnm_7⟩, m_528⟩ rfl rfl (Nat.le_of_ble_eq_true rfl) (Nat.le_trans (by decide) hd) (xlo (by decide) (Nat.le_trans (by decide) hd)) (Nat.zero_le _) (Nat.zero_le _) dX0_amount_96 (fun v τ n' hv => ?_)
              obtain ⟨rfl, rfl, rfl⟩ := hv
              show Ev E (xcm E d 0 0 QQ) Y_X0_amount 99 [(5, .long q11.1), (0, .ref (E.2.2.2 + o)), (1, .int p0), (2, .int p1), (3, .ref (E.2.2.2 + p2)), (4, .int x1)] [.int q12] (xσ q11.2 R) n 0 0
              cases h
              replace hk := xel_r hk
              replace hk := xel_r hk
              exact ev_iret rfl (hk) dX0_amount_99 (Nat.zero_le _) (Nat.zero_le _)
            · replace h := xif_t c84 h
              refine ev_iconst (v := 0) dX0_amount_87 (by decide) ?_
              refine ev_goto (tgt := 99) dX0_amount_88 (by decide) ?_
              cases h
              replace hk := xel_r hk
              replace hk := xel_r hk
              exact ev_iret rfl (hk) dX0_amount_99 (Nat.zero_le _) (Nat.zero_le _)
          · replace h := xif_f c51 h
            refine ev_goto (tgt := 100) dX0_amount_54 (by decide) ?_
            obtain ⟨x13, hx13, h⟩ := xlt_some h
            refine ev_iinc (L' := [(4, .int x13), (0, .ref (E.2.2.2 + o)), (1, .int p0), (2, .int p1), (3, .ref (E.2.2.2 + p2))]) 4 dX0_amount_100 rfl ((by rfl : x1 + Int32.ofInt 1 = x1 + 1).trans hx13) (Nat.le_of_ble_eq_true rfl) rfl ?_
            refine ev_goto (tgt := 3) dX0_amount_103 (by decide) ?_
            cases h
            replace hk := xel_l hk
            exact ev_sub [1, 2, 3, 4, 0] rfl (hk)
  · rcases q14 with q15 | q16
    · replace h := xsm_l h
      show Ev E (xcm E d 0 0 QQ) Y_X0_amount 106 [] [] (xσ q15 R) n 0 0
      refine ev_iconst (v := 0) dX0_amount_106 (by decide) ?_
      cases h
      exact ev_iret rfl (hQ) dX0_amount_107 (Nat.zero_le _) (Nat.zero_le _)
    · replace h := xsm_r h
      cases h
      exact hQ
def fX10_costOfComing (p0 : Nat) (p1 : Int32) (p2 : Int32) (p3 : Int32) (μ : xm) : Option (Int64) := xlt ((μ.1 p0 1) - p2) fun x1 => if 0 < x1 then (xbd (fX11_held (p2 / 60) 0 23) fun q2 => xbd (fX5_worthAt p1 q2 μ) fun q3 => some (x1.toInt64 * q3.toInt64)) else (xbd (fX2_many p0 μ) fun q4 => some ((((-x1).toInt64) * ((q4 - 1).toInt64)) * p3.toInt64))
set_option maxHeartbeats 4000000 in
set_option maxRecDepth 100000 in
theorem kX10_costOfComing {E : xE} {d : Nat} {QQ : xP} (hd : 2 ≤ d) {p0 : Nat} {p1 : Int32} {p2 : Int32} {p3 : Int32} {μ : xm} {R : xr} {n : Nat} (hF : xFin R n) (hp0 : xIs 2 p0 n) {res : Int64} (h : fX10_costOfComing p0 p1 p2 p3 μ = some res) (hQ : QQ (some (.long res)) (xσ μ R) n) : xCon E d Y_X10_costOfComing 0 0 [.ref (E.2.2.2 + iC_ways), .ref (E.2.2.2 + p0), .int p1, .int p2, .int p3] (xσ μ R) n QQ := by
  refine xCon_of pn_RX10 (Nat.le_of_ble_eq_true rfl) (L0 := [(0, .ref (E.2.2.2 + iC_ways)), (1, .ref (E.2.2.2 + p0)), (2, .int p1), (3, .int p2), (4, .int p3)]) rfl ?_
  unfold fX10_costOfComing at h
  refine ev_aload_n 1 dX10_costOfComing_0 rfl rfl ?_
  refine xv_getIN cl_2 ln_RX10_93 (xIs2_kd hp0) (xIs2_lt hp0) (fun _ => rfl) dX10_costOfComing_1 ?_
  refine ev_iload_n 3 dX10_costOfComing_4 rfl rfl ?_
  refine ev_isub dX10_costOfComing_5 ?_
  obtain ⟨x1, hx1, h⟩ := xlt_some h
  refine xv_istore (L' := [(5, .int x1), (0, .ref (E.2.2.2 + iC_ways)), (1, .ref (E.2.2.2 + p0)), (2, .int p1), (3, .int p2), (4, .int p3)]) hx1 dX10_costOfComing_6 (Nat.le_of_ble_eq_true rfl) rfl ?_
  refine ev_iload 0 dX10_costOfComing_8 rfl ?_
  refine ev_if_gt (tgt := 30) dX10_costOfComing_10 (by decide) (fun c10 => ?_) (fun c10 => ?_)
  · replace h := xif_t c10 h
    refine ev_iload 0 dX10_costOfComing_30 rfl ?_
    refine ev_i2l dX10_costOfComing_32 ?_
    refine ev_aload_n 1 dX10_costOfComing_33 rfl rfl ?_
    refine xv_getF (a := iC_people) cl_10 lk_RX10_39 kd_42 (xl hF rfl) (fun _ => rfl) (fr_42_0 hF) dX10_costOfComing_34 ?_
    refine ev_iload_n 3 dX10_costOfComing_37 rfl rfl ?_
    refine ev_iload_n 4 dX10_costOfComing_38 rfl rfl ?_
    refine ev_bipush (v := 60) dX10_costOfComing_39 (by decide) ?_
    refine ev_idiv dX10_costOfComing_41 (by decide) ?_
    refine ev_iconst (v := 0) dX10_costOfComing_42 (by decide) ?_
    refine ev_bipush (v := 23) dX10_costOfComing_43 (by decide) ?_
    obtain ⟨q2, hq2, h⟩ := xbd_some h
    refine ev_callSN (As := [.int (p2 / 60), .int 0, .int 23]) (rest := [.int p1, .ref (E.2.2.2 + iC_people), .long (x1.toInt64)]) 3 (kX11_held (E := E) (d := 1) (QQ := (fun v τ n' => v = some (.int q2) ∧ τ = xσ μ R ∧ n = n')) (Nat.le_refl _)  hq2 (⟨rfl, rfl, rfl⟩)) my_X11_held ⟨⟨_, xnm_12⟩, m_528⟩ rfl rfl (Nat.le_of_ble_eq_true rfl) (Nat.le_trans (by decide) hd) (xlo (by decide) (Nat.le_trans (by decide) hd)) (Nat.zero_le _) (Nat.zero_le _) dX10_costOfComing_45 (fun v τ n' hv => ?_)
    obtain ⟨rfl, rfl, rfl⟩ := hv
    show Ev E (xcm E d 0 0 QQ) Y_X10_costOfComing 48 [(5, .int x1), (0, .ref (E.2.2.2 + iC_ways)), (1, .ref (E.2.2.2 + p0)), (2, .int p1), (3, .int p2), (4, .int p3)] [.int q2, .int p1, .ref (E.2.2.2 + iC_people), .long (x1.toInt64)] (xσ μ R) n 0 0
    obtain ⟨q3, hq3, h⟩ := xbd_some h
    refine ev_callV (ci := 5) (rest := [.long (x1.toInt64)]) 2 (kX5_worthAt (E := E) (d := 1) (QQ := (fun v τ n' => v = some (.int q3) ∧ τ = xσ μ R ∧ n = n')) (Nat.le_refl _) hF hq3 (⟨rfl, rfl, rfl⟩)) my_X5_worthAt ⟨m_1064, m_699, m_700⟩ cl_5 kd_19 (xl hF rfl) rfl rfl (Nat.le_of_ble_eq_true rfl) (Nat.le_trans (by decide) hd) (xlo (by decide) (Nat.le_trans (by decide) hd)) (Nat.zero_le _) (Nat.zero_le _) dX10_costOfComing_48 (fun v τ n' hv => ?_)
    obtain ⟨rfl, rfl, rfl⟩ := hv
    show Ev E (xcm E d 0 0 QQ) Y_X10_costOfComing 51 [(5, .int x1), (0, .ref (E.2.2.2 + iC_ways)), (1, .ref (E.2.2.2 + p0)), (2, .int p1), (3, .int p2), (4, .int p3)] [.int q3, .long (x1.toInt64)] (xσ μ R) n 0 0
    refine ev_i2l dX10_costOfComing_51 ?_
    refine ev_lmul dX10_costOfComing_52 ?_
    cases h
    exact ev_lret rfl (hQ) dX10_costOfComing_53 (Nat.zero_le _) (Nat.zero_le _)
  · replace h := xif_f c10 h
    refine ev_iload 0 dX10_costOfComing_13 rfl ?_
    refine ev_ineg dX10_costOfComing_15 ?_
    refine ev_i2l dX10_costOfComing_16 ?_
    refine ev_aload_n 2 dX10_costOfComing_17 rfl rfl ?_
    obtain ⟨q4, hq4, h⟩ := xbd_some h
    refine ev_callV (ci := 2) (rest := [.long ((-x1).toInt64)]) 0 (kX2_many (E := E) (d := 1) (QQ := (fun v τ n' => v = some (.int q4) ∧ τ = xσ μ R ∧ n = n')) (Nat.le_refl _) hF hp0 hq4 (⟨rfl, rfl, rfl⟩)) my_X2_many ⟨m_1062, m_685, m_686⟩ cl_2 (xIs2_kd hp0) (xIs2_lt hp0) rfl rfl (Nat.le_of_ble_eq_true rfl) (Nat.le_trans (by decide) hd) (xlo (by decide) (Nat.le_trans (by decide) hd)) (Nat.zero_le _) (Nat.zero_le _) dX10_costOfComing_18 (fun v τ n' hv => ?_)
    obtain ⟨rfl, rfl, rfl⟩ := hv
    show Ev E (xcm E d 0 0 QQ) Y_X10_costOfComing 21 [(5, .int x1), (0, .ref (E.2.2.2 + iC_ways)), (1, .ref (E.2.2.2 + p0)), (2, .int p1), (3, .int p2), (4, .int p3)] [.int q4, .long ((-x1).toInt64)] (xσ μ R) n 0 0
    refine ev_iconst (v := 1) dX10_costOfComing_21 (by decide) ?_
    refine ev_isub dX10_costOfComing_22 ?_
    refine ev_i2l dX10_costOfComing_23 ?_
    refine ev_lmul dX10_costOfComing_24 ?_
    refine ev_iload 5 dX10_costOfComing_25 rfl ?_
    refine ev_i2l dX10_costOfComing_27 ?_
    refine ev_lmul dX10_costOfComing_28 ?_
    cases h
    exact ev_lret rfl (hQ) dX10_costOfComing_29 (Nat.zero_le _) (Nat.zero_le _)
def fX10_drawEnd_b24 (x6 : Int32) (x7 : Int32) (p0 : Int32) (q1 : (Int32 × xm)) (x5 : Int32) : Option ((Int32 × Int32) ⊕ ((Unit) ⊕ (Int32 × xm))) := if x5 ≤ x7 then (some (.inr (.inl ()))) else (xbd (fX10_weightOf p0 x7 q1.2) fun q9 => xlt (x6 - q9) fun x10 => if 0 ≤ x10 then (xlt (x7 + 1) fun x11 => some (.inl (x10, x11))) else (some (.inr (.inr (x7, q1.2)))))
def fX10_drawEnd (p0 : Int32) (μ : xm) : Option (Int32 × xm) := xbd (fX10_drawNext μ) fun q1 => xbd (fX10_weightsOf p0 q1.2) fun q2 => xbd (fX11_leftOver q1.1 q2) fun q3 => xbd (fX10_endsOf p0 q1.2) fun q4 => xlt (q4 - 1) fun x5 => xbd (xloop xfu (fun v => fX10_drawEnd_b24 v.1 v.2 p0 q1 x5) (q3, 0)) fun q12 => xsm q12 (fun q13 => some (x5, q1.2)) (fun q14 => some q14)
set_option maxHeartbeats 4000000 in
set_option maxRecDepth 100000 in
theorem kX10_drawEnd {E : xE} {d : Nat} {QQ : xP} (hd : 2 ≤ d) {p0 : Int32} {μ : xm} {R : xr} {n : Nat} (hF : xFin R n)  {res : Int32 × xm} (h : fX10_drawEnd p0 μ = some res) (hQ : QQ (some (.int res.1)) (xσ res.2 R) n) : xCon E d Y_X10_drawEnd 0 0 [.ref (E.2.2.2 + iC_ways), .int p0] (xσ μ R) n QQ := by
  refine xCon_of pn_RX10 (Nat.le_of_ble_eq_true rfl) (L0 := [(0, .ref (E.2.2.2 + iC_ways)), (1, .int p0)]) rfl ?_
  unfold fX10_drawEnd at h
  refine ev_aload_n 0 dX10_drawEnd_0 rfl rfl ?_
  obtain ⟨q1, hq1, h⟩ := xbd_some h
  refine ev_callV (ci := 10) (rest := []) 0 (kX10_drawNext (E := E) (d := 0) (QQ := (fun v τ n' => v = some (.int q1.1) ∧ τ = xσ q1.2 R ∧ n = n')) (Nat.le_refl _) hF hq1 (⟨rfl, rfl, rfl⟩)) my_X10_drawNext ⟨m_1191, m_1193, m_38⟩ cl_10 kd_42 (xl hF rfl) rfl rfl (Nat.le_of_ble_eq_true rfl) (Nat.le_trans (by decide) hd) (xlo (by decide) (Nat.le_trans (by decide) hd)) (Nat.zero_le _) (Nat.zero_le _) dX10_drawEnd_1 (fun v τ n' hv => ?_)
  obtain ⟨rfl, rfl, rfl⟩ := hv
  show Ev E (xcm E d 0 0 QQ) Y_X10_drawEnd 4 [(0, .ref (E.2.2.2 + iC_ways)), (1, .int p0)] [.int q1.1] (xσ q1.2 R) n 0 0
  refine ev_aload_n 0 dX10_drawEnd_4 rfl rfl ?_
  refine ev_iload_n 1 dX10_drawEnd_5 rfl rfl ?_
  obtain ⟨q2, hq2, h⟩ := xbd_some h
  refine ev_callV (ci := 10) (rest := [.int q1.1]) 1 (kX10_weightsOf (E := E) (d := 1) (QQ := (fun v τ n' => v = some (.int q2) ∧ τ = xσ q1.2 R ∧ n = n')) (Nat.le_refl _) hF hq2 (⟨rfl, rfl, rfl⟩)) my_X10_weightsOf ⟨m_1045, m_1018, m_1019⟩ cl_10 kd_42 (xl hF rfl) rfl rfl (Nat.le_of_ble_eq_true rfl) (Nat.le_trans (by decide) hd) (xlo (by decide) (Nat.le_trans (by decide) hd)) (Nat.zero_le _) (Nat.zero_le _) dX10_drawEnd_6 (fun v τ n' hv => ?_)
  obtain ⟨rfl, rfl, rfl⟩ := hv
  show Ev E (xcm E d 0 0 QQ) Y_X10_drawEnd 9 [(0, .ref (E.2.2.2 + iC_ways)), (1, .int p0)] [.int q2, .int q1.1] (xσ q1.2 R) n 0 0
  obtain ⟨q3, hq3, h⟩ := xbd_some h
  refine ev_callSN (As := [.int q1.1, .int q2]) (rest := []) 2 (kX11_leftOver (E := E) (d := 0) (QQ := (fun v τ n' => v = some (.int q3) ∧ τ = xσ q1.2 R ∧ n = n')) (Nat.le_refl _)  hq3 (⟨rfl, rfl, rfl⟩)) my_X11_leftOver ⟨⟨_, xnm_13⟩, m_1025⟩ rfl rfl (Nat.le_of_ble_eq_true rfl) (Nat.le_trans (by decide) hd) (xlo (by decide) (Nat.le_trans (by decide) hd)) (Nat.zero_le _) (Nat.zero_le _) dX10_drawEnd_9 (fun v τ n' hv => ?_)
  obtain ⟨rfl, rfl, rfl⟩ := hv
  show Ev E (xcm E d 0 0 QQ) Y_X10_drawEnd 12 [(0, .ref (E.2.2.2 + iC_ways)), (1, .int p0)] [.int q3] (xσ q1.2 R) n 0 0
  refine xv_istore_n (L' := [(2, .int q3), (0, .ref (E.2.2.2 + iC_ways)), (1, .int p0)]) rfl dX10_drawEnd_12 rfl (Nat.le_of_ble_eq_true rfl) rfl ?_
  refine ev_aload_n 1 dX10_drawEnd_13 rfl rfl ?_
  refine ev_iload_n 2 dX10_drawEnd_14 rfl rfl ?_
  obtain ⟨q4, hq4, h⟩ := xbd_some h
  refine ev_callV (ci := 10) (rest := []) 1 (kX10_endsOf (E := E) (d := 1) (QQ := (fun v τ n' => v = some (.int q4) ∧ τ = xσ q1.2 R ∧ n = n')) (Nat.le_refl _) hF hq4 (⟨rfl, rfl, rfl⟩)) my_X10_endsOf ⟨m_999, m_1000, m_1001⟩ cl_10 kd_42 (xl hF rfl) rfl rfl (Nat.le_of_ble_eq_true rfl) (Nat.le_trans (by decide) hd) (xlo (by decide) (Nat.le_trans (by decide) hd)) (Nat.zero_le _) (Nat.zero_le _) dX10_drawEnd_15 (fun v τ n' hv => ?_)
  obtain ⟨rfl, rfl, rfl⟩ := hv
  show Ev E (xcm E d 0 0 QQ) Y_X10_drawEnd 18 [(2, .int q3), (0, .ref (E.2.2.2 + iC_ways)), (1, .int p0)] [.int q4] (xσ q1.2 R) n 0 0
  refine ev_iconst (v := 1) dX10_drawEnd_18 (by decide) ?_
  refine ev_isub dX10_drawEnd_19 ?_
  obtain ⟨x5, hx5, h⟩ := xlt_some h
  refine xv_istore_n (L' := [(3, .int x5), (2, .int q3), (0, .ref (E.2.2.2 + iC_ways)), (1, .int p0)]) hx5 dX10_drawEnd_20 rfl (Nat.le_of_ble_eq_true rfl) rfl ?_
  refine ev_iconst (v := 0) dX10_drawEnd_21 (by decide) ?_
  refine xv_istore (L' := [(4, .int 0), (3, .int x5), (2, .int q3), (0, .ref (E.2.2.2 + iC_ways)), (1, .int p0)]) rfl dX10_drawEnd_22 (Nat.le_of_ble_eq_true rfl) rfl ?_
  obtain ⟨q12, hq12, h⟩ := xbd_some h
  refine ev_sub (L' := [(0, .ref (E.2.2.2 + iC_ways)), (1, .int p0), (2, .int q3), (3, .int x5), (4, .int 0)]) [3, 4, 2, 1, 0] rfl ?_
  refine xloop_run (fun v => Ev E (xcm E d 0 0 QQ) Y_X10_drawEnd 24 [(0, .ref (E.2.2.2 + iC_ways)), (1, .int p0), (2, .int v.1), (3, .int x5), (4, .int v.2)] [] (xσ q1.2 R) n 0 0) (xel (fun v => Ev E (xcm E d 0 0 QQ) Y_X10_drawEnd 53 [(3, .int x5)] [] (xσ q1.2 R) n 0 0) (fun v => QQ (some (.int v.1)) (xσ v.2 R) n)) ?_ _ _ _ hq12 ?_
  · rintro ⟨x6, x7⟩ y8 h hk
    replace h : fX10_drawEnd_b24 x6 x7 p0 q1 x5 = some y8 := h
    show Ev E (xcm E d 0 0 QQ) Y_X10_drawEnd 24 [(0, .ref (E.2.2.2 + iC_ways)), (1, .int p0), (2, .int x6), (3, .int x5), (4, .int x7)] [] (xσ q1.2 R) n 0 0
    unfold fX10_drawEnd_b24 at h
    refine ev_iload 4 dX10_drawEnd_24 rfl ?_
    refine ev_iload_n 3 dX10_drawEnd_26 rfl rfl ?_
    refine ev_icmp_ge (tgt := 53) dX10_drawEnd_27 (by decide) (fun c27 => ?_) (fun c27 => ?_)
    · replace h := xif_t c27 h
      cases h
      replace hk := xel_r hk
      replace hk := xel_l hk
      exact ev_sub [3] rfl (hk)
    · replace h := xif_f c27 h
      refine ev_iload_n 2 dX10_drawEnd_30 rfl rfl ?_
      refine ev_aload_n 0 dX10_drawEnd_31 rfl rfl ?_
      refine ev_iload_n 1 dX10_drawEnd_32 rfl rfl ?_
      refine ev_iload 4 dX10_drawEnd_33 rfl ?_
      obtain ⟨q9, hq9, h⟩ := xbd_some h
      refine ev_callV (ci := 10) (rest := [.int x6]) 2 (kX10_weightOf (E := E) (d := 1) (QQ := (fun v τ n' => v = some (.int q9) ∧ τ = xσ q1.2 R ∧ n = n')) (Nat.le_refl _) hF hq9 (⟨rfl, rfl, rfl⟩)) my_X10_weightOf ⟨m_1009, m_1010, m_1011⟩ cl_10 kd_42 (xl hF rfl) rfl rfl (Nat.le_of_ble_eq_true rfl) (Nat.le_trans (by decide) hd) (xlo (by decide) (Nat.le_trans (by decide) hd)) (Nat.zero_le _) (Nat.zero_le _) dX10_drawEnd_35 (fun v τ n' hv => ?_)
      obtain ⟨rfl, rfl, rfl⟩ := hv
      show Ev E (xcm E d 0 0 QQ) Y_X10_drawEnd 38 [(0, .ref (E.2.2.2 + iC_ways)), (1, .int p0), (2, .int x6), (3, .int x5), (4, .int x7)] [.int q9, .int x6] (xσ q1.2 R) n 0 0
      refine ev_isub dX10_drawEnd_38 ?_
      obtain ⟨x10, hx10, h⟩ := xlt_some h
      refine xv_istore_n (L' := [(2, .int x10), (0, .ref (E.2.2.2 + iC_ways)), (1, .int p0), (3, .int x5), (4, .int x7)]) hx10 dX10_drawEnd_39 rfl (Nat.le_of_ble_eq_true rfl) rfl ?_
      refine ev_iload_n 0 dX10_drawEnd_40 rfl rfl ?_
      refine ev_if_ge (tgt := 47) dX10_drawEnd_41 (by decide) (fun c41 => ?_) (fun c41 => ?_)
      · replace h := xif_t c41 h
        obtain ⟨x11, hx11, h⟩ := xlt_some h
        refine ev_iinc (L' := [(4, .int x11), (2, .int x10), (0, .ref (E.2.2.2 + iC_ways)), (1, .int p0), (3, .int x5)]) 4 dX10_drawEnd_47 rfl ((by rfl : x7 + Int32.ofInt 1 = x7 + 1).trans hx11) (Nat.le_of_ble_eq_true rfl) rfl ?_
        refine ev_goto (tgt := 24) dX10_drawEnd_50 (by decide) ?_
        cases h
        replace hk := xel_l hk
        exact ev_sub [2, 3, 1, 4, 0] rfl (hk)
      · replace h := xif_f c41 h
        refine ev_iload 4 dX10_drawEnd_44 rfl ?_
        cases h
        replace hk := xel_r hk
        replace hk := xel_r hk
        exact ev_iret rfl (hk) dX10_drawEnd_46 (Nat.zero_le _) (Nat.zero_le _)
  · rcases q12 with q13 | q14
    · replace h := xsm_l h
      show Ev E (xcm E d 0 0 QQ) Y_X10_drawEnd 53 [(3, .int x5)] [] (xσ q1.2 R) n 0 0
      refine ev_iload_n 0 dX10_drawEnd_53 rfl rfl ?_
      cases h
      exact ev_iret rfl (hQ) dX10_drawEnd_54 (Nat.zero_le _) (Nat.zero_le _)
    · replace h := xsm_r h
      cases h
      exact hQ
