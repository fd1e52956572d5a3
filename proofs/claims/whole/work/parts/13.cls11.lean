def fX11_hang (p0 : Int32) (p1 : Int32) (p2 : Int32) (μ : xm) : Option (Int64 × xm) := xbd (fX11_within p0 1 255) fun q1 => if q1 = 0 then (some ((-1), μ)) else (xbd (fX11_within p1 0 600) fun q2 => if q2 = 0 then (some ((-1), μ)) else (xbd (fJ6_bitCount_0f7a4 p0) fun q3 => xbd (fX11_within p2 0 q3) fun q4 => if q4 = 0 then (some ((-1), μ)) else (xbd (fX10_lateTogether p0 p1 p2 μ) fun q5 => some (q5.1, q5.2))))
set_option maxHeartbeats 4000000 in
set_option maxRecDepth 100000 in
theorem kX11_hang {E : xE} {d : Nat} {QQ : xP} (hd : 5 ≤ d) {p0 : Int32} {p1 : Int32} {p2 : Int32} {μ : xm} {R : xr} {n : Nat} (hF : xFin R n)  {res : Int64 × xm} (h : fX11_hang p0 p1 p2 μ = some res) (hQ : QQ (some (.long res.1)) (xσ res.2 R) n) : xCon E d Y_X11_hang 0 0 [.ref (E.2.2.2 + iC), .int p0, .int p1, .int p2] (xσ μ R) n QQ := by
  refine xCon_of pn_RX11 (Nat.le_of_ble_eq_true rfl) (L0 := [(0, .ref (E.2.2.2 + iC)), (1, .int p0), (2, .int p1), (3, .int p2)]) rfl ?_
  unfold fX11_hang at h
  refine ev_iload_n 1 dX11_hang_0 rfl rfl ?_
  refine ev_iconst (v := 1) dX11_hang_1 (by decide) ?_
  refine ev_sipush (v := 255) dX11_hang_2 (by decide) ?_
  obtain ⟨q1, hq1, h⟩ := xbd_some h
  refine ev_callS (As := [.int p0, .int 1, .int 255]) (rest := []) 3 (kX11_within (E := E) (d := 0) (QQ := (fun v τ n' => v = some (.int q1) ∧ τ = xσ μ R ∧ n = n')) (Nat.le_refl _)  hq1 (⟨rfl, rfl, rfl⟩)) my_X11_within ⟨m_424, m_425⟩ rfl rfl (Nat.le_of_ble_eq_true rfl) (Nat.le_trans (by decide) hd) (xlo (by decide) (Nat.le_trans (by decide) hd)) (Nat.zero_le _) (Nat.zero_le _) dX11_hang_5 (fun v τ n' hv => ?_)
  obtain ⟨rfl, rfl, rfl⟩ := hv
  show Ev E (xcm E d 0 0 QQ) Y_X11_hang 8 [(0, .ref (E.2.2.2 + iC)), (1, .int p0), (2, .int p1), (3, .int p2)] [.int q1] (xσ μ R) n 0 0
  refine ev_if_eq (tgt := 22) dX11_hang_8 (by decide) (fun c8 => ?_) (fun c8 => ?_)
  · replace h := xif_t c8 h
    refine ev_ldc2 (v := (-1)) m_875 dX11_hang_22 ?_
    cases h
    exact ev_lret rfl (hQ) dX11_hang_25 (Nat.zero_le _) (Nat.zero_le _)
  · replace h := xif_f c8 h
    refine ev_iload_n 2 dX11_hang_11 rfl rfl ?_
    refine ev_iconst (v := 0) dX11_hang_12 (by decide) ?_
    refine ev_sipush (v := 600) dX11_hang_13 (by decide) ?_
    obtain ⟨q2, hq2, h⟩ := xbd_some h
    refine ev_callS (As := [.int p1, .int 0, .int 600]) (rest := []) 3 (kX11_within (E := E) (d := 0) (QQ := (fun v τ n' => v = some (.int q2) ∧ τ = xσ μ R ∧ n = n')) (Nat.le_refl _)  hq2 (⟨rfl, rfl, rfl⟩)) my_X11_within ⟨m_424, m_425⟩ rfl rfl (Nat.le_of_ble_eq_true rfl) (Nat.le_trans (by decide) hd) (xlo (by decide) (Nat.le_trans (by decide) hd)) (Nat.zero_le _) (Nat.zero_le _) dX11_hang_16 (fun v τ n' hv => ?_)
    obtain ⟨rfl, rfl, rfl⟩ := hv
    show Ev E (xcm E d 0 0 QQ) Y_X11_hang 19 [(0, .ref (E.2.2.2 + iC)), (1, .int p0), (2, .int p1), (3, .int p2)] [.int q2] (xσ μ R) n 0 0
    refine ev_if_ne (tgt := 26) dX11_hang_19 (by decide) (fun c19 => ?_) (fun c19 => ?_)
    · replace h := xif_f c19 h
      refine ev_iload_n 3 dX11_hang_26 rfl rfl ?_
      refine ev_iconst (v := 0) dX11_hang_27 (by decide) ?_
      refine ev_iload_n 1 dX11_hang_28 rfl rfl ?_
      obtain ⟨q3, hq3, h⟩ := xbd_some h
      refine ev_callS (As := [.int p0]) (rest := [.int 0, .int p2]) 1 (kJ6_bitCount_0f7a4 (E := E) (d := 0) (QQ := (fun v τ n' => v = some (.int q3) ∧ τ = xσ μ R ∧ n = n')) (Nat.le_refl _)  hq3 (⟨rfl, rfl, rfl⟩)) my_J6_bitCount_0f7a4 ⟨m_449, m_450⟩ rfl rfl (Nat.le_of_ble_eq_true rfl) (Nat.le_trans (by decide) hd) (xlo (by decide) (Nat.le_trans (by decide) hd)) (Nat.zero_le _) (Nat.zero_le _) dX11_hang_29 (fun v τ n' hv => ?_)
      obtain ⟨rfl, rfl, rfl⟩ := hv
      show Ev E (xcm E d 0 0 QQ) Y_X11_hang 32 [(0, .ref (E.2.2.2 + iC)), (1, .int p0), (2, .int p1), (3, .int p2)] [.int q3, .int 0, .int p2] (xσ μ R) n 0 0
      obtain ⟨q4, hq4, h⟩ := xbd_some h
      refine ev_callS (As := [.int p2, .int 0, .int q3]) (rest := []) 3 (kX11_within (E := E) (d := 0) (QQ := (fun v τ n' => v = some (.int q4) ∧ τ = xσ μ R ∧ n = n')) (Nat.le_refl _)  hq4 (⟨rfl, rfl, rfl⟩)) my_X11_within ⟨m_424, m_425⟩ rfl rfl (Nat.le_of_ble_eq_true rfl) (Nat.le_trans (by decide) hd) (xlo (by decide) (Nat.le_trans (by decide) hd)) (Nat.zero_le _) (Nat.zero_le _) dX11_hang_32 (fun v τ n' hv => ?_)
      obtain ⟨rfl, rfl, rfl⟩ := hv
      show Ev E (xcm E d 0 0 QQ) Y_X11_hang 35 [(0, .ref (E.2.2.2 + iC)), (1, .int p0), (2, .int p1), (3, .int p2)] [.int q4] (xσ μ R) n 0 0
      refine ev_if_ne (tgt := 42) dX11_hang_35 (by decide) (fun c35 => ?_) (fun c35 => ?_)
      · replace h := xif_f c35 h
        refine ev_aload_n 0 dX11_hang_42 rfl rfl ?_
        refine xv_getF (a := iC_ways) cl_11 lk_RX11_56 kd_0 (xl hF rfl) (fun _ => rfl) (fr_0_6 hF) dX11_hang_43 ?_
        refine ev_iload_n 1 dX11_hang_46 rfl rfl ?_
        refine ev_iload_n 2 dX11_hang_47 rfl rfl ?_
        refine ev_iload_n 3 dX11_hang_48 rfl rfl ?_
        obtain ⟨q5, hq5, h⟩ := xbd_some h
        refine ev_callV (ci := 10) (rest := []) 3 (kX10_lateTogether (E := E) (d := 4) (QQ := (fun v τ n' => v = some (.long q5.1) ∧ τ = xσ q5.2 R ∧ n = n')) (Nat.le_refl _) hF hq5 (⟨rfl, rfl, rfl⟩)) my_X10_lateTogether ⟨m_1034, m_1035, m_1036⟩ cl_10 kd_42 (xl hF rfl) rfl rfl (Nat.le_of_ble_eq_true rfl) (Nat.le_trans (by decide) hd) (xlo (by decide) (Nat.le_trans (by decide) hd)) (Nat.zero_le _) (Nat.zero_le _) dX11_hang_49 (fun v τ n' hv => ?_)
        obtain ⟨rfl, rfl, rfl⟩ := hv
        show Ev E (xcm E d 0 0 QQ) Y_X11_hang 52 [(0, .ref (E.2.2.2 + iC)), (1, .int p0), (2, .int p1), (3, .int p2)] [.long q5.1] (xσ q5.2 R) n 0 0
        cases h
        exact ev_lret rfl (hQ) dX11_hang_52 (Nat.zero_le _) (Nat.zero_le _)
      · replace h := xif_t c35 h
        refine ev_ldc2 (v := (-1)) m_875 dX11_hang_38 ?_
        cases h
        exact ev_lret rfl (hQ) dX11_hang_41 (Nat.zero_le _) (Nat.zero_le _)
    · replace h := xif_t c19 h
      refine ev_ldc2 (v := (-1)) m_875 dX11_hang_22 ?_
      cases h
      exact ev_lret rfl (hQ) dX11_hang_25 (Nat.zero_le _) (Nat.zero_le _)
def fX11_out_b56 (x6 : Int32) (x7 : Int64) (x8 : Int32) (p1 : Int32) (p2 : Int32) (μ : xm) (a2 : Nat) : Option ((Int32 × Int64 × Int32) ⊕ (Int32)) := if 600 < x8 then (some (.inr x6)) else (xbd (fX10_costOfOne a2 p1 x8 p2 μ) fun q10 => if 0 ≤ (lg_cmp q10 x7) then (xlt (x8 + 1) fun x11 => some (.inl (x6, x7, x11))) else (xlt (x8 + 1) fun x12 => some (.inl (x8, q10, x12))))
def fX11_out (p0 : Int32) (p1 : Int32) (p2 : Int32) (μ : xm) (R : xr) : Option (Int32) := xbd (fX3_find p0 μ R) fun q1 => xop q1 (some (-1)) (fun a2 => xbd (fX2_includes a2 p1 μ) fun q3 => if q3 = 0 then (some (-1)) else (xbd (fX11_within p2 0 99) fun q4 => if q4 = 0 then (some (-1)) else (xbd (fX10_costOfOne a2 p1 0 p2 μ) fun q5 => xbd (xloop xfu (fun v => fX11_out_b56 v.1 v.2.1 v.2.2 p1 p2 μ a2) (0, q5, 1)) fun q13 => some q13)))
set_option maxHeartbeats 4000000 in
set_option maxRecDepth 100000 in
theorem kX11_out {E : xE} {d : Nat} {QQ : xP} (hd : 5 ≤ d) {p0 : Int32} {p1 : Int32} {p2 : Int32} {μ : xm} {R : xr} {n : Nat} (hF : xFin R n)  {res : Int32} (h : fX11_out p0 p1 p2 μ R = some res) (hQ : QQ (some (.int res)) (xσ μ R) n) : xCon E d Y_X11_out 0 0 [.ref (E.2.2.2 + iC), .int p0, .int p1, .int p2] (xσ μ R) n QQ := by
  refine xCon_of pn_RX11 (Nat.le_of_ble_eq_true rfl) (L0 := [(0, .ref (E.2.2.2 + iC)), (1, .int p0), (2, .int p1), (3, .int p2)]) rfl ?_
  unfold fX11_out at h
  refine ev_aload_n 0 dX11_out_0 rfl rfl ?_
  refine xv_getF (a := iC_meetings) cl_11 lk_RX11_35 kd_0 (xl hF rfl) (fun _ => rfl) (fr_0_3 hF) dX11_out_1 ?_
  refine ev_iload_n 1 dX11_out_4 rfl rfl ?_
  obtain ⟨q1, hq1, h⟩ := xbd_some h
  refine ev_callV (ci := 3) (rest := []) 1 (kX3_find (E := E) (d := 0) (QQ := (fun v τ n' => v = some (xrf E.2.2.2 q1) ∧ τ = xσ μ R ∧ n = n' ∧ (∀ a, q1 = some a → xIs 2 a n))) (Nat.le_refl _) hF hq1 (fun z0 => ⟨rfl, rfl, rfl, z0⟩)) my_X3_find ⟨m_491, m_492, m_493⟩ cl_3 kd_23 (xl hF rfl) rfl rfl (Nat.le_of_ble_eq_true rfl) (Nat.le_trans (by decide) hd) (xlo (by decide) (Nat.le_trans (by decide) hd)) (Nat.zero_le _) (Nat.zero_le _) dX11_out_5 (fun v τ n' hv => ?_)
  obtain ⟨rfl, rfl, rfl, hvq1⟩ := hv
  show Ev E (xcm E d 0 0 QQ) Y_X11_out 8 [(0, .ref (E.2.2.2 + iC)), (1, .int p0), (2, .int p1), (3, .int p2)] [xrf E.2.2.2 q1] (xσ μ R) n 0 0
  refine xv_astore (r := q1) (L' := [(4, xrf E.2.2.2 q1), (0, .ref (E.2.2.2 + iC)), (1, .int p0), (2, .int p1), (3, .int p2)]) dX11_out_8 (Nat.le_of_ble_eq_true rfl) rfl ?_
  refine xv_aload (r := q1) 0 dX11_out_10 rfl ?_
  refine ev_ifnull (r := q1) (tgt := 34) dX11_out_12 (by decide) (fun hr => ?_) (fun a2 hr => ?_)
  · subst hr
    replace h := xop_n h
    refine ev_iconst (v := (-1)) dX11_out_34 (by decide) ?_
    cases h
    exact ev_iret rfl (hQ) dX11_out_35 (Nat.zero_le _) (Nat.zero_le _)
  · subst hr
    replace h := xop_s h
    have ha2 := hvq1 a2 rfl
    refine ev_aload 0 dX11_out_15 rfl ?_
    refine ev_iload_n 3 dX11_out_17 rfl rfl ?_
    obtain ⟨q3, hq3, h⟩ := xbd_some h
    refine ev_callV (ci := 2) (rest := []) 1 (kX2_includes (E := E) (d := 0) (QQ := (fun v τ n' => v = some (.int q3) ∧ τ = xσ μ R ∧ n = n')) (Nat.le_refl _) hF ha2 hq3 (⟨rfl, rfl, rfl⟩)) my_X2_includes ⟨m_499, m_500, m_501⟩ cl_2 (xIs2_kd ha2) (xIs2_lt ha2) rfl rfl (Nat.le_of_ble_eq_true rfl) (Nat.le_trans (by decide) hd) (xlo (by decide) (Nat.le_trans (by decide) hd)) (Nat.zero_le _) (Nat.zero_le _) dX11_out_18 (fun v τ n' hv => ?_)
    obtain ⟨rfl, rfl, rfl⟩ := hv
    show Ev E (xcm E d 0 0 QQ) Y_X11_out 21 [(4, .ref (E.2.2.2 + a2)), (0, .ref (E.2.2.2 + iC)), (1, .int p0), (2, .int p1), (3, .int p2)] [.int q3] (xσ μ R) n 0 0
    refine ev_if_eq (tgt := 34) dX11_out_21 (by decide) (fun c21 => ?_) (fun c21 => ?_)
    · replace h := xif_t c21 h
      refine ev_iconst (v := (-1)) dX11_out_34 (by decide) ?_
      cases h
      exact ev_iret rfl (hQ) dX11_out_35 (Nat.zero_le _) (Nat.zero_le _)
    · replace h := xif_f c21 h
      refine ev_iload_n 4 dX11_out_24 rfl rfl ?_
      refine ev_iconst (v := 0) dX11_out_25 (by decide) ?_
      refine ev_bipush (v := 99) dX11_out_26 (by decide) ?_
      obtain ⟨q4, hq4, h⟩ := xbd_some h
      refine ev_callS (As := [.int p2, .int 0, .int 99]) (rest := []) 3 (kX11_within (E := E) (d := 0) (QQ := (fun v τ n' => v = some (.int q4) ∧ τ = xσ μ R ∧ n = n')) (Nat.le_refl _)  hq4 (⟨rfl, rfl, rfl⟩)) my_X11_within ⟨m_424, m_425⟩ rfl rfl (Nat.le_of_ble_eq_true rfl) (Nat.le_trans (by decide) hd) (xlo (by decide) (Nat.le_trans (by decide) hd)) (Nat.zero_le _) (Nat.zero_le _) dX11_out_28 (fun v τ n' hv => ?_)
      obtain ⟨rfl, rfl, rfl⟩ := hv
      show Ev E (xcm E d 0 0 QQ) Y_X11_out 31 [(4, .ref (E.2.2.2 + a2)), (0, .ref (E.2.2.2 + iC)), (1, .int p0), (2, .int p1), (3, .int p2)] [.int q4] (xσ μ R) n 0 0
      refine ev_if_ne (tgt := 36) dX11_out_31 (by decide) (fun c31 => ?_) (fun c31 => ?_)
      · replace h := xif_f c31 h
        refine ev_iconst (v := 0) dX11_out_36 (by decide) ?_
        refine xv_istore (L' := [(5, .int 0), (4, .ref (E.2.2.2 + a2)), (0, .ref (E.2.2.2 + iC)), (1, .int p0), (2, .int p1), (3, .int p2)]) rfl dX11_out_37 (Nat.le_of_ble_eq_true rfl) rfl ?_
        refine ev_aload_n 2 dX11_out_39 rfl rfl ?_
        refine xv_getF (a := iC_ways) cl_11 lk_RX11_56 kd_0 (xl hF rfl) (fun _ => rfl) (fr_0_6 hF) dX11_out_40 ?_
        refine ev_aload 1 dX11_out_43 rfl ?_
        refine ev_iload_n 4 dX11_out_45 rfl rfl ?_
        refine ev_iconst (v := 0) dX11_out_46 (by decide) ?_
        refine ev_iload_n 5 dX11_out_47 rfl rfl ?_
        obtain ⟨q5, hq5, h⟩ := xbd_some h
        refine ev_callV (ci := 10) (rest := []) 4 (kX10_costOfOne (E := E) (d := 4) (QQ := (fun v τ n' => v = some (.long q5) ∧ τ = xσ μ R ∧ n = n')) (Nat.le_refl _) hF ha2 hq5 (⟨rfl, rfl, rfl⟩)) my_X10_costOfOne ⟨m_1050, m_1051, m_1052⟩ cl_10 kd_42 (xl hF rfl) rfl rfl (Nat.le_of_ble_eq_true rfl) (Nat.le_trans (by decide) hd) (xlo (by decide) (Nat.le_trans (by decide) hd)) (Nat.zero_le _) (Nat.zero_le _) dX11_out_48 (fun v τ n' hv => ?_)
        obtain ⟨rfl, rfl, rfl⟩ := hv
        show Ev E (xcm E d 0 0 QQ) Y_X11_out 51 [(5, .int 0), (4, .ref (E.2.2.2 + a2)), (0, .ref (E.2.2.2 + iC)), (1, .int p0), (2, .int p1), (3, .int p2)] [.long q5] (xσ μ R) n 0 0
        refine xv_lstore (L' := [(6, .long q5), (5, .int 0), (4, .ref (E.2.2.2 + a2)), (0, .ref (E.2.2.2 + iC)), (1, .int p0), (2, .int p1), (3, .int p2)]) rfl dX11_out_51 (Nat.le_of_ble_eq_true rfl) rfl ?_
        refine ev_iconst (v := 1) dX11_out_53 (by decide) ?_
        refine xv_istore (L' := [(8, .int 1), (6, .long q5), (5, .int 0), (4, .ref (E.2.2.2 + a2)), (0, .ref (E.2.2.2 + iC)), (1, .int p0), (2, .int p1), (3, .int p2)]) rfl dX11_out_54 (Nat.le_of_ble_eq_true rfl) rfl ?_
        obtain ⟨q13, hq13, h⟩ := xbd_some h
        refine ev_sub (L' := [(0, .ref (E.2.2.2 + iC)), (2, .int p1), (3, .int p2), (4, .ref (E.2.2.2 + a2)), (5, .int 0), (6, .long q5), (8, .int 1)]) [4, 6, 7, 3, 2, 1, 0] rfl ?_
        refine xloop_run (fun v => Ev E (xcm E d 0 0 QQ) Y_X11_out 56 [(0, .ref (E.2.2.2 + iC)), (2, .int p1), (3, .int p2), (4, .ref (E.2.2.2 + a2)), (5, .int v.1), (6, .long v.2.1), (8, .int v.2.2)] [] (xσ μ R) n 0 0) (fun v => Ev E (xcm E d 0 0 QQ) Y_X11_out 101 [(5, .int v)] [] (xσ μ R) n 0 0) ?_ _ _ _ hq13 ?_
        · rintro ⟨x6, x7, x8⟩ y9 h hk
          replace h : fX11_out_b56 x6 x7 x8 p1 p2 μ a2 = some y9 := h
          show Ev E (xcm E d 0 0 QQ) Y_X11_out 56 [(0, .ref (E.2.2.2 + iC)), (2, .int p1), (3, .int p2), (4, .ref (E.2.2.2 + a2)), (5, .int x6), (6, .long x7), (8, .int x8)] [] (xσ μ R) n 0 0
          unfold fX11_out_b56 at h
          refine ev_iload 6 dX11_out_56 rfl ?_
          refine ev_sipush (v := 600) dX11_out_58 (by decide) ?_
          refine ev_icmp_gt (tgt := 101) dX11_out_61 (by decide) (fun c61 => ?_) (fun c61 => ?_)
          · replace h := xif_t c61 h
            cases h
            replace hk := xel_r hk
            exact ev_sub [4] rfl (hk)
          · replace h := xif_f c61 h
            refine ev_aload_n 0 dX11_out_64 rfl rfl ?_
            refine xv_getF (a := iC_ways) cl_11 lk_RX11_56 kd_0 (xl hF rfl) (fun _ => rfl) (fr_0_6 hF) dX11_out_65 ?_
            refine ev_aload 3 dX11_out_68 rfl ?_
            refine ev_iload_n 1 dX11_out_70 rfl rfl ?_
            refine ev_iload 6 dX11_out_71 rfl ?_
            refine ev_iload_n 2 dX11_out_73 rfl rfl ?_
            obtain ⟨q10, hq10, h⟩ := xbd_some h
            refine ev_callV (ci := 10) (rest := []) 4 (kX10_costOfOne (E := E) (d := 4) (QQ := (fun v τ n' => v = some (.long q10) ∧ τ = xσ μ R ∧ n = n')) (Nat.le_refl _) hF ha2 hq10 (⟨rfl, rfl, rfl⟩)) my_X10_costOfOne ⟨m_1050, m_1051, m_1052⟩ cl_10 kd_42 (xl hF rfl) rfl rfl (Nat.le_of_ble_eq_true rfl) (Nat.le_trans (by decide) hd) (xlo (by decide) (Nat.le_trans (by decide) hd)) (Nat.zero_le _) (Nat.zero_le _) dX11_out_74 (fun v τ n' hv => ?_)
            obtain ⟨rfl, rfl, rfl⟩ := hv
            show Ev E (xcm E d 0 0 QQ) Y_X11_out 77 [(0, .ref (E.2.2.2 + iC)), (2, .int p1), (3, .int p2), (4, .ref (E.2.2.2 + a2)), (5, .int x6), (6, .long x7), (8, .int x8)] [.long q10] (xσ μ R) n 0 0
            refine xv_lstore (L' := [(9, .long q10), (0, .ref (E.2.2.2 + iC)), (2, .int p1), (3, .int p2), (4, .ref (E.2.2.2 + a2)), (5, .int x6), (6, .long x7), (8, .int x8)]) rfl dX11_out_77 (Nat.le_of_ble_eq_true rfl) rfl ?_
            refine ev_lload 0 dX11_out_79 rfl ?_
            refine ev_lload 6 dX11_out_81 rfl ?_
            refine ev_lcmp dX11_out_83 ?_
            refine ev_if_ge (tgt := 95) dX11_out_84 (by decide) (fun c84 => ?_) (fun c84 => ?_)
            · replace h := xif_t c84 h
              obtain ⟨x11, hx11, h⟩ := xlt_some h
              refine ev_iinc (L' := [(8, .int x11), (9, .long q10), (0, .ref (E.2.2.2 + iC)), (2, .int p1), (3, .int p2), (4, .ref (E.2.2.2 + a2)), (5, .int x6), (6, .long x7)]) 7 dX11_out_95 rfl ((by rfl : x8 + Int32.ofInt 1 = x8 + 1).trans hx11) (Nat.le_of_ble_eq_true rfl) rfl ?_
              refine ev_goto (tgt := 56) dX11_out_98 (by decide) ?_
              cases h
              replace hk := xel_l hk
              exact ev_sub [2, 3, 4, 5, 6, 7, 0] rfl (hk)
            · replace h := xif_f c84 h
              refine ev_lload 0 dX11_out_87 rfl ?_
              refine xv_lstore (L' := [(6, .long q10), (9, .long q10), (0, .ref (E.2.2.2 + iC)), (2, .int p1), (3, .int p2), (4, .ref (E.2.2.2 + a2)), (5, .int x6), (8, .int x8)]) rfl dX11_out_89 (Nat.le_of_ble_eq_true rfl) rfl ?_
              refine ev_iload 7 dX11_out_91 rfl ?_
              refine xv_istore (L' := [(5, .int x8), (6, .long q10), (9, .long q10), (0, .ref (E.2.2.2 + iC)), (2, .int p1), (3, .int p2), (4, .ref (E.2.2.2 + a2)), (8, .int x8)]) rfl dX11_out_93 (Nat.le_of_ble_eq_true rfl) rfl ?_
              obtain ⟨x12, hx12, h⟩ := xlt_some h
              refine ev_iinc (L' := [(8, .int x12), (5, .int x8), (6, .long q10), (9, .long q10), (0, .ref (E.2.2.2 + iC)), (2, .int p1), (3, .int p2), (4, .ref (E.2.2.2 + a2))]) 7 dX11_out_95 rfl ((by rfl : x8 + Int32.ofInt 1 = x8 + 1).trans hx12) (Nat.le_of_ble_eq_true rfl) rfl ?_
              refine ev_goto (tgt := 56) dX11_out_98 (by decide) ?_
              cases h
              replace hk := xel_l hk
              exact ev_sub [4, 5, 6, 7, 1, 2, 0] rfl (hk)
        · show Ev E (xcm E d 0 0 QQ) Y_X11_out 101 [(5, .int q13)] [] (xσ μ R) n 0 0
          refine ev_iload 0 dX11_out_101 rfl ?_
          cases h
          exact ev_iret rfl (hQ) dX11_out_103 (Nat.zero_le _) (Nat.zero_le _)
      · replace h := xif_t c31 h
        refine ev_iconst (v := (-1)) dX11_out_34 (by decide) ?_
        cases h
        exact ev_iret rfl (hQ) dX11_out_35 (Nat.zero_le _) (Nat.zero_le _)
def fX11_owes (p0 : Int32) (p1 : Int32) (p2 : Int32) (p3 : Int32) (μ : xm) (R : xr) : Option (Int32 × xm) := xbd (fX11_isCase p0 p1 p2 μ R) fun q1 => if q1 = 0 then (some ((-1), μ)) else (xbd (fX11_within p3 0 2) fun q2 => if q2 = 0 then (some ((-1), μ)) else (xbd (fX3_gather p0 p1 p2 μ R) fun q3 => xbd (q3.1) fun a4 => if p3 = 0 then (xbd (fX11_minutesOwed a4 q3.2 R) fun q7 => some (q7.1, q7.2)) else (if p3 = 1 then (xbd (fX11_hundredths a4 q3.2 R) fun q6 => some (q6.1, q6.2)) else (xbd (fX11_daysToLapse a4 q3.2 R) fun q5 => some (q5.1, q5.2)))))
set_option maxHeartbeats 4000000 in
set_option maxRecDepth 100000 in
theorem kX11_owes {E : xE} {d : Nat} {QQ : xP} (hd : 5 ≤ d) {p0 : Int32} {p1 : Int32} {p2 : Int32} {p3 : Int32} {μ : xm} {R : xr} {n : Nat} (hF : xFin R n)  {res : Int32 × xm} (h : fX11_owes p0 p1 p2 p3 μ R = some res) (hQ : QQ (some (.int res.1)) (xσ res.2 R) n) : xCon E d Y_X11_owes 0 0 [.ref (E.2.2.2 + iC), .int p0, .int p1, .int p2, .int p3] (xσ μ R) n QQ := by
  refine xCon_of pn_RX11 (Nat.le_of_ble_eq_true rfl) (L0 := [(0, .ref (E.2.2.2 + iC)), (1, .int p0), (2, .int p1), (3, .int p2), (4, .int p3)]) rfl ?_
  unfold fX11_owes at h
  refine ev_aload_n 0 dX11_owes_0 rfl rfl ?_
  refine ev_iload_n 1 dX11_owes_1 rfl rfl ?_
  refine ev_iload_n 2 dX11_owes_2 rfl rfl ?_
  refine ev_iload_n 3 dX11_owes_3 rfl rfl ?_
  obtain ⟨q1, hq1, h⟩ := xbd_some h
  refine ev_callV (ci := 11) (rest := []) 3 (kX11_isCase (E := E) (d := 2) (QQ := (fun v τ n' => v = some (.int q1) ∧ τ = xσ μ R ∧ n = n')) (Nat.le_refl _) hF hq1 (⟨rfl, rfl, rfl⟩)) my_X11_isCase ⟨m_671, m_673, m_10⟩ cl_11 kd_0 (xl hF rfl) rfl rfl (Nat.le_of_ble_eq_true rfl) (Nat.le_trans (by decide) hd) (xlo (by decide) (Nat.le_trans (by decide) hd)) (Nat.zero_le _) (Nat.zero_le _) dX11_owes_4 (fun v τ n' hv => ?_)
  obtain ⟨rfl, rfl, rfl⟩ := hv
  show Ev E (xcm E d 0 0 QQ) Y_X11_owes 7 [(0, .ref (E.2.2.2 + iC)), (1, .int p0), (2, .int p1), (3, .int p2), (4, .int p3)] [.int q1] (xσ μ R) n 0 0
  refine ev_if_eq (tgt := 20) dX11_owes_7 (by decide) (fun c7 => ?_) (fun c7 => ?_)
  · replace h := xif_t c7 h
    refine ev_iconst (v := (-1)) dX11_owes_20 (by decide) ?_
    cases h
    exact ev_iret rfl (hQ) dX11_owes_21 (Nat.zero_le _) (Nat.zero_le _)
  · replace h := xif_f c7 h
    refine ev_iload 4 dX11_owes_10 rfl ?_
    refine ev_iconst (v := 0) dX11_owes_12 (by decide) ?_
    refine ev_iconst (v := 2) dX11_owes_13 (by decide) ?_
    obtain ⟨q2, hq2, h⟩ := xbd_some h
    refine ev_callS (As := [.int p3, .int 0, .int 2]) (rest := []) 3 (kX11_within (E := E) (d := 0) (QQ := (fun v τ n' => v = some (.int q2) ∧ τ = xσ μ R ∧ n = n')) (Nat.le_refl _)  hq2 (⟨rfl, rfl, rfl⟩)) my_X11_within ⟨m_424, m_425⟩ rfl rfl (Nat.le_of_ble_eq_true rfl) (Nat.le_trans (by decide) hd) (xlo (by decide) (Nat.le_trans (by decide) hd)) (Nat.zero_le _) (Nat.zero_le _) dX11_owes_14 (fun v τ n' hv => ?_)
    obtain ⟨rfl, rfl, rfl⟩ := hv
    show Ev E (xcm E d 0 0 QQ) Y_X11_owes 17 [(0, .ref (E.2.2.2 + iC)), (1, .int p0), (2, .int p1), (3, .int p2), (4, .int p3)] [.int q2] (xσ μ R) n 0 0
    refine ev_if_ne (tgt := 22) dX11_owes_17 (by decide) (fun c17 => ?_) (fun c17 => ?_)
    · replace h := xif_f c17 h
      refine ev_aload_n 0 dX11_owes_22 rfl rfl ?_
      refine xv_getF (a := iC_meetings) cl_11 lk_RX11_35 kd_0 (xl hF rfl) (fun _ => rfl) (fr_0_3 hF) dX11_owes_23 ?_
      refine ev_iload_n 1 dX11_owes_26 rfl rfl ?_
      refine ev_iload_n 2 dX11_owes_27 rfl rfl ?_
      refine ev_iload_n 3 dX11_owes_28 rfl rfl ?_
      obtain ⟨q3, hq3, h⟩ := xbd_some h
      refine ev_callV (ci := 3) (rest := []) 3 (kX3_gather (E := E) (d := 4) (QQ := (fun v τ n' => v = some (xrf E.2.2.2 q3.1) ∧ τ = xσ q3.2 R ∧ n = n' ∧ (∀ a, q3.1 = some a → xIsA 1 a n))) (Nat.le_refl _) hF hq3 (fun z0 => ⟨rfl, rfl, rfl, z0⟩)) my_X3_gather ⟨m_675, m_676, m_677⟩ cl_3 kd_23 (xl hF rfl) rfl rfl (Nat.le_of_ble_eq_true rfl) (Nat.le_trans (by decide) hd) (xlo (by decide) (Nat.le_trans (by decide) hd)) (Nat.zero_le _) (Nat.zero_le _) dX11_owes_29 (fun v τ n' hv => ?_)
      obtain ⟨rfl, rfl, rfl, hvq3⟩ := hv
      show Ev E (xcm E d 0 0 QQ) Y_X11_owes 32 [(0, .ref (E.2.2.2 + iC)), (1, .int p0), (2, .int p1), (3, .int p2), (4, .int p3)] [xrf E.2.2.2 q3.1] (xσ q3.2 R) n 0 0
      obtain ⟨a4, ha4, h⟩ := xbd_some h
      refine xv_nn ha4 ?_
      replace ha4 := hvq3 _ ha4
      refine ev_astore (L' := [(5, .ref (E.2.2.2 + a4)), (0, .ref (E.2.2.2 + iC)), (1, .int p0), (2, .int p1), (3, .int p2), (4, .int p3)]) dX11_owes_32 (Nat.le_of_ble_eq_true rfl) rfl ?_
      refine ev_iload 5 dX11_owes_34 rfl ?_
      refine ev_if_ne (tgt := 46) dX11_owes_36 (by decide) (fun c36 => ?_) (fun c36 => ?_)
      · replace h := xif_f c36 h
        refine ev_iload 5 dX11_owes_46 rfl ?_
        refine ev_iconst (v := 1) dX11_owes_48 (by decide) ?_
        refine ev_icmp_ne (tgt := 61) dX11_owes_49 (by decide) (fun c49 => ?_) (fun c49 => ?_)
        · replace h := xif_f c49 h
          refine ev_aload_n 1 dX11_owes_61 rfl rfl ?_
          refine ev_aload 0 dX11_owes_62 rfl ?_
          obtain ⟨q5, hq5, h⟩ := xbd_some h
          refine ev_callV (ci := 11) (rest := []) 1 (kX11_daysToLapse (E := E) (d := 3) (QQ := (fun v τ n' => v = some (.int q5.1) ∧ τ = xσ q5.2 R ∧ n = n')) (Nat.le_refl _) hF ha4 hq5 (⟨rfl, rfl, rfl⟩)) my_X11_daysToLapse ⟨m_735, m_737, m_15⟩ cl_11 kd_0 (xl hF rfl) rfl rfl (Nat.le_of_ble_eq_true rfl) (Nat.le_trans (by decide) hd) (xlo (by decide) (Nat.le_trans (by decide) hd)) (Nat.zero_le _) (Nat.zero_le _) dX11_owes_64 (fun v τ n' hv => ?_)
          obtain ⟨rfl, rfl, rfl⟩ := hv
          show Ev E (xcm E d 0 0 QQ) Y_X11_owes 67 [(5, .ref (E.2.2.2 + a4)), (0, .ref (E.2.2.2 + iC)), (1, .int p0), (2, .int p1), (3, .int p2), (4, .int p3)] [.int q5.1] (xσ q5.2 R) n 0 0
          cases h
          exact ev_iret rfl (hQ) dX11_owes_67 (Nat.zero_le _) (Nat.zero_le _)
        · replace h := xif_t c49 h
          refine ev_aload_n 1 dX11_owes_52 rfl rfl ?_
          refine ev_aload 0 dX11_owes_53 rfl ?_
          obtain ⟨q6, hq6, h⟩ := xbd_some h
          refine ev_callV (ci := 11) (rest := []) 1 (kX11_hundredths (E := E) (d := 3) (QQ := (fun v τ n' => v = some (.int q6.1) ∧ τ = xσ q6.2 R ∧ n = n')) (Nat.le_refl _) hF ha4 hq6 (⟨rfl, rfl, rfl⟩)) my_X11_hundredths ⟨m_731, m_733, m_14⟩ cl_11 kd_0 (xl hF rfl) rfl rfl (Nat.le_of_ble_eq_true rfl) (Nat.le_trans (by decide) hd) (xlo (by decide) (Nat.le_trans (by decide) hd)) (Nat.zero_le _) (Nat.zero_le _) dX11_owes_55 (fun v τ n' hv => ?_)
          obtain ⟨rfl, rfl, rfl⟩ := hv
          show Ev E (xcm E d 0 0 QQ) Y_X11_owes 58 [(5, .ref (E.2.2.2 + a4)), (0, .ref (E.2.2.2 + iC)), (1, .int p0), (2, .int p1), (3, .int p2), (4, .int p3)] [.int q6.1] (xσ q6.2 R) n 0 0
          refine ev_goto (tgt := 67) dX11_owes_58 (by decide) ?_
          cases h
          exact ev_iret rfl (hQ) dX11_owes_67 (Nat.zero_le _) (Nat.zero_le _)
      · replace h := xif_t c36 h
        refine ev_aload_n 1 dX11_owes_39 rfl rfl ?_
        refine ev_aload 0 dX11_owes_40 rfl ?_
        obtain ⟨q7, hq7, h⟩ := xbd_some h
        refine ev_callV (ci := 11) (rest := []) 1 (kX11_minutesOwed (E := E) (d := 3) (QQ := (fun v τ n' => v = some (.int q7.1) ∧ τ = xσ q7.2 R ∧ n = n')) (Nat.le_refl _) hF ha4 hq7 (⟨rfl, rfl, rfl⟩)) my_X11_minutesOwed ⟨m_702, m_704, m_12⟩ cl_11 kd_0 (xl hF rfl) rfl rfl (Nat.le_of_ble_eq_true rfl) (Nat.le_trans (by decide) hd) (xlo (by decide) (Nat.le_trans (by decide) hd)) (Nat.zero_le _) (Nat.zero_le _) dX11_owes_42 (fun v τ n' hv => ?_)
        obtain ⟨rfl, rfl, rfl⟩ := hv
        show Ev E (xcm E d 0 0 QQ) Y_X11_owes 45 [(5, .ref (E.2.2.2 + a4)), (0, .ref (E.2.2.2 + iC)), (1, .int p0), (2, .int p1), (3, .int p2), (4, .int p3)] [.int q7.1] (xσ q7.2 R) n 0 0
        cases h
        exact ev_iret rfl (hQ) dX11_owes_45 (Nat.zero_le _) (Nat.zero_le _)
    · replace h := xif_t c17 h
      refine ev_iconst (v := (-1)) dX11_owes_20 (by decide) ?_
      cases h
      exact ev_iret rfl (hQ) dX11_owes_21 (Nat.zero_le _) (Nat.zero_le _)
def fX6_comeToRest_b22 (x6 : Int32) (x7 : Int32) (μ8 : xm) (R9 : xr) (p0 : Nat) (p1 : Int32) : Option ((Int32 × Int32 × xm × xr) ⊕ (Int32 × xm × xr)) := if 8 ≤ x7 then (some (.inr (x6, μ8, R9))) else (xbd (fX2_includes p0 x7 μ8) fun q11 => if q11 = 0 then (xlt (x7 + 1) fun x18 => some (.inl (x6, x18, μ8, R9))) else (xbd (fX6_cheapest p0 x7 p1 μ8 R9) fun q12 => xbd (xgI q12.2.1 iC_rest_aheads 8 x7) fun v13 => if q12.1 = v13 then (xbd (xsI q12.2.1 iC_rest_aheads 8 x7 q12.1) fun μ14 => xlt (x7 + 1) fun x15 => some (.inl (x6, x15, μ14, q12.2.2))) else (xbd (xsI q12.2.1 iC_rest_aheads 8 x7 q12.1) fun μ16 => xlt (x7 + 1) fun x17 => some (.inl (1, x17, μ16, q12.2.2)))))
def fX6_comeToRest_b10 (x2 : Int32) (μ3 : xm) (R4 : xr) (p0 : Nat) (p1 : Int32) : Option ((Int32 × xm × xr) ⊕ ((xm × xr) ⊕ (Int32 × xm × xr))) := if 30 < x2 then (some (.inr (.inl (μ3, R4)))) else (xbd (xloop xfu (fun v => fX6_comeToRest_b22 v.1 v.2.1 v.2.2.1 v.2.2.2 p0 p1) (0, 0, μ3, R4)) fun q19 => if q19.1 = 0 then (some (.inr (.inr (x2, q19.2.1, q19.2.2)))) else (xlt (x2 + 1) fun x20 => some (.inl (x20, q19.2.1, q19.2.2))))
def fX6_comeToRest (p0 : Nat) (p1 : Int32) (μ : xm) (R : xr) : Option (Int32 × xm × xr) := xbd (fJ7_fill_53178 iC_rest_aheads 0 μ) fun q1 => xbd (xloop xfu (fun v => fX6_comeToRest_b10 v.1 v.2.1 v.2.2 p0 p1) (1, q1, R)) fun q21 => xsm q21 (fun q22 => some ((-2), q22.1, q22.2)) (fun q23 => some q23)
set_option maxHeartbeats 4000000 in
set_option maxRecDepth 100000 in
theorem kX6_comeToRest {E : xE} {d : Nat} {QQ : xP} (hd : 5 ≤ d) {p0 : Nat} {p1 : Int32} {μ : xm} {R : xr} {n : Nat} (hF : xFin R n) (hp0 : xIs 2 p0 n) {res : Int32 × xm × xr} (h : fX6_comeToRest p0 p1 μ R = some res) (hQ : xFin res.2.2 n → QQ (some (.int res.1)) (xσ res.2.1 res.2.2) n) : xCon E d Y_X6_comeToRest 0 0 [.ref (E.2.2.2 + iC_rest), .ref (E.2.2.2 + p0), .int p1] (xσ μ R) n QQ := by
  refine xCon_of pn_RX6 (Nat.le_of_ble_eq_true rfl) (L0 := [(0, .ref (E.2.2.2 + iC_rest)), (1, .ref (E.2.2.2 + p0)), (2, .int p1)]) rfl ?_
  unfold fX6_comeToRest at h
  refine ev_aload_n 0 dX6_comeToRest_0 rfl rfl ?_
  refine xv_getF (a := iC_rest_aheads) cl_6 lk_RX6_9 kd_49 (xl hF rfl) (fun _ => rfl) (fr_49_2 hF) dX6_comeToRest_1 ?_
  refine ev_iconst (v := 0) dX6_comeToRest_4 (by decide) ?_
  obtain ⟨q1, hq1, h⟩ := xbd_some h
  refine ev_callS (As := [.ref (E.2.2.2 + iC_rest_aheads), .int 0]) (rest := []) 2 (kJ7_fill_53178 (E := E) (d := 0) (QQ := (fun v τ n' => v = none ∧ τ = xσ q1 R ∧ n = n')) (Nat.le_refl _) (xIsA_of kd_50 (xl hF rfl)) hq1 (⟨rfl, rfl, rfl⟩)) my_J7_fill_53178 ⟨m_1097, m_212⟩ rfl rfl (Nat.le_of_ble_eq_true rfl) (Nat.le_trans (by decide) hd) (xlo (by decide) (Nat.le_trans (by decide) hd)) (Nat.zero_le _) (Nat.zero_le _) dX6_comeToRest_5 (fun v τ n' hv => ?_)
  obtain ⟨rfl, rfl, rfl⟩ := hv
  show Ev E (xcm E d 0 0 QQ) Y_X6_comeToRest 8 [(0, .ref (E.2.2.2 + iC_rest)), (1, .ref (E.2.2.2 + p0)), (2, .int p1)] [] (xσ q1 R) n 0 0
  refine ev_iconst (v := 1) dX6_comeToRest_8 (by decide) ?_
  refine xv_istore_n (L' := [(3, .int 1), (0, .ref (E.2.2.2 + iC_rest)), (1, .ref (E.2.2.2 + p0)), (2, .int p1)]) rfl dX6_comeToRest_9 rfl (Nat.le_of_ble_eq_true rfl) rfl ?_
  obtain ⟨q21, hq21, h⟩ := xbd_some h
  refine ev_sub (L' := [(0, .ref (E.2.2.2 + iC_rest)), (1, .ref (E.2.2.2 + p0)), (2, .int p1), (3, .int 1)]) [1, 2, 3, 0] rfl ?_
  refine xloop_run (fun v => xFin v.2.2 n → Ev E (xcm E d 0 0 QQ) Y_X6_comeToRest 10 [(0, .ref (E.2.2.2 + iC_rest)), (1, .ref (E.2.2.2 + p0)), (2, .int p1), (3, .int v.1)] [] (xσ v.2.1 v.2.2) n 0 0) (xel (fun v => xFin v.2 n → Ev E (xcm E d 0 0 QQ) Y_X6_comeToRest 97 [] [] (xσ v.1 v.2) n 0 0) (fun v => xFin v.2.2 n → QQ (some (.int v.1)) (xσ v.2.1 v.2.2) n)) ?_ _ _ _ hq21 ?_ hF
  · rintro ⟨x2, μ3, R4⟩ y5 h hk hF
    replace h : fX6_comeToRest_b10 x2 μ3 R4 p0 p1 = some y5 := h
    show Ev E (xcm E d 0 0 QQ) Y_X6_comeToRest 10 [(0, .ref (E.2.2.2 + iC_rest)), (1, .ref (E.2.2.2 + p0)), (2, .int p1), (3, .int x2)] [] (xσ μ3 R4) n 0 0
    unfold fX6_comeToRest_b10 at h
    refine ev_iload_n 3 dX6_comeToRest_10 rfl rfl ?_
    refine ev_bipush (v := 30) dX6_comeToRest_11 (by decide) ?_
    refine ev_icmp_gt (tgt := 97) dX6_comeToRest_13 (by decide) (fun c13 => ?_) (fun c13 => ?_)
    · replace h := xif_t c13 h
      cases h
      replace hk := xel_r hk
      replace hk := xel_l hk
      exact ev_sub [] rfl (hk hF)
    · replace h := xif_f c13 h
      refine ev_iconst (v := 0) dX6_comeToRest_16 (by decide) ?_
      refine xv_istore (L' := [(4, .int 0), (0, .ref (E.2.2.2 + iC_rest)), (1, .ref (E.2.2.2 + p0)), (2, .int p1), (3, .int x2)]) rfl dX6_comeToRest_17 (Nat.le_of_ble_eq_true rfl) rfl ?_
      refine ev_iconst (v := 0) dX6_comeToRest_19 (by decide) ?_
      refine xv_istore (L' := [(5, .int 0), (4, .int 0), (0, .ref (E.2.2.2 + iC_rest)), (1, .ref (E.2.2.2 + p0)), (2, .int p1), (3, .int x2)]) rfl dX6_comeToRest_20 (Nat.le_of_ble_eq_true rfl) rfl ?_
      obtain ⟨q19, hq19, h⟩ := xbd_some h
      refine ev_sub (L' := [(0, .ref (E.2.2.2 + iC_rest)), (1, .ref (E.2.2.2 + p0)), (2, .int p1), (3, .int x2), (4, .int 0), (5, .int 0)]) [2, 3, 4, 5, 1, 0] rfl ?_
      refine xloop_run (fun v => xFin v.2.2.2 n → Ev E (xcm E d 0 0 QQ) Y_X6_comeToRest 22 [(0, .ref (E.2.2.2 + iC_rest)), (1, .ref (E.2.2.2 + p0)), (2, .int p1), (3, .int x2), (4, .int v.1), (5, .int v.2.1)] [] (xσ v.2.2.1 v.2.2.2) n 0 0) (fun v => xFin v.2.2 n → Ev E (xcm E d 0 0 QQ) Y_X6_comeToRest 84 [(0, .ref (E.2.2.2 + iC_rest)), (1, .ref (E.2.2.2 + p0)), (2, .int p1), (3, .int x2), (4, .int v.1)] [] (xσ v.2.1 v.2.2) n 0 0) ?_ _ _ _ hq19 ?_ hF
      · rintro ⟨x6, x7, μ8, R9⟩ y10 h hk hF
        replace h : fX6_comeToRest_b22 x6 x7 μ8 R9 p0 p1 = some y10 := h
        show Ev E (xcm E d 0 0 QQ) Y_X6_comeToRest 22 [(0, .ref (E.2.2.2 + iC_rest)), (1, .ref (E.2.2.2 + p0)), (2, .int p1), (3, .int x2), (4, .int x6), (5, .int x7)] [] (xσ μ8 R9) n 0 0
        unfold fX6_comeToRest_b22 at h
        refine ev_iload 5 dX6_comeToRest_22 rfl ?_
        refine ev_aload_n 0 dX6_comeToRest_24 rfl rfl ?_
        refine xv_getF (a := iC_rest_aheads) cl_6 lk_RX6_9 kd_49 (xl hF rfl) (fun _ => rfl) (fr_49_2 hF) dX6_comeToRest_25 ?_
        refine ev_alen (v := 8) 0 (by decide) kd_50 (xl hF rfl) rfl dX6_comeToRest_28 ?_
        refine ev_icmp_ge (tgt := 84) dX6_comeToRest_29 (by decide) (fun c29 => ?_) (fun c29 => ?_)
        · replace h := xif_t c29 h
          cases h
          replace hk := xel_r hk
          exact ev_sub [0, 1, 2, 3, 4] rfl (hk hF)
        · replace h := xif_f c29 h
          refine ev_aload_n 1 dX6_comeToRest_32 rfl rfl ?_
          refine ev_iload 5 dX6_comeToRest_33 rfl ?_
          obtain ⟨q11, hq11, h⟩ := xbd_some h
          refine ev_callV (ci := 2) (rest := []) 1 (kX2_includes (E := E) (d := 0) (QQ := (fun v τ n' => v = some (.int q11) ∧ τ = xσ μ8 R9 ∧ n = n')) (Nat.le_refl _) hF hp0 hq11 (⟨rfl, rfl, rfl⟩)) my_X2_includes ⟨m_1098, m_500, m_501⟩ cl_2 (xIs2_kd hp0) (xIs2_lt hp0) rfl rfl (Nat.le_of_ble_eq_true rfl) (Nat.le_trans (by decide) hd) (xlo (by decide) (Nat.le_trans (by decide) hd)) (Nat.zero_le _) (Nat.zero_le _) dX6_comeToRest_35 (fun v τ n' hv => ?_)
          obtain ⟨rfl, rfl, rfl⟩ := hv
          show Ev E (xcm E d 0 0 QQ) Y_X6_comeToRest 38 [(0, .ref (E.2.2.2 + iC_rest)), (1, .ref (E.2.2.2 + p0)), (2, .int p1), (3, .int x2), (4, .int x6), (5, .int x7)] [.int q11] (xσ μ8 R9) n 0 0
          refine ev_if_ne (tgt := 44) dX6_comeToRest_38 (by decide) (fun c38 => ?_) (fun c38 => ?_)
          · replace h := xif_f c38 h
            refine ev_aload_n 0 dX6_comeToRest_44 rfl rfl ?_
            refine ev_aload_n 1 dX6_comeToRest_45 rfl rfl ?_
            refine ev_iload 5 dX6_comeToRest_46 rfl ?_
            refine ev_iload_n 2 dX6_comeToRest_48 rfl rfl ?_
            obtain ⟨q12, hq12, h⟩ := xbd_some h
            refine ev_callV (ci := 6) (rest := []) 3 (kX6_cheapest (E := E) (d := 4) (QQ := (fun v τ n' => v = some (.int q12.1) ∧ τ = xσ q12.2.1 q12.2.2 ∧ n = n' ∧ xFin q12.2.2 n)) (Nat.le_refl _) hF hp0 hq12 (fun z0 => ⟨rfl, rfl, rfl, z0⟩)) my_X6_cheapest ⟨m_1099, m_1101, m_33⟩ cl_6 kd_49 (xl hF rfl) rfl rfl (Nat.le_of_ble_eq_true rfl) (Nat.le_trans (by decide) hd) (xlo (by decide) (Nat.le_trans (by decide) hd)) (Nat.zero_le _) (Nat.zero_le _) dX6_comeToRest_49 (fun v τ n' hv => ?_)
            obtain ⟨rfl, rfl, rfl, hF⟩ := hv
            show Ev E (xcm E d 0 0 QQ) Y_X6_comeToRest 52 [(0, .ref (E.2.2.2 + iC_rest)), (1, .ref (E.2.2.2 + p0)), (2, .int p1), (3, .int x2), (4, .int x6), (5, .int x7)] [.int q12.1] (xσ q12.2.1 q12.2.2) n 0 0
            refine xv_istore (L' := [(6, .int q12.1), (0, .ref (E.2.2.2 + iC_rest)), (1, .ref (E.2.2.2 + p0)), (2, .int p1), (3, .int x2), (4, .int x6), (5, .int x7)]) rfl dX6_comeToRest_52 (Nat.le_of_ble_eq_true rfl) rfl ?_
            refine ev_iload 0 dX6_comeToRest_54 rfl ?_
            refine ev_aload_n 1 dX6_comeToRest_56 rfl rfl ?_
            refine xv_getF (a := iC_rest_aheads) cl_6 lk_RX6_9 kd_49 (xl hF rfl) (fun _ => rfl) (fr_49_2 hF) dX6_comeToRest_57 ?_
            refine ev_iload 6 dX6_comeToRest_60 rfl ?_
            obtain ⟨v13, hv13, h⟩ := xbd_some h
            refine xv_iald kd_50 (xl hF rfl) hv13 dX6_comeToRest_62 ?_
            refine ev_icmp_eq (tgt := 69) dX6_comeToRest_63 (by decide) (fun c63 => ?_) (fun c63 => ?_)
            · replace h := xif_t c63 h
              refine ev_aload_n 1 dX6_comeToRest_69 rfl rfl ?_
              refine xv_getF (a := iC_rest_aheads) cl_6 lk_RX6_9 kd_49 (xl hF rfl) (fun _ => rfl) (fr_49_2 hF) dX6_comeToRest_70 ?_
              refine ev_iload 6 dX6_comeToRest_73 rfl ?_
              refine ev_iload 0 dX6_comeToRest_75 rfl ?_
              obtain ⟨μ14, hμ14, h⟩ := xbd_some h
              refine xv_iast kd_50 (xl hF rfl) hμ14 dX6_comeToRest_77 ?_
              obtain ⟨x15, hx15, h⟩ := xlt_some h
              refine ev_iinc (L' := [(5, .int x15), (6, .int q12.1), (0, .ref (E.2.2.2 + iC_rest)), (1, .ref (E.2.2.2 + p0)), (2, .int p1), (3, .int x2), (4, .int x6)]) 6 dX6_comeToRest_78 rfl ((by rfl : x7 + Int32.ofInt 1 = x7 + 1).trans hx15) (Nat.le_of_ble_eq_true rfl) rfl ?_
              refine ev_goto (tgt := 22) dX6_comeToRest_81 (by decide) ?_
              cases h
              replace hk := xel_l hk
              exact ev_sub [2, 3, 4, 5, 6, 0] rfl (hk hF)
            · replace h := xif_f c63 h
              refine ev_iconst (v := 1) dX6_comeToRest_66 (by decide) ?_
              refine xv_istore (L' := [(4, .int 1), (6, .int q12.1), (0, .ref (E.2.2.2 + iC_rest)), (1, .ref (E.2.2.2 + p0)), (2, .int p1), (3, .int x2), (5, .int x7)]) rfl dX6_comeToRest_67 (Nat.le_of_ble_eq_true rfl) rfl ?_
              refine ev_aload_n 2 dX6_comeToRest_69 rfl rfl ?_
              refine xv_getF (a := iC_rest_aheads) cl_6 lk_RX6_9 kd_49 (xl hF rfl) (fun _ => rfl) (fr_49_2 hF) dX6_comeToRest_70 ?_
              refine ev_iload 6 dX6_comeToRest_73 rfl ?_
              refine ev_iload 1 dX6_comeToRest_75 rfl ?_
              obtain ⟨μ16, hμ16, h⟩ := xbd_some h
              refine xv_iast kd_50 (xl hF rfl) hμ16 dX6_comeToRest_77 ?_
              obtain ⟨x17, hx17, h⟩ := xlt_some h
              refine ev_iinc (L' := [(5, .int x17), (4, .int 1), (6, .int q12.1), (0, .ref (E.2.2.2 + iC_rest)), (1, .ref (E.2.2.2 + p0)), (2, .int p1), (3, .int x2)]) 6 dX6_comeToRest_78 rfl ((by rfl : x7 + Int32.ofInt 1 = x7 + 1).trans hx17) (Nat.le_of_ble_eq_true rfl) rfl ?_
              refine ev_goto (tgt := 22) dX6_comeToRest_81 (by decide) ?_
              cases h
              replace hk := xel_l hk
              exact ev_sub [3, 4, 5, 6, 1, 0] rfl (hk hF)
          · replace h := xif_t c38 h
            refine ev_goto (tgt := 78) dX6_comeToRest_41 (by decide) ?_
            obtain ⟨x18, hx18, h⟩ := xlt_some h
            refine ev_iinc (L' := [(5, .int x18), (0, .ref (E.2.2.2 + iC_rest)), (1, .ref (E.2.2.2 + p0)), (2, .int p1), (3, .int x2), (4, .int x6)]) 5 dX6_comeToRest_78 rfl ((by rfl : x7 + Int32.ofInt 1 = x7 + 1).trans hx18) (Nat.le_of_ble_eq_true rfl) rfl ?_
            refine ev_goto (tgt := 22) dX6_comeToRest_81 (by decide) ?_
            cases h
            replace hk := xel_l hk
            exact ev_sub [1, 2, 3, 4, 5, 0] rfl (hk hF)
      · intro hF
        show Ev E (xcm E d 0 0 QQ) Y_X6_comeToRest 84 [(0, .ref (E.2.2.2 + iC_rest)), (1, .ref (E.2.2.2 + p0)), (2, .int p1), (3, .int x2), (4, .int q19.1)] [] (xσ q19.2.1 q19.2.2) n 0 0
        refine ev_iload 4 dX6_comeToRest_84 rfl ?_
        refine ev_if_ne (tgt := 91) dX6_comeToRest_86 (by decide) (fun c86 => ?_) (fun c86 => ?_)
        · replace h := xif_f c86 h
          obtain ⟨x20, hx20, h⟩ := xlt_some h
          refine ev_iinc (L' := [(3, .int x20), (0, .ref (E.2.2.2 + iC_rest)), (1, .ref (E.2.2.2 + p0)), (2, .int p1), (4, .int q19.1)]) 3 dX6_comeToRest_91 rfl ((by rfl : x2 + Int32.ofInt 1 = x2 + 1).trans hx20) (Nat.le_of_ble_eq_true rfl) rfl ?_
          refine ev_goto (tgt := 10) dX6_comeToRest_94 (by decide) ?_
          cases h
          replace hk := xel_l hk
          exact ev_sub [1, 2, 3, 0] rfl (hk hF)
        · replace h := xif_t c86 h
          refine ev_iload_n 3 dX6_comeToRest_89 rfl rfl ?_
          cases h
          replace hk := xel_r hk
          replace hk := xel_r hk
          exact ev_iret rfl (hk hF) dX6_comeToRest_90 (Nat.zero_le _) (Nat.zero_le _)
  · rcases q21 with q22 | q23
    · replace h := xsm_l h
      intro hF
      show Ev E (xcm E d 0 0 QQ) Y_X6_comeToRest 97 [] [] (xσ q22.1 q22.2) n 0 0
      refine ev_bipush (v := (-2)) dX6_comeToRest_97 (by decide) ?_
      cases h
      exact ev_iret rfl (hQ hF) dX6_comeToRest_99 (Nat.zero_le _) (Nat.zero_le _)
    · replace h := xsm_r h
      cases h
      exact hQ
def fX7_leastLeft_b4 (x1 : Int32) (x2 : Int32) (μ3 : xm) : Option ((Int32 × Int32 × xm) ⊕ ((Int32 × xm) ⊕ (Int32 × xm))) := if 86401 ≤ x2 then (some (.inr (.inl (x1, μ3)))) else (xbd (fX7_measure μ3) fun q5 => xbd (fX7_nearestTaker q5) fun q6 => if q6 = (-1) then (some (.inr (.inr (x1, q5)))) else (xbd (xgI q5 iC_striking_away 8 q6) fun v7 => xbd (fX7_send q6 q5) fun q8 => xlt (x1 + (v7 * q8.1)) fun x9 => xlt (x2 + 1) fun x10 => some (.inl (x9, x10, q8.2))))
def fX7_leastLeft (μ : xm) : Option (Int32 × xm) := xbd (xloop xfu (fun v => fX7_leastLeft_b4 v.1 v.2.1 v.2.2) (0, 0, μ)) fun q11 => xsm q11 (fun q12 => some (q12.1, q12.2)) (fun q13 => some q13)
set_option maxHeartbeats 4000000 in
set_option maxRecDepth 100000 in
theorem kX7_leastLeft {E : xE} {d : Nat} {QQ : xP} (hd : 5 ≤ d)  {μ : xm} {R : xr} {n : Nat} (hF : xFin R n)  {res : Int32 × xm} (h : fX7_leastLeft μ = some res) (hQ : QQ (some (.int res.1)) (xσ res.2 R) n) : xCon E d Y_X7_leastLeft 0 0 [.ref (E.2.2.2 + iC_striking)] (xσ μ R) n QQ := by
  refine xCon_of pn_RX7 (Nat.le_of_ble_eq_true rfl) (L0 := [(0, .ref (E.2.2.2 + iC_striking))]) rfl ?_
  unfold fX7_leastLeft at h
  refine ev_iconst (v := 0) dX7_leastLeft_0 (by decide) ?_
  refine xv_istore_n (L' := [(1, .int 0), (0, .ref (E.2.2.2 + iC_striking))]) rfl dX7_leastLeft_1 rfl (Nat.le_of_ble_eq_true rfl) rfl ?_
  refine ev_iconst (v := 0) dX7_leastLeft_2 (by decide) ?_
  refine xv_istore_n (L' := [(2, .int 0), (1, .int 0), (0, .ref (E.2.2.2 + iC_striking))]) rfl dX7_leastLeft_3 rfl (Nat.le_of_ble_eq_true rfl) rfl ?_
  obtain ⟨q11, hq11, h⟩ := xbd_some h
  refine ev_sub (L' := [(0, .ref (E.2.2.2 + iC_striking)), (1, .int 0), (2, .int 0)]) [2, 1, 0] rfl ?_
  refine xloop_run (fun v => Ev E (xcm E d 0 0 QQ) Y_X7_leastLeft 4 [(0, .ref (E.2.2.2 + iC_striking)), (1, .int v.1), (2, .int v.2.1)] [] (xσ v.2.2 R) n 0 0) (xel (fun v => Ev E (xcm E d 0 0 QQ) Y_X7_leastLeft 47 [(1, .int v.1)] [] (xσ v.2 R) n 0 0) (fun v => QQ (some (.int v.1)) (xσ v.2 R) n)) ?_ _ _ _ hq11 ?_
  · rintro ⟨x1, x2, μ3⟩ y4 h hk
    replace h : fX7_leastLeft_b4 x1 x2 μ3 = some y4 := h
    show Ev E (xcm E d 0 0 QQ) Y_X7_leastLeft 4 [(0, .ref (E.2.2.2 + iC_striking)), (1, .int x1), (2, .int x2)] [] (xσ μ3 R) n 0 0
    unfold fX7_leastLeft_b4 at h
    refine ev_iload_n 2 dX7_leastLeft_4 rfl rfl ?_
    refine ev_ldc (v := 86401) m_907 dX7_leastLeft_5 ?_
    refine ev_icmp_ge (tgt := 47) dX7_leastLeft_7 (by decide) (fun c7 => ?_) (fun c7 => ?_)
    · replace h := xif_t c7 h
      cases h
      replace hk := xel_r hk
      replace hk := xel_l hk
      exact ev_sub [1] rfl (hk)
    · replace h := xif_f c7 h
      refine ev_aload_n 0 dX7_leastLeft_10 rfl rfl ?_
      obtain ⟨q5, hq5, h⟩ := xbd_some h
      refine ev_callV (ci := 7) (rest := []) 0 (kX7_measure (E := E) (d := 4) (QQ := (fun v τ n' => v = none ∧ τ = xσ q5 R ∧ n = n')) (Nat.le_refl _) hF hq5 (⟨rfl, rfl, rfl⟩)) my_X7_measure ⟨m_908, m_910, m_19⟩ cl_7 kd_35 (xl hF rfl) rfl rfl (Nat.le_of_ble_eq_true rfl) (Nat.le_trans (by decide) hd) (xlo (by decide) (Nat.le_trans (by decide) hd)) (Nat.zero_le _) (Nat.zero_le _) dX7_leastLeft_11 (fun v τ n' hv => ?_)
      obtain ⟨rfl, rfl, rfl⟩ := hv
      show Ev E (xcm E d 0 0 QQ) Y_X7_leastLeft 14 [(0, .ref (E.2.2.2 + iC_striking)), (1, .int x1), (2, .int x2)] [] (xσ q5 R) n 0 0
      refine ev_aload_n 0 dX7_leastLeft_14 rfl rfl ?_
      obtain ⟨q6, hq6, h⟩ := xbd_some h
      refine ev_callV (ci := 7) (rest := []) 0 (kX7_nearestTaker (E := E) (d := 0) (QQ := (fun v τ n' => v = some (.int q6) ∧ τ = xσ q5 R ∧ n = n')) (Nat.le_refl _) hF hq6 (⟨rfl, rfl, rfl⟩)) my_X7_nearestTaker ⟨m_932, m_934, m_25⟩ cl_7 kd_35 (xl hF rfl) rfl rfl (Nat.le_of_ble_eq_true rfl) (Nat.le_trans (by decide) hd) (xlo (by decide) (Nat.le_trans (by decide) hd)) (Nat.zero_le _) (Nat.zero_le _) dX7_leastLeft_15 (fun v τ n' hv => ?_)
      obtain ⟨rfl, rfl, rfl⟩ := hv
      show Ev E (xcm E d 0 0 QQ) Y_X7_leastLeft 18 [(0, .ref (E.2.2.2 + iC_striking)), (1, .int x1), (2, .int x2)] [.int q6] (xσ q5 R) n 0 0
      refine xv_istore_n (L' := [(3, .int q6), (0, .ref (E.2.2.2 + iC_striking)), (1, .int x1), (2, .int x2)]) rfl dX7_leastLeft_18 rfl (Nat.le_of_ble_eq_true rfl) rfl ?_
      refine ev_iload_n 0 dX7_leastLeft_19 rfl rfl ?_
      refine ev_iconst (v := (-1)) dX7_leastLeft_20 (by decide) ?_
      refine ev_icmp_ne (tgt := 26) dX7_leastLeft_21 (by decide) (fun c21 => ?_) (fun c21 => ?_)
      · replace h := xif_f c21 h
        refine ev_iload_n 2 dX7_leastLeft_26 rfl rfl ?_
        refine ev_aload_n 1 dX7_leastLeft_27 rfl rfl ?_
        refine xv_getF (a := iC_striking_away) cl_7 lk_RX7_21 kd_35 (xl hF rfl) (fun _ => rfl) (fr_35_3 hF) dX7_leastLeft_28 ?_
        refine ev_iload_n 0 dX7_leastLeft_31 rfl rfl ?_
        obtain ⟨v7, hv7, h⟩ := xbd_some h
        refine xv_iald kd_39 (xl hF rfl) hv7 dX7_leastLeft_32 ?_
        refine ev_aload_n 1 dX7_leastLeft_33 rfl rfl ?_
        refine ev_iload_n 0 dX7_leastLeft_34 rfl rfl ?_
        obtain ⟨q8, hq8, h⟩ := xbd_some h
        refine ev_callV (ci := 7) (rest := [.int v7, .int x1]) 1 (kX7_send (E := E) (d := 3) (QQ := (fun v τ n' => v = some (.int q8.1) ∧ τ = xσ q8.2 R ∧ n = n')) (Nat.le_refl _) hF hq8 (⟨rfl, rfl, rfl⟩)) my_X7_send ⟨m_936, m_938, m_26⟩ cl_7 kd_35 (xl hF rfl) rfl rfl (Nat.le_of_ble_eq_true rfl) (Nat.le_trans (by decide) hd) (xlo (by decide) (Nat.le_trans (by decide) hd)) (Nat.zero_le _) (Nat.zero_le _) dX7_leastLeft_35 (fun v τ n' hv => ?_)
        obtain ⟨rfl, rfl, rfl⟩ := hv
        show Ev E (xcm E d 0 0 QQ) Y_X7_leastLeft 38 [(3, .int q6), (0, .ref (E.2.2.2 + iC_striking)), (1, .int x1), (2, .int x2)] [.int q8.1, .int v7, .int x1] (xσ q8.2 R) n 0 0
        refine ev_imul dX7_leastLeft_38 ?_
        refine ev_iadd dX7_leastLeft_39 ?_
        obtain ⟨x9, hx9, h⟩ := xlt_some h
        refine xv_istore_n (L' := [(1, .int x9), (3, .int q6), (0, .ref (E.2.2.2 + iC_striking)), (2, .int x2)]) hx9 dX7_leastLeft_40 rfl (Nat.le_of_ble_eq_true rfl) rfl ?_
        obtain ⟨x10, hx10, h⟩ := xlt_some h
        refine ev_iinc (L' := [(2, .int x10), (1, .int x9), (3, .int q6), (0, .ref (E.2.2.2 + iC_striking))]) 3 dX7_leastLeft_41 rfl ((by rfl : x2 + Int32.ofInt 1 = x2 + 1).trans hx10) (Nat.le_of_ble_eq_true rfl) rfl ?_
        refine ev_goto (tgt := 4) dX7_leastLeft_44 (by decide) ?_
        cases h
        replace hk := xel_l hk
        exact ev_sub [3, 1, 0] rfl (hk)
      · replace h := xif_t c21 h
        refine ev_iload_n 2 dX7_leastLeft_24 rfl rfl ?_
        cases h
        replace hk := xel_r hk
        replace hk := xel_r hk
        exact ev_iret rfl (hk) dX7_leastLeft_25 (Nat.zero_le _) (Nat.zero_le _)
  · rcases q11 with q12 | q13
    · replace h := xsm_l h
      show Ev E (xcm E d 0 0 QQ) Y_X7_leastLeft 47 [(1, .int q12.1)] [] (xσ q12.2 R) n 0 0
      refine ev_iload_n 0 dX7_leastLeft_47 rfl rfl ?_
      cases h
      exact ev_iret rfl (hQ) dX7_leastLeft_48 (Nat.zero_le _) (Nat.zero_le _)
    · replace h := xsm_r h
      cases h
      exact hQ
def fX11_chain (p0 : Int32) (p1 : Int32) (p2 : Int32) (p3 : Int32) (μ : xm) (R : xr) : Option (Int32 × xm) := xbd (fX11_isCase p0 p1 p2 μ R) fun q1 => if q1 = 0 then (some ((-1), μ)) else (xbd (fX11_followChain p0 p1 p2 μ R) fun q2 => xbd (q2.1) fun a3 => if p3 = 0 then (xbd (fX3_payers q2.2) fun q7 => some (q7, q2.2)) else (xbd (fX11_within p3 10 19) fun q4 => if q4 = 0 then (if 20 ≤ p3 then (xbd (fX3_paidAt (p3 - 20) q2.2) fun q5 => some (q5, q2.2)) else (some ((-1), q2.2))) else (xbd (fX3_payerAt (p3 - 10) q2.2) fun q6 => some (q6, q2.2))))
set_option maxHeartbeats 4000000 in
set_option maxRecDepth 100000 in
theorem kX11_chain {E : xE} {d : Nat} {QQ : xP} (hd : 6 ≤ d) {p0 : Int32} {p1 : Int32} {p2 : Int32} {p3 : Int32} {μ : xm} {R : xr} {n : Nat} (hF : xFin R n)  {res : Int32 × xm} (h : fX11_chain p0 p1 p2 p3 μ R = some res) (hQ : QQ (some (.int res.1)) (xσ res.2 R) n) : xCon E d Y_X11_chain 0 0 [.ref (E.2.2.2 + iC), .int p0, .int p1, .int p2, .int p3] (xσ μ R) n QQ := by
  refine xCon_of pn_RX11 (Nat.le_of_ble_eq_true rfl) (L0 := [(0, .ref (E.2.2.2 + iC)), (1, .int p0), (2, .int p1), (3, .int p2), (4, .int p3)]) rfl ?_
  unfold fX11_chain at h
  refine ev_aload_n 0 dX11_chain_0 rfl rfl ?_
  refine ev_iload_n 1 dX11_chain_1 rfl rfl ?_
  refine ev_iload_n 2 dX11_chain_2 rfl rfl ?_
  refine ev_iload_n 3 dX11_chain_3 rfl rfl ?_
  obtain ⟨q1, hq1, h⟩ := xbd_some h
  refine ev_callV (ci := 11) (rest := []) 3 (kX11_isCase (E := E) (d := 2) (QQ := (fun v τ n' => v = some (.int q1) ∧ τ = xσ μ R ∧ n = n')) (Nat.le_refl _) hF hq1 (⟨rfl, rfl, rfl⟩)) my_X11_isCase ⟨m_671, m_673, m_10⟩ cl_11 kd_0 (xl hF rfl) rfl rfl (Nat.le_of_ble_eq_true rfl) (Nat.le_trans (by decide) hd) (xlo (by decide) (Nat.le_trans (by decide) hd)) (Nat.zero_le _) (Nat.zero_le _) dX11_chain_4 (fun v τ n' hv => ?_)
  obtain ⟨rfl, rfl, rfl⟩ := hv
  show Ev E (xcm E d 0 0 QQ) Y_X11_chain 7 [(0, .ref (E.2.2.2 + iC)), (1, .int p0), (2, .int p1), (3, .int p2), (4, .int p3)] [.int q1] (xσ μ R) n 0 0
  refine ev_if_ne (tgt := 12) dX11_chain_7 (by decide) (fun c7 => ?_) (fun c7 => ?_)
  · replace h := xif_f c7 h
    refine ev_aload_n 0 dX11_chain_12 rfl rfl ?_
    refine ev_iload_n 1 dX11_chain_13 rfl rfl ?_
    refine ev_iload_n 2 dX11_chain_14 rfl rfl ?_
    refine ev_iload_n 3 dX11_chain_15 rfl rfl ?_
    obtain ⟨q2, hq2, h⟩ := xbd_some h
    refine ev_callV (ci := 11) (rest := []) 3 (kX11_followChain (E := E) (d := 5) (QQ := (fun v τ n' => v = some (xrf E.2.2.2 q2.1) ∧ τ = xσ q2.2 R ∧ n = n' ∧ (∀ a, q2.1 = some a → xIsA 1 a n))) (Nat.le_refl _) hF hq2 (fun z0 => ⟨rfl, rfl, rfl, z0⟩)) my_X11_followChain ⟨m_743, m_745, m_16⟩ cl_11 kd_0 (xl hF rfl) rfl rfl (Nat.le_of_ble_eq_true rfl) (Nat.le_trans (by decide) hd) (xlo (by decide) (Nat.le_trans (by decide) hd)) (Nat.zero_le _) (Nat.zero_le _) dX11_chain_16 (fun v τ n' hv => ?_)
    obtain ⟨rfl, rfl, rfl, hvq2⟩ := hv
    show Ev E (xcm E d 0 0 QQ) Y_X11_chain 19 [(0, .ref (E.2.2.2 + iC)), (1, .int p0), (2, .int p1), (3, .int p2), (4, .int p3)] [xrf E.2.2.2 q2.1] (xσ q2.2 R) n 0 0
    obtain ⟨a3, ha3, h⟩ := xbd_some h
    refine xv_nn ha3 ?_
    replace ha3 := hvq2 _ ha3
    refine ev_pop dX11_chain_19 rfl ?_
    refine ev_iload 4 dX11_chain_20 rfl ?_
    refine ev_if_ne (tgt := 33) dX11_chain_22 (by decide) (fun c22 => ?_) (fun c22 => ?_)
    · replace h := xif_f c22 h
      refine ev_iload 4 dX11_chain_33 rfl ?_
      refine ev_bipush (v := 10) dX11_chain_35 (by decide) ?_
      refine ev_bipush (v := 19) dX11_chain_37 (by decide) ?_
      obtain ⟨q4, hq4, h⟩ := xbd_some h
      refine ev_callS (As := [.int p3, .int 10, .int 19]) (rest := []) 3 (kX11_within (E := E) (d := 0) (QQ := (fun v τ n' => v = some (.int q4) ∧ τ = xσ q2.2 R ∧ n = n')) (Nat.le_refl _)  hq4 (⟨rfl, rfl, rfl⟩)) my_X11_within ⟨m_424, m_425⟩ rfl rfl (Nat.le_of_ble_eq_true rfl) (Nat.le_trans (by decide) hd) (xlo (by decide) (Nat.le_trans (by decide) hd)) (Nat.zero_le _) (Nat.zero_le _) dX11_chain_39 (fun v τ n' hv => ?_)
      obtain ⟨rfl, rfl, rfl⟩ := hv
      show Ev E (xcm E d 0 0 QQ) Y_X11_chain 42 [(0, .ref (E.2.2.2 + iC)), (1, .int p0), (2, .int p1), (3, .int p2), (4, .int p3)] [.int q4] (xσ q2.2 R) n 0 0
      refine ev_if_eq (tgt := 58) dX11_chain_42 (by decide) (fun c42 => ?_) (fun c42 => ?_)
      · replace h := xif_t c42 h
        refine ev_iload 4 dX11_chain_58 rfl ?_
        refine ev_bipush (v := 20) dX11_chain_60 (by decide) ?_
        refine ev_icmp_ge (tgt := 69) dX11_chain_62 (by decide) (fun c62 => ?_) (fun c62 => ?_)
        · replace h := xif_t c62 h
          refine ev_aload_n 0 dX11_chain_69 rfl rfl ?_
          refine xv_getF (a := iC_meetings) cl_11 lk_RX11_35 kd_0 (xl hF rfl) (fun _ => rfl) (fr_0_3 hF) dX11_chain_70 ?_
          refine ev_iload 4 dX11_chain_73 rfl ?_
          refine ev_bipush (v := 20) dX11_chain_75 (by decide) ?_
          refine ev_isub dX11_chain_77 ?_
          obtain ⟨q5, hq5, h⟩ := xbd_some h
          refine ev_callV (ci := 3) (rest := []) 1 (kX3_paidAt (E := E) (d := 0) (QQ := (fun v τ n' => v = some (.int q5) ∧ τ = xσ q2.2 R ∧ n = n')) (Nat.le_refl _) hF hq5 (⟨rfl, rfl, rfl⟩)) my_X3_paidAt ⟨m_760, m_761, m_762⟩ cl_3 kd_23 (xl hF rfl) rfl rfl (Nat.le_of_ble_eq_true rfl) (Nat.le_trans (by decide) hd) (xlo (by decide) (Nat.le_trans (by decide) hd)) (Nat.zero_le _) (Nat.zero_le _) dX11_chain_78 (fun v τ n' hv => ?_)
          obtain ⟨rfl, rfl, rfl⟩ := hv
          show Ev E (xcm E d 0 0 QQ) Y_X11_chain 81 [(0, .ref (E.2.2.2 + iC)), (1, .int p0), (2, .int p1), (3, .int p2), (4, .int p3)] [.int q5] (xσ q2.2 R) n 0 0
          cases h
          exact ev_iret rfl (hQ) dX11_chain_81 (Nat.zero_le _) (Nat.zero_le _)
        · replace h := xif_f c62 h
          refine ev_iconst (v := (-1)) dX11_chain_65 (by decide) ?_
          refine ev_goto (tgt := 81) dX11_chain_66 (by decide) ?_
          cases h
          exact ev_iret rfl (hQ) dX11_chain_81 (Nat.zero_le _) (Nat.zero_le _)
      · replace h := xif_f c42 h
        refine ev_aload_n 0 dX11_chain_45 rfl rfl ?_
        refine xv_getF (a := iC_meetings) cl_11 lk_RX11_35 kd_0 (xl hF rfl) (fun _ => rfl) (fr_0_3 hF) dX11_chain_46 ?_
        refine ev_iload 4 dX11_chain_49 rfl ?_
        refine ev_bipush (v := 10) dX11_chain_51 (by decide) ?_
        refine ev_isub dX11_chain_53 ?_
        obtain ⟨q6, hq6, h⟩ := xbd_some h
        refine ev_callV (ci := 3) (rest := []) 1 (kX3_payerAt (E := E) (d := 0) (QQ := (fun v τ n' => v = some (.int q6) ∧ τ = xσ q2.2 R ∧ n = n')) (Nat.le_refl _) hF hq6 (⟨rfl, rfl, rfl⟩)) my_X3_payerAt ⟨m_756, m_757, m_758⟩ cl_3 kd_23 (xl hF rfl) rfl rfl (Nat.le_of_ble_eq_true rfl) (Nat.le_trans (by decide) hd) (xlo (by decide) (Nat.le_trans (by decide) hd)) (Nat.zero_le _) (Nat.zero_le _) dX11_chain_54 (fun v τ n' hv => ?_)
        obtain ⟨rfl, rfl, rfl⟩ := hv
        show Ev E (xcm E d 0 0 QQ) Y_X11_chain 57 [(0, .ref (E.2.2.2 + iC)), (1, .int p0), (2, .int p1), (3, .int p2), (4, .int p3)] [.int q6] (xσ q2.2 R) n 0 0
        cases h
        exact ev_iret rfl (hQ) dX11_chain_57 (Nat.zero_le _) (Nat.zero_le _)
    · replace h := xif_t c22 h
      refine ev_aload_n 0 dX11_chain_25 rfl rfl ?_
      refine xv_getF (a := iC_meetings) cl_11 lk_RX11_35 kd_0 (xl hF rfl) (fun _ => rfl) (fr_0_3 hF) dX11_chain_26 ?_
      obtain ⟨q7, hq7, h⟩ := xbd_some h
      refine ev_callV (ci := 3) (rest := []) 0 (kX3_payers (E := E) (d := 0) (QQ := (fun v τ n' => v = some (.int q7) ∧ τ = xσ q2.2 R ∧ n = n')) (Nat.le_refl _) hF hq7 (⟨rfl, rfl, rfl⟩)) my_X3_payers ⟨m_752, m_753, m_754⟩ cl_3 kd_23 (xl hF rfl) rfl rfl (Nat.le_of_ble_eq_true rfl) (Nat.le_trans (by decide) hd) (xlo (by decide) (Nat.le_trans (by decide) hd)) (Nat.zero_le _) (Nat.zero_le _) dX11_chain_29 (fun v τ n' hv => ?_)
      obtain ⟨rfl, rfl, rfl⟩ := hv
      show Ev E (xcm E d 0 0 QQ) Y_X11_chain 32 [(0, .ref (E.2.2.2 + iC)), (1, .int p0), (2, .int p1), (3, .int p2), (4, .int p3)] [.int q7] (xσ q2.2 R) n 0 0
      cases h
      exact ev_iret rfl (hQ) dX11_chain_32 (Nat.zero_le _) (Nat.zero_le _)
  · replace h := xif_t c7 h
    refine ev_iconst (v := (-1)) dX11_chain_10 (by decide) ?_
    cases h
    exact ev_iret rfl (hQ) dX11_chain_11 (Nat.zero_le _) (Nat.zero_le _)
def fX11_outTwo_b93 (x9 : Int32) (x10 : Int64) (x11 : Int32) (p2 : Int32) (p3 : Int32) (p4 : Int32) (μ : xm) (a3 : Nat) (a4 : Nat) : Option ((Int32 × Int64 × Int32) ⊕ (Int32)) := if 600 < x11 then (some (.inr x9)) else (xbd (fX10_costOfRow a3 a4 p2 p3 x11 p4 μ) fun q13 => if 0 ≤ (lg_cmp q13 x10) then (xlt (x11 + 1) fun x14 => some (.inl (x9, x10, x14))) else (xlt (x11 + 1) fun x15 => some (.inl (x11, q13, x15))))
def fX11_outTwo (p0 : Int32) (p1 : Int32) (p2 : Int32) (p3 : Int32) (p4 : Int32) (μ : xm) (R : xr) : Option (Int32) := xbd (fX3_find p0 μ R) fun q1 => xbd (fX3_find p1 μ R) fun q2 => xop q1 (some (-1)) (fun a3 => xop q2 (some (-1)) (fun a4 => xbd (fX11_inRow a3 a4 p2 μ) fun q5 => if q5 = 0 then (some (-1)) else (xbd (fX11_within p3 0 600) fun q6 => if q6 = 0 then (some (-1)) else (xbd (fX11_within p4 0 99) fun q7 => if q7 = 0 then (some (-1)) else (xbd (fX10_costOfRow a3 a4 p2 p3 0 p4 μ) fun q8 => xbd (xloop xfu (fun v => fX11_outTwo_b93 v.1 v.2.1 v.2.2 p2 p3 p4 μ a3 a4) (0, q8, 1)) fun q16 => some q16)))))
set_option maxHeartbeats 4000000 in
set_option maxRecDepth 100000 in
theorem kX11_outTwo {E : xE} {d : Nat} {QQ : xP} (hd : 6 ≤ d) {p0 : Int32} {p1 : Int32} {p2 : Int32} {p3 : Int32} {p4 : Int32} {μ : xm} {R : xr} {n : Nat} (hF : xFin R n)  {res : Int32} (h : fX11_outTwo p0 p1 p2 p3 p4 μ R = some res) (hQ : QQ (some (.int res)) (xσ μ R) n) : xCon E d Y_X11_outTwo 0 0 [.ref (E.2.2.2 + iC), .int p0, .int p1, .int p2, .int p3, .int p4] (xσ μ R) n QQ := by
  refine xCon_of pn_RX11 (Nat.le_of_ble_eq_true rfl) (L0 := [(0, .ref (E.2.2.2 + iC)), (1, .int p0), (2, .int p1), (3, .int p2), (4, .int p3), (5, .int p4)]) rfl ?_
  unfold fX11_outTwo at h
  refine ev_aload_n 0 dX11_outTwo_0 rfl rfl ?_
  refine xv_getF (a := iC_meetings) cl_11 lk_RX11_35 kd_0 (xl hF rfl) (fun _ => rfl) (fr_0_3 hF) dX11_outTwo_1 ?_
  refine ev_iload_n 1 dX11_outTwo_4 rfl rfl ?_
  obtain ⟨q1, hq1, h⟩ := xbd_some h
  refine ev_callV (ci := 3) (rest := []) 1 (kX3_find (E := E) (d := 0) (QQ := (fun v τ n' => v = some (xrf E.2.2.2 q1) ∧ τ = xσ μ R ∧ n = n' ∧ (∀ a, q1 = some a → xIs 2 a n))) (Nat.le_refl _) hF hq1 (fun z0 => ⟨rfl, rfl, rfl, z0⟩)) my_X3_find ⟨m_491, m_492, m_493⟩ cl_3 kd_23 (xl hF rfl) rfl rfl (Nat.le_of_ble_eq_true rfl) (Nat.le_trans (by decide) hd) (xlo (by decide) (Nat.le_trans (by decide) hd)) (Nat.zero_le _) (Nat.zero_le _) dX11_outTwo_5 (fun v τ n' hv => ?_)
  obtain ⟨rfl, rfl, rfl, hvq1⟩ := hv
  show Ev E (xcm E d 0 0 QQ) Y_X11_outTwo 8 [(0, .ref (E.2.2.2 + iC)), (1, .int p0), (2, .int p1), (3, .int p2), (4, .int p3), (5, .int p4)] [xrf E.2.2.2 q1] (xσ μ R) n 0 0
  refine xv_astore (r := q1) (L' := [(6, xrf E.2.2.2 q1), (0, .ref (E.2.2.2 + iC)), (1, .int p0), (2, .int p1), (3, .int p2), (4, .int p3), (5, .int p4)]) dX11_outTwo_8 (Nat.le_of_ble_eq_true rfl) rfl ?_
  refine ev_aload_n 1 dX11_outTwo_10 rfl rfl ?_
  refine xv_getF (a := iC_meetings) cl_11 lk_RX11_35 kd_0 (xl hF rfl) (fun _ => rfl) (fr_0_3 hF) dX11_outTwo_11 ?_
  refine ev_iload_n 3 dX11_outTwo_14 rfl rfl ?_
  obtain ⟨q2, hq2, h⟩ := xbd_some h
  refine ev_callV (ci := 3) (rest := []) 1 (kX3_find (E := E) (d := 0) (QQ := (fun v τ n' => v = some (xrf E.2.2.2 q2) ∧ τ = xσ μ R ∧ n = n' ∧ (∀ a, q2 = some a → xIs 2 a n))) (Nat.le_refl _) hF hq2 (fun z0 => ⟨rfl, rfl, rfl, z0⟩)) my_X3_find ⟨m_491, m_492, m_493⟩ cl_3 kd_23 (xl hF rfl) rfl rfl (Nat.le_of_ble_eq_true rfl) (Nat.le_trans (by decide) hd) (xlo (by decide) (Nat.le_trans (by decide) hd)) (Nat.zero_le _) (Nat.zero_le _) dX11_outTwo_15 (fun v τ n' hv => ?_)
  obtain ⟨rfl, rfl, rfl, hvq2⟩ := hv
  show Ev E (xcm E d 0 0 QQ) Y_X11_outTwo 18 [(6, xrf E.2.2.2 q1), (0, .ref (E.2.2.2 + iC)), (1, .int p0), (2, .int p1), (3, .int p2), (4, .int p3), (5, .int p4)] [xrf E.2.2.2 q2] (xσ μ R) n 0 0
  refine xv_astore (r := q2) (L' := [(7, xrf E.2.2.2 q2), (6, xrf E.2.2.2 q1), (0, .ref (E.2.2.2 + iC)), (1, .int p0), (2, .int p1), (3, .int p2), (4, .int p3), (5, .int p4)]) dX11_outTwo_18 (Nat.le_of_ble_eq_true rfl) (by simp [xrf_cat]) ?_
  refine xv_aload (r := q1) 1 dX11_outTwo_20 rfl ?_
  refine ev_ifnull (r := q1) (tgt := 41) dX11_outTwo_22 (by decide) (fun hr => ?_) (fun a3 hr => ?_)
  · subst hr
    replace h := xop_n h
    refine ev_iconst (v := (-1)) dX11_outTwo_41 (by decide) ?_
    cases h
    exact ev_iret rfl (hQ) dX11_outTwo_42 (Nat.zero_le _) (Nat.zero_le _)
  · subst hr
    replace h := xop_s h
    have ha3 := hvq1 a3 rfl
    refine xv_aload (r := q2) 0 dX11_outTwo_25 rfl ?_
    refine ev_ifnull (r := q2) (tgt := 41) dX11_outTwo_27 (by decide) (fun hr => ?_) (fun a4 hr => ?_)
    · subst hr
      replace h := xop_n h
      refine ev_iconst (v := (-1)) dX11_outTwo_41 (by decide) ?_
      cases h
      exact ev_iret rfl (hQ) dX11_outTwo_42 (Nat.zero_le _) (Nat.zero_le _)
    · subst hr
      replace h := xop_s h
      have ha4 := hvq2 a4 rfl
      refine ev_aload 1 dX11_outTwo_30 rfl ?_
      refine ev_aload 0 dX11_outTwo_32 rfl ?_
      refine ev_iload_n 5 dX11_outTwo_34 rfl rfl ?_
      obtain ⟨q5, hq5, h⟩ := xbd_some h
      refine ev_callS (As := [.ref (E.2.2.2 + a3), .ref (E.2.2.2 + a4), .int p2]) (rest := []) 3 (kX11_inRow (E := E) (d := 1) (QQ := (fun v τ n' => v = some (.int q5) ∧ τ = xσ μ R ∧ n = n')) (Nat.le_refl _) hF ha3 ha4 hq5 (⟨rfl, rfl, rfl⟩)) my_X11_inRow ⟨m_1073, m_1074⟩ rfl rfl (Nat.le_of_ble_eq_true rfl) (Nat.le_trans (by decide) hd) (xlo (by decide) (Nat.le_trans (by decide) hd)) (Nat.zero_le _) (Nat.zero_le _) dX11_outTwo_35 (fun v τ n' hv => ?_)
      obtain ⟨rfl, rfl, rfl⟩ := hv
      show Ev E (xcm E d 0 0 QQ) Y_X11_outTwo 38 [(7, .ref (E.2.2.2 + a4)), (6, .ref (E.2.2.2 + a3)), (0, .ref (E.2.2.2 + iC)), (1, .int p0), (2, .int p1), (3, .int p2), (4, .int p3), (5, .int p4)] [.int q5] (xσ μ R) n 0 0
      refine ev_if_ne (tgt := 43) dX11_outTwo_38 (by decide) (fun c38 => ?_) (fun c38 => ?_)
      · replace h := xif_f c38 h
        refine ev_iload 6 dX11_outTwo_43 rfl ?_
        refine ev_iconst (v := 0) dX11_outTwo_45 (by decide) ?_
        refine ev_sipush (v := 600) dX11_outTwo_46 (by decide) ?_
        obtain ⟨q6, hq6, h⟩ := xbd_some h
        refine ev_callS (As := [.int p3, .int 0, .int 600]) (rest := []) 3 (kX11_within (E := E) (d := 0) (QQ := (fun v τ n' => v = some (.int q6) ∧ τ = xσ μ R ∧ n = n')) (Nat.le_refl _)  hq6 (⟨rfl, rfl, rfl⟩)) my_X11_within ⟨m_424, m_425⟩ rfl rfl (Nat.le_of_ble_eq_true rfl) (Nat.le_trans (by decide) hd) (xlo (by decide) (Nat.le_trans (by decide) hd)) (Nat.zero_le _) (Nat.zero_le _) dX11_outTwo_49 (fun v τ n' hv => ?_)
        obtain ⟨rfl, rfl, rfl⟩ := hv
        show Ev E (xcm E d 0 0 QQ) Y_X11_outTwo 52 [(7, .ref (E.2.2.2 + a4)), (6, .ref (E.2.2.2 + a3)), (0, .ref (E.2.2.2 + iC)), (1, .int p0), (2, .int p1), (3, .int p2), (4, .int p3), (5, .int p4)] [.int q6] (xσ μ R) n 0 0
        refine ev_if_eq (tgt := 66) dX11_outTwo_52 (by decide) (fun c52 => ?_) (fun c52 => ?_)
        · replace h := xif_t c52 h
          refine ev_iconst (v := (-1)) dX11_outTwo_66 (by decide) ?_
          cases h
          exact ev_iret rfl (hQ) dX11_outTwo_67 (Nat.zero_le _) (Nat.zero_le _)
        · replace h := xif_f c52 h
          refine ev_iload 7 dX11_outTwo_55 rfl ?_
          refine ev_iconst (v := 0) dX11_outTwo_57 (by decide) ?_
          refine ev_bipush (v := 99) dX11_outTwo_58 (by decide) ?_
          obtain ⟨q7, hq7, h⟩ := xbd_some h
          refine ev_callS (As := [.int p4, .int 0, .int 99]) (rest := []) 3 (kX11_within (E := E) (d := 0) (QQ := (fun v τ n' => v = some (.int q7) ∧ τ = xσ μ R ∧ n = n')) (Nat.le_refl _)  hq7 (⟨rfl, rfl, rfl⟩)) my_X11_within ⟨m_424, m_425⟩ rfl rfl (Nat.le_of_ble_eq_true rfl) (Nat.le_trans (by decide) hd) (xlo (by decide) (Nat.le_trans (by decide) hd)) (Nat.zero_le _) (Nat.zero_le _) dX11_outTwo_60 (fun v τ n' hv => ?_)
          obtain ⟨rfl, rfl, rfl⟩ := hv
          show Ev E (xcm E d 0 0 QQ) Y_X11_outTwo 63 [(7, .ref (E.2.2.2 + a4)), (6, .ref (E.2.2.2 + a3)), (0, .ref (E.2.2.2 + iC)), (1, .int p0), (2, .int p1), (3, .int p2), (4, .int p3), (5, .int p4)] [.int q7] (xσ μ R) n 0 0
          refine ev_if_ne (tgt := 68) dX11_outTwo_63 (by decide) (fun c63 => ?_) (fun c63 => ?_)
          · replace h := xif_f c63 h
            refine ev_iconst (v := 0) dX11_outTwo_68 (by decide) ?_
            refine xv_istore (L' := [(8, .int 0), (7, .ref (E.2.2.2 + a4)), (6, .ref (E.2.2.2 + a3)), (0, .ref (E.2.2.2 + iC)), (1, .int p0), (2, .int p1), (3, .int p2), (4, .int p3), (5, .int p4)]) rfl dX11_outTwo_69 (Nat.le_of_ble_eq_true rfl) rfl ?_
            refine ev_aload_n 3 dX11_outTwo_71 rfl rfl ?_
            refine xv_getF (a := iC_ways) cl_11 lk_RX11_56 kd_0 (xl hF rfl) (fun _ => rfl) (fr_0_6 hF) dX11_outTwo_72 ?_
            refine ev_aload 2 dX11_outTwo_75 rfl ?_
            refine ev_aload 1 dX11_outTwo_77 rfl ?_
            refine ev_iload_n 6 dX11_outTwo_79 rfl rfl ?_
            refine ev_iload 7 dX11_outTwo_80 rfl ?_
            refine ev_iconst (v := 0) dX11_outTwo_82 (by decide) ?_
            refine ev_iload 8 dX11_outTwo_83 rfl ?_
            obtain ⟨q8, hq8, h⟩ := xbd_some h
            refine ev_callV (ci := 10) (rest := []) 6 (kX10_costOfRow (E := E) (d := 5) (QQ := (fun v τ n' => v = some (.long q8) ∧ τ = xσ μ R ∧ n = n')) (Nat.le_refl _) hF ha3 ha4 hq8 (⟨rfl, rfl, rfl⟩)) my_X10_costOfRow ⟨m_1076, m_1077, m_1078⟩ cl_10 kd_42 (xl hF rfl) rfl rfl (Nat.le_of_ble_eq_true rfl) (Nat.le_trans (by decide) hd) (xlo (by decide) (Nat.le_trans (by decide) hd)) (Nat.zero_le _) (Nat.zero_le _) dX11_outTwo_85 (fun v τ n' hv => ?_)
            obtain ⟨rfl, rfl, rfl⟩ := hv
            show Ev E (xcm E d 0 0 QQ) Y_X11_outTwo 88 [(8, .int 0), (7, .ref (E.2.2.2 + a4)), (6, .ref (E.2.2.2 + a3)), (0, .ref (E.2.2.2 + iC)), (1, .int p0), (2, .int p1), (3, .int p2), (4, .int p3), (5, .int p4)] [.long q8] (xσ μ R) n 0 0
            refine xv_lstore (L' := [(9, .long q8), (8, .int 0), (7, .ref (E.2.2.2 + a4)), (6, .ref (E.2.2.2 + a3)), (0, .ref (E.2.2.2 + iC)), (1, .int p0), (2, .int p1), (3, .int p2), (4, .int p3), (5, .int p4)]) rfl dX11_outTwo_88 (Nat.le_of_ble_eq_true rfl) rfl ?_
            refine ev_iconst (v := 1) dX11_outTwo_90 (by decide) ?_
            refine xv_istore (L' := [(11, .int 1), (9, .long q8), (8, .int 0), (7, .ref (E.2.2.2 + a4)), (6, .ref (E.2.2.2 + a3)), (0, .ref (E.2.2.2 + iC)), (1, .int p0), (2, .int p1), (3, .int p2), (4, .int p3), (5, .int p4)]) rfl dX11_outTwo_91 (Nat.le_of_ble_eq_true rfl) rfl ?_
            obtain ⟨q16, hq16, h⟩ := xbd_some h
            refine ev_sub (L' := [(0, .ref (E.2.2.2 + iC)), (3, .int p2), (4, .int p3), (5, .int p4), (6, .ref (E.2.2.2 + a3)), (7, .ref (E.2.2.2 + a4)), (8, .int 0), (9, .long q8), (11, .int 1)]) [5, 8, 9, 10, 4, 3, 2, 1, 0] rfl ?_
            refine xloop_run (fun v => Ev E (xcm E d 0 0 QQ) Y_X11_outTwo 93 [(0, .ref (E.2.2.2 + iC)), (3, .int p2), (4, .int p3), (5, .int p4), (6, .ref (E.2.2.2 + a3)), (7, .ref (E.2.2.2 + a4)), (8, .int v.1), (9, .long v.2.1), (11, .int v.2.2)] [] (xσ μ R) n 0 0) (fun v => Ev E (xcm E d 0 0 QQ) Y_X11_outTwo 143 [(8, .int v)] [] (xσ μ R) n 0 0) ?_ _ _ _ hq16 ?_
            · rintro ⟨x9, x10, x11⟩ y12 h hk
              replace h : fX11_outTwo_b93 x9 x10 x11 p2 p3 p4 μ a3 a4 = some y12 := h
              show Ev E (xcm E d 0 0 QQ) Y_X11_outTwo 93 [(0, .ref (E.2.2.2 + iC)), (3, .int p2), (4, .int p3), (5, .int p4), (6, .ref (E.2.2.2 + a3)), (7, .ref (E.2.2.2 + a4)), (8, .int x9), (9, .long x10), (11, .int x11)] [] (xσ μ R) n 0 0
              unfold fX11_outTwo_b93 at h
              refine ev_iload 8 dX11_outTwo_93 rfl ?_
              refine ev_sipush (v := 600) dX11_outTwo_95 (by decide) ?_
              refine ev_icmp_gt (tgt := 143) dX11_outTwo_98 (by decide) (fun c98 => ?_) (fun c98 => ?_)
              · replace h := xif_t c98 h
                cases h
                replace hk := xel_r hk
                exact ev_sub [6] rfl (hk)
              · replace h := xif_f c98 h
                refine ev_aload_n 0 dX11_outTwo_101 rfl rfl ?_
                refine xv_getF (a := iC_ways) cl_11 lk_RX11_56 kd_0 (xl hF rfl) (fun _ => rfl) (fr_0_6 hF) dX11_outTwo_102 ?_
                refine ev_aload 4 dX11_outTwo_105 rfl ?_
                refine ev_aload 5 dX11_outTwo_107 rfl ?_
                refine ev_iload_n 1 dX11_outTwo_109 rfl rfl ?_
                refine ev_iload 2 dX11_outTwo_110 rfl ?_
                refine ev_iload 8 dX11_outTwo_112 rfl ?_
                refine ev_iload 3 dX11_outTwo_114 rfl ?_
                obtain ⟨q13, hq13, h⟩ := xbd_some h
                refine ev_callV (ci := 10) (rest := []) 6 (kX10_costOfRow (E := E) (d := 5) (QQ := (fun v τ n' => v = some (.long q13) ∧ τ = xσ μ R ∧ n = n')) (Nat.le_refl _) hF ha3 ha4 hq13 (⟨rfl, rfl, rfl⟩)) my_X10_costOfRow ⟨m_1076, m_1077, m_1078⟩ cl_10 kd_42 (xl hF rfl) rfl rfl (Nat.le_of_ble_eq_true rfl) (Nat.le_trans (by decide) hd) (xlo (by decide) (Nat.le_trans (by decide) hd)) (Nat.zero_le _) (Nat.zero_le _) dX11_outTwo_116 (fun v τ n' hv => ?_)
                obtain ⟨rfl, rfl, rfl⟩ := hv
                show Ev E (xcm E d 0 0 QQ) Y_X11_outTwo 119 [(0, .ref (E.2.2.2 + iC)), (3, .int p2), (4, .int p3), (5, .int p4), (6, .ref (E.2.2.2 + a3)), (7, .ref (E.2.2.2 + a4)), (8, .int x9), (9, .long x10), (11, .int x11)] [.long q13] (xσ μ R) n 0 0
                refine xv_lstore (L' := [(12, .long q13), (0, .ref (E.2.2.2 + iC)), (3, .int p2), (4, .int p3), (5, .int p4), (6, .ref (E.2.2.2 + a3)), (7, .ref (E.2.2.2 + a4)), (8, .int x9), (9, .long x10), (11, .int x11)]) rfl dX11_outTwo_119 (Nat.le_of_ble_eq_true rfl) rfl ?_
                refine ev_lload 0 dX11_outTwo_121 rfl ?_
                refine ev_lload 8 dX11_outTwo_123 rfl ?_
                refine ev_lcmp dX11_outTwo_125 ?_
                refine ev_if_ge (tgt := 137) dX11_outTwo_126 (by decide) (fun c126 => ?_) (fun c126 => ?_)
                · replace h := xif_t c126 h
                  obtain ⟨x14, hx14, h⟩ := xlt_some h
                  refine ev_iinc (L' := [(11, .int x14), (12, .long q13), (0, .ref (E.2.2.2 + iC)), (3, .int p2), (4, .int p3), (5, .int p4), (6, .ref (E.2.2.2 + a3)), (7, .ref (E.2.2.2 + a4)), (8, .int x9), (9, .long x10)]) 9 dX11_outTwo_137 rfl ((by rfl : x11 + Int32.ofInt 1 = x11 + 1).trans hx14) (Nat.le_of_ble_eq_true rfl) rfl ?_
                  refine ev_goto (tgt := 93) dX11_outTwo_140 (by decide) ?_
                  cases h
                  replace hk := xel_l hk
                  exact ev_sub [2, 3, 4, 5, 6, 7, 8, 9, 0] rfl (hk)
                · replace h := xif_f c126 h
                  refine ev_lload 0 dX11_outTwo_129 rfl ?_
                  refine xv_lstore (L' := [(9, .long q13), (12, .long q13), (0, .ref (E.2.2.2 + iC)), (3, .int p2), (4, .int p3), (5, .int p4), (6, .ref (E.2.2.2 + a3)), (7, .ref (E.2.2.2 + a4)), (8, .int x9), (11, .int x11)]) rfl dX11_outTwo_131 (Nat.le_of_ble_eq_true rfl) rfl ?_
                  refine ev_iload 9 dX11_outTwo_133 rfl ?_
                  refine xv_istore (L' := [(8, .int x11), (9, .long q13), (12, .long q13), (0, .ref (E.2.2.2 + iC)), (3, .int p2), (4, .int p3), (5, .int p4), (6, .ref (E.2.2.2 + a3)), (7, .ref (E.2.2.2 + a4)), (11, .int x11)]) rfl dX11_outTwo_135 (Nat.le_of_ble_eq_true rfl) rfl ?_
                  obtain ⟨x15, hx15, h⟩ := xlt_some h
                  refine ev_iinc (L' := [(11, .int x15), (8, .int x11), (9, .long q13), (12, .long q13), (0, .ref (E.2.2.2 + iC)), (3, .int p2), (4, .int p3), (5, .int p4), (6, .ref (E.2.2.2 + a3)), (7, .ref (E.2.2.2 + a4))]) 9 dX11_outTwo_137 rfl ((by rfl : x11 + Int32.ofInt 1 = x11 + 1).trans hx15) (Nat.le_of_ble_eq_true rfl) rfl ?_
                  refine ev_goto (tgt := 93) dX11_outTwo_140 (by decide) ?_
                  cases h
                  replace hk := xel_l hk
                  exact ev_sub [4, 5, 6, 7, 8, 9, 1, 2, 0] rfl (hk)
            · show Ev E (xcm E d 0 0 QQ) Y_X11_outTwo 143 [(8, .int q16)] [] (xσ μ R) n 0 0
              refine ev_iload 0 dX11_outTwo_143 rfl ?_
              cases h
              exact ev_iret rfl (hQ) dX11_outTwo_145 (Nat.zero_le _) (Nat.zero_le _)
          · replace h := xif_t c63 h
            refine ev_iconst (v := (-1)) dX11_outTwo_66 (by decide) ?_
            cases h
            exact ev_iret rfl (hQ) dX11_outTwo_67 (Nat.zero_le _) (Nat.zero_le _)
      · replace h := xif_t c38 h
        refine ev_iconst (v := (-1)) dX11_outTwo_41 (by decide) ?_
        cases h
        exact ev_iret rfl (hQ) dX11_outTwo_42 (Nat.zero_le _) (Nat.zero_le _)
def fX11_rest_j54 (p1 : Int32) (p2 : Int32) (μ : xm) (R : xr) (a2 : Nat) : Option (Int32 × xm × xr) := xbd (fX6_comeToRest a2 p1 μ R) fun q5 => if p2 = (-1) then (some (q5.1, q5.2.1, q5.2.2)) else (if q5.1 = (-2) then (some (q5.1, q5.2.1, q5.2.2)) else (xbd (fX6_aheadOf p2 q5.2.1) fun q6 => some (q6, q5.2.1, q5.2.2)))
def fX11_rest (p0 : Int32) (p1 : Int32) (p2 : Int32) (μ : xm) (R : xr) : Option (Int32 × xm × xr) := xbd (fX3_find p0 μ R) fun q1 => xop q1 (some ((-3), μ, R)) (fun a2 => xbd (fX11_within p1 0 99) fun q3 => if q3 = 0 then (some ((-3), μ, R)) else (xbd (fX2_many a2 μ) fun q4 => if q4 ≤ 4 then (if p2 = (-1) then (fX11_rest_j54 p1 p2 μ R a2) else (xbd (fX2_includes a2 p2 μ) fun q7 => if q7 = 0 then (some ((-3), μ, R)) else (fX11_rest_j54 p1 p2 μ R a2))) else (some ((-3), μ, R))))
set_option maxHeartbeats 4000000 in
set_option maxRecDepth 100000 in
theorem kX11_rest {E : xE} {d : Nat} {QQ : xP} (hd : 6 ≤ d) {p0 : Int32} {p1 : Int32} {p2 : Int32} {μ : xm} {R : xr} {n : Nat} (hF : xFin R n)  {res : Int32 × xm × xr} (h : fX11_rest p0 p1 p2 μ R = some res) (hQ : xFin res.2.2 n → QQ (some (.int res.1)) (xσ res.2.1 res.2.2) n) : xCon E d Y_X11_rest 0 0 [.ref (E.2.2.2 + iC), .int p0, .int p1, .int p2] (xσ μ R) n QQ := by
  refine xCon_of pn_RX11 (Nat.le_of_ble_eq_true rfl) (L0 := [(0, .ref (E.2.2.2 + iC)), (1, .int p0), (2, .int p1), (3, .int p2)]) rfl ?_
  unfold fX11_rest at h
  refine ev_aload_n 0 dX11_rest_0 rfl rfl ?_
  refine xv_getF (a := iC_meetings) cl_11 lk_RX11_35 kd_0 (xl hF rfl) (fun _ => rfl) (fr_0_3 hF) dX11_rest_1 ?_
  refine ev_iload_n 1 dX11_rest_4 rfl rfl ?_
  obtain ⟨q1, hq1, h⟩ := xbd_some h
  refine ev_callV (ci := 3) (rest := []) 1 (kX3_find (E := E) (d := 0) (QQ := (fun v τ n' => v = some (xrf E.2.2.2 q1) ∧ τ = xσ μ R ∧ n = n' ∧ (∀ a, q1 = some a → xIs 2 a n))) (Nat.le_refl _) hF hq1 (fun z0 => ⟨rfl, rfl, rfl, z0⟩)) my_X3_find ⟨m_491, m_492, m_493⟩ cl_3 kd_23 (xl hF rfl) rfl rfl (Nat.le_of_ble_eq_true rfl) (Nat.le_trans (by decide) hd) (xlo (by decide) (Nat.le_trans (by decide) hd)) (Nat.zero_le _) (Nat.zero_le _) dX11_rest_5 (fun v τ n' hv => ?_)
  obtain ⟨rfl, rfl, rfl, hvq1⟩ := hv
  show Ev E (xcm E d 0 0 QQ) Y_X11_rest 8 [(0, .ref (E.2.2.2 + iC)), (1, .int p0), (2, .int p1), (3, .int p2)] [xrf E.2.2.2 q1] (xσ μ R) n 0 0
  refine xv_astore (r := q1) (L' := [(4, xrf E.2.2.2 q1), (0, .ref (E.2.2.2 + iC)), (1, .int p0), (2, .int p1), (3, .int p2)]) dX11_rest_8 (Nat.le_of_ble_eq_true rfl) rfl ?_
  refine xv_aload (r := q1) 0 dX11_rest_10 rfl ?_
  refine ev_ifnull (r := q1) (tgt := 34) dX11_rest_12 (by decide) (fun hr => ?_) (fun a2 hr => ?_)
  · subst hr
    replace h := xop_n h
    refine ev_bipush (v := (-3)) dX11_rest_34 (by decide) ?_
    cases h
    exact ev_iret rfl (hQ hF) dX11_rest_36 (Nat.zero_le _) (Nat.zero_le _)
  · subst hr
    replace h := xop_s h
    have ha2 := hvq1 a2 rfl
    refine ev_iload_n 3 dX11_rest_15 rfl rfl ?_
    refine ev_iconst (v := 0) dX11_rest_16 (by decide) ?_
    refine ev_bipush (v := 99) dX11_rest_17 (by decide) ?_
    obtain ⟨q3, hq3, h⟩ := xbd_some h
    refine ev_callS (As := [.int p1, .int 0, .int 99]) (rest := []) 3 (kX11_within (E := E) (d := 0) (QQ := (fun v τ n' => v = some (.int q3) ∧ τ = xσ μ R ∧ n = n')) (Nat.le_refl _)  hq3 (⟨rfl, rfl, rfl⟩)) my_X11_within ⟨m_424, m_425⟩ rfl rfl (Nat.le_of_ble_eq_true rfl) (Nat.le_trans (by decide) hd) (xlo (by decide) (Nat.le_trans (by decide) hd)) (Nat.zero_le _) (Nat.zero_le _) dX11_rest_19 (fun v τ n' hv => ?_)
    obtain ⟨rfl, rfl, rfl⟩ := hv
    show Ev E (xcm E d 0 0 QQ) Y_X11_rest 22 [(4, .ref (E.2.2.2 + a2)), (0, .ref (E.2.2.2 + iC)), (1, .int p0), (2, .int p1), (3, .int p2)] [.int q3] (xσ μ R) n 0 0
    refine ev_if_eq (tgt := 34) dX11_rest_22 (by decide) (fun c22 => ?_) (fun c22 => ?_)
    · replace h := xif_t c22 h
      refine ev_bipush (v := (-3)) dX11_rest_34 (by decide) ?_
      cases h
      exact ev_iret rfl (hQ hF) dX11_rest_36 (Nat.zero_le _) (Nat.zero_le _)
    · replace h := xif_f c22 h
      refine ev_aload 0 dX11_rest_25 rfl ?_
      obtain ⟨q4, hq4, h⟩ := xbd_some h
      refine ev_callV (ci := 2) (rest := []) 0 (kX2_many (E := E) (d := 1) (QQ := (fun v τ n' => v = some (.int q4) ∧ τ = xσ μ R ∧ n = n')) (Nat.le_refl _) hF ha2 hq4 (⟨rfl, rfl, rfl⟩)) my_X2_many ⟨m_1092, m_685, m_686⟩ cl_2 (xIs2_kd ha2) (xIs2_lt ha2) rfl rfl (Nat.le_of_ble_eq_true rfl) (Nat.le_trans (by decide) hd) (xlo (by decide) (Nat.le_trans (by decide) hd)) (Nat.zero_le _) (Nat.zero_le _) dX11_rest_27 (fun v τ n' hv => ?_)
      obtain ⟨rfl, rfl, rfl⟩ := hv
      show Ev E (xcm E d 0 0 QQ) Y_X11_rest 30 [(4, .ref (E.2.2.2 + a2)), (0, .ref (E.2.2.2 + iC)), (1, .int p0), (2, .int p1), (3, .int p2)] [.int q4] (xσ μ R) n 0 0
      refine ev_iconst (v := 4) dX11_rest_30 (by decide) ?_
      refine ev_icmp_le (tgt := 37) dX11_rest_31 (by decide) (fun c31 => ?_) (fun c31 => ?_)
      · replace h := xif_t c31 h
        refine ev_iload_n 4 dX11_rest_37 rfl rfl ?_
        refine ev_iconst (v := (-1)) dX11_rest_38 (by decide) ?_
        have j54 : fX11_rest_j54 p1 p2 μ R a2 = some res → Ev E (xcm E d 0 0 QQ) Y_X11_rest 54 [(0, .ref (E.2.2.2 + iC)), (2, .int p1), (3, .int p2), (4, .ref (E.2.2.2 + a2))] [] (xσ μ R) n 0 0 := by
          intro h
          unfold fX11_rest_j54 at h
          refine ev_aload_n 0 dX11_rest_54 rfl rfl ?_
          refine xv_getF (a := iC_rest) cl_11 lk_RX11_65 kd_0 (xl hF rfl) (fun _ => rfl) (fr_0_7 hF) dX11_rest_55 ?_
          refine ev_aload 3 dX11_rest_58 rfl ?_
          refine ev_iload_n 1 dX11_rest_60 rfl rfl ?_
          obtain ⟨q5, hq5, h⟩ := xbd_some h
          refine ev_callV (ci := 6) (rest := []) 2 (kX6_comeToRest (E := E) (d := 5) (QQ := (fun v τ n' => v = some (.int q5.1) ∧ τ = xσ q5.2.1 q5.2.2 ∧ n = n' ∧ xFin q5.2.2 n)) (Nat.le_refl _) hF ha2 hq5 (fun z0 => ⟨rfl, rfl, rfl, z0⟩)) my_X6_comeToRest ⟨m_1093, m_1094, m_1095⟩ cl_6 kd_49 (xl hF rfl) rfl rfl (Nat.le_of_ble_eq_true rfl) (Nat.le_trans (by decide) hd) (xlo (by decide) (Nat.le_trans (by decide) hd)) (Nat.zero_le _) (Nat.zero_le _) dX11_rest_61 (fun v τ n' hv => ?_)
          obtain ⟨rfl, rfl, rfl, hF⟩ := hv
          show Ev E (xcm E d 0 0 QQ) Y_X11_rest 64 [(0, .ref (E.2.2.2 + iC)), (2, .int p1), (3, .int p2), (4, .ref (E.2.2.2 + a2))] [.int q5.1] (xσ q5.2.1 q5.2.2) n 0 0
          refine xv_istore (L' := [(5, .int q5.1), (0, .ref (E.2.2.2 + iC)), (2, .int p1), (3, .int p2), (4, .ref (E.2.2.2 + a2))]) rfl dX11_rest_64 (Nat.le_of_ble_eq_true rfl) rfl ?_
          refine ev_iload_n 3 dX11_rest_66 rfl rfl ?_
          refine ev_iconst (v := (-1)) dX11_rest_67 (by decide) ?_
          refine ev_icmp_eq (tgt := 78) dX11_rest_68 (by decide) (fun c68 => ?_) (fun c68 => ?_)
          · replace h := xif_t c68 h
            refine ev_iload 0 dX11_rest_78 rfl ?_
            refine ev_goto (tgt := 91) dX11_rest_80 (by decide) ?_
            cases h
            exact ev_iret rfl (hQ hF) dX11_rest_91 (Nat.zero_le _) (Nat.zero_le _)
          · replace h := xif_f c68 h
            refine ev_iload 0 dX11_rest_71 rfl ?_
            refine ev_bipush (v := (-2)) dX11_rest_73 (by decide) ?_
            refine ev_icmp_ne (tgt := 83) dX11_rest_75 (by decide) (fun c75 => ?_) (fun c75 => ?_)
            · replace h := xif_f c75 h
              refine ev_aload_n 1 dX11_rest_83 rfl rfl ?_
              refine xv_getF (a := iC_rest) cl_11 lk_RX11_65 kd_0 (xl hF rfl) (fun _ => rfl) (fr_0_7 hF) dX11_rest_84 ?_
              refine ev_iload_n 3 dX11_rest_87 rfl rfl ?_
              obtain ⟨q6, hq6, h⟩ := xbd_some h
              refine ev_callV (ci := 6) (rest := []) 1 (kX6_aheadOf (E := E) (d := 0) (QQ := (fun v τ n' => v = some (.int q6) ∧ τ = xσ q5.2.1 q5.2.2 ∧ n = n')) (Nat.le_refl _) hF hq6 (⟨rfl, rfl, rfl⟩)) my_X6_aheadOf ⟨m_1156, m_1157, m_1158⟩ cl_6 kd_49 (xl hF rfl) rfl rfl (Nat.le_of_ble_eq_true rfl) (Nat.le_trans (by decide) hd) (xlo (by decide) (Nat.le_trans (by decide) hd)) (Nat.zero_le _) (Nat.zero_le _) dX11_rest_88 (fun v τ n' hv => ?_)
              obtain ⟨rfl, rfl, rfl⟩ := hv
              show Ev E (xcm E d 0 0 QQ) Y_X11_rest 91 [(5, .int q5.1), (0, .ref (E.2.2.2 + iC)), (2, .int p1), (3, .int p2), (4, .ref (E.2.2.2 + a2))] [.int q6] (xσ q5.2.1 q5.2.2) n 0 0
              cases h
              exact ev_iret rfl (hQ hF) dX11_rest_91 (Nat.zero_le _) (Nat.zero_le _)
            · replace h := xif_t c75 h
              refine ev_iload 0 dX11_rest_78 rfl ?_
              refine ev_goto (tgt := 91) dX11_rest_80 (by decide) ?_
              cases h
              exact ev_iret rfl (hQ hF) dX11_rest_91 (Nat.zero_le _) (Nat.zero_le _)
        refine ev_icmp_eq (tgt := 54) dX11_rest_39 (by decide) (fun c39 => ?_) (fun c39 => ?_)
        · replace h := xif_t c39 h
          exact ev_sub [1, 3, 4, 0] rfl (j54 h)
        · replace h := xif_f c39 h
          refine ev_aload 0 dX11_rest_42 rfl ?_
          refine ev_iload_n 4 dX11_rest_44 rfl rfl ?_
          obtain ⟨q7, hq7, h⟩ := xbd_some h
          refine ev_callV (ci := 2) (rest := []) 1 (kX2_includes (E := E) (d := 0) (QQ := (fun v τ n' => v = some (.int q7) ∧ τ = xσ μ R ∧ n = n')) (Nat.le_refl _) hF ha2 hq7 (⟨rfl, rfl, rfl⟩)) my_X2_includes ⟨m_499, m_500, m_501⟩ cl_2 (xIs2_kd ha2) (xIs2_lt ha2) rfl rfl (Nat.le_of_ble_eq_true rfl) (Nat.le_trans (by decide) hd) (xlo (by decide) (Nat.le_trans (by decide) hd)) (Nat.zero_le _) (Nat.zero_le _) dX11_rest_45 (fun v τ n' hv => ?_)
          obtain ⟨rfl, rfl, rfl⟩ := hv
          show Ev E (xcm E d 0 0 QQ) Y_X11_rest 48 [(4, .ref (E.2.2.2 + a2)), (0, .ref (E.2.2.2 + iC)), (1, .int p0), (2, .int p1), (3, .int p2)] [.int q7] (xσ μ R) n 0 0
          refine ev_if_ne (tgt := 54) dX11_rest_48 (by decide) (fun c48 => ?_) (fun c48 => ?_)
          · replace h := xif_f c48 h
            exact ev_sub [1, 3, 4, 0] rfl (j54 h)
          · replace h := xif_t c48 h
            refine ev_bipush (v := (-3)) dX11_rest_51 (by decide) ?_
            cases h
            exact ev_iret rfl (hQ hF) dX11_rest_53 (Nat.zero_le _) (Nat.zero_le _)
      · replace h := xif_f c31 h
        refine ev_bipush (v := (-3)) dX11_rest_34 (by decide) ?_
        cases h
        exact ev_iret rfl (hQ hF) dX11_rest_36 (Nat.zero_le _) (Nat.zero_le _)
def fX11_round (μ : xm) : Option (Int32 × xm) := xbd (fX7_load (μ.1 iC 8) μ) fun q1 => xbd (fX7_leastLeft q1) fun q2 => some (q2.1, q2.2)
set_option maxHeartbeats 4000000 in
set_option maxRecDepth 100000 in
theorem kX11_round {E : xE} {d : Nat} {QQ : xP} (hd : 6 ≤ d)  {μ : xm} {R : xr} {n : Nat} (hF : xFin R n)  {res : Int32 × xm} (h : fX11_round μ = some res) (hQ : QQ (some (.int res.1)) (xσ res.2 R) n) : xCon E d Y_X11_round 0 0 [.ref (E.2.2.2 + iC)] (xσ μ R) n QQ := by
  refine xCon_of pn_RX11 (Nat.le_of_ble_eq_true rfl) (L0 := [(0, .ref (E.2.2.2 + iC))]) rfl ?_
  unfold fX11_round at h
  refine ev_aload_n 0 dX11_round_0 rfl rfl ?_
  refine xv_getF (a := iC_striking) cl_11 lk_RX11_49 kd_0 (xl hF rfl) (fun _ => rfl) (fr_0_5 hF) dX11_round_1 ?_
  refine ev_aload_n 0 dX11_round_4 rfl rfl ?_
  refine xv_getF (a := iC_notes) cl_11 lk_RX11_42 kd_0 (xl hF rfl) (fun _ => rfl) (fr_0_4 hF) dX11_round_5 ?_
  refine ev_aload_n 0 dX11_round_8 rfl rfl ?_
  refine xv_getI cl_11 lk_RX11_69 kd_0 (xl hF rfl) (fun _ => rfl) dX11_round_9 ?_
  obtain ⟨q1, hq1, h⟩ := xbd_some h
  refine ev_callV (ci := 7) (rest := []) 2 (kX7_load (E := E) (d := 2) (QQ := (fun v τ n' => v = none ∧ τ = xσ q1 R ∧ n = n')) (Nat.le_refl _) hF hq1 (⟨rfl, rfl, rfl⟩)) my_X7_load ⟨m_892, m_893, m_894⟩ cl_7 kd_35 (xl hF rfl) rfl rfl (Nat.le_of_ble_eq_true rfl) (Nat.le_trans (by decide) hd) (xlo (by decide) (Nat.le_trans (by decide) hd)) (Nat.zero_le _) (Nat.zero_le _) dX11_round_12 (fun v τ n' hv => ?_)
  obtain ⟨rfl, rfl, rfl⟩ := hv
  show Ev E (xcm E d 0 0 QQ) Y_X11_round 15 [(0, .ref (E.2.2.2 + iC))] [] (xσ q1 R) n 0 0
  refine ev_aload_n 0 dX11_round_15 rfl rfl ?_
  refine xv_getF (a := iC_striking) cl_11 lk_RX11_49 kd_0 (xl hF rfl) (fun _ => rfl) (fr_0_5 hF) dX11_round_16 ?_
  obtain ⟨q2, hq2, h⟩ := xbd_some h
  refine ev_callV (ci := 7) (rest := []) 0 (kX7_leastLeft (E := E) (d := 5) (QQ := (fun v τ n' => v = some (.int q2.1) ∧ τ = xσ q2.2 R ∧ n = n')) (Nat.le_refl _) hF hq2 (⟨rfl, rfl, rfl⟩)) my_X7_leastLeft ⟨m_903, m_904, m_905⟩ cl_7 kd_35 (xl hF rfl) rfl rfl (Nat.le_of_ble_eq_true rfl) (Nat.le_trans (by decide) hd) (xlo (by decide) (Nat.le_trans (by decide) hd)) (Nat.zero_le _) (Nat.zero_le _) dX11_round_19 (fun v τ n' hv => ?_)
  obtain ⟨rfl, rfl, rfl⟩ := hv
  show Ev E (xcm E d 0 0 QQ) Y_X11_round 22 [(0, .ref (E.2.2.2 + iC))] [.int q2.1] (xσ q2.2 R) n 0 0
  cases h
  exact ev_iret rfl (hQ) dX11_round_22 (Nat.zero_le _) (Nat.zero_le _)
