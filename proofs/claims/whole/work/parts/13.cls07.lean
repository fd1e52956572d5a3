def fX7_load_b26 (x4 : Int32) (μ5 : xm) (p1 : Int32) : Option ((Int32 × xm) ⊕ (xm)) := xbd (fX4_length μ5) fun q7 => if q7 ≤ x4 then (some (.inr μ5)) else (if 60 ≤ x4 then (some (.inr μ5)) else (xbd (fX4_owerOf x4 μ5) fun q8 => xbd (fX4_holderOf x4 μ5) fun q9 => xbd (fX4_isLive x4 p1 μ5) fun q10 => if q10 = 0 then (xlt (x4 + 1) fun x11 => some (.inl (x11, μ5))) else (xbd (fX11_isPerson q8) fun q12 => if q12 = 0 then (xlt (x4 + 1) fun x13 => some (.inl (x13, μ5))) else (xbd (fX11_isPerson q9) fun q14 => if q14 = 0 then (xlt (x4 + 1) fun x25 => some (.inl (x25, μ5))) else (xbd (xgI μ5 iC_striking_due 64 ((q8 * 8) + q9)) fun v15 => xbd (fX4_minutesOf x4 μ5) fun q16 => xbd (xsI μ5 iC_striking_due 64 ((q8 * 8) + q9) (v15 + q16)) fun μ17 => xbd (xgI μ17 iC_striking_balance 8 q8) fun v18 => xbd (fX4_minutesOf x4 μ17) fun q19 => xbd (xsI μ17 iC_striking_balance 8 q8 (v18 + q19)) fun μ20 => xbd (xgI μ20 iC_striking_balance 8 q9) fun v21 => xbd (fX4_minutesOf x4 μ20) fun q22 => xbd (xsI μ20 iC_striking_balance 8 q9 (v21 - q22)) fun μ23 => xlt (x4 + 1) fun x24 => some (.inl (x24, μ23)))))))
def fX7_load (p1 : Int32) (μ : xm) : Option (xm) := xbd (fJ7_fill_53178 iC_striking_due 0 μ) fun q1 => xbd (fJ7_fill_53178 iC_striking_left 0 q1) fun q2 => xbd (fJ7_fill_53178 iC_striking_balance 0 q2) fun q3 => xbd (xloop xfu (fun v => fX7_load_b26 v.1 v.2 p1) (0, q3)) fun q26 => some q26
set_option maxHeartbeats 4000000 in
set_option maxRecDepth 100000 in
theorem kX7_load {E : xE} {d : Nat} {QQ : xP} (hd : 2 ≤ d) {p1 : Int32} {μ : xm} {R : xr} {n : Nat} (hF : xFin R n)  {res : xm} (h : fX7_load p1 μ = some res) (hQ : QQ none (xσ res R) n) : xCon E d Y_X7_load 0 0 [.ref (E.2.2.2 + iC_striking), .ref (E.2.2.2 + iC_notes), .int p1] (xσ μ R) n QQ := by
  refine xCon_of pn_RX7 (Nat.le_of_ble_eq_true rfl) (L0 := [(0, .ref (E.2.2.2 + iC_striking)), (1, .ref (E.2.2.2 + iC_notes)), (2, .int p1)]) rfl ?_
  unfold fX7_load at h
  refine ev_aload_n 0 dX7_load_0 rfl rfl ?_
  refine xv_getF (a := iC_striking_due) cl_7 lk_RX7_11 kd_35 (xl hF rfl) (fun _ => rfl) (fr_35_0 hF) dX7_load_1 ?_
  refine ev_iconst (v := 0) dX7_load_4 (by decide) ?_
  obtain ⟨q1, hq1, h⟩ := xbd_some h
  refine ev_callS (As := [.ref (E.2.2.2 + iC_striking_due), .int 0]) (rest := []) 2 (kJ7_fill_53178 (E := E) (d := 0) (QQ := (fun v τ n' => v = none ∧ τ = xσ q1 R ∧ n = n')) (Nat.le_refl _) (xIsA_of kd_36 (xl hF rfl)) hq1 (⟨rfl, rfl, rfl⟩)) my_J7_fill_53178 ⟨m_896, m_212⟩ rfl rfl (Nat.le_of_ble_eq_true rfl) (Nat.le_trans (by decide) hd) (xlo (by decide) (Nat.le_trans (by decide) hd)) (Nat.zero_le _) (Nat.zero_le _) dX7_load_5 (fun v τ n' hv => ?_)
  obtain ⟨rfl, rfl, rfl⟩ := hv
  show Ev E (xcm E d 0 0 QQ) Y_X7_load 8 [(0, .ref (E.2.2.2 + iC_striking)), (1, .ref (E.2.2.2 + iC_notes)), (2, .int p1)] [] (xσ q1 R) n 0 0
  refine ev_aload_n 0 dX7_load_8 rfl rfl ?_
  refine xv_getF (a := iC_striking_left) cl_7 lk_RX7_15 kd_35 (xl hF rfl) (fun _ => rfl) (fr_35_1 hF) dX7_load_9 ?_
  refine ev_iconst (v := 0) dX7_load_12 (by decide) ?_
  obtain ⟨q2, hq2, h⟩ := xbd_some h
  refine ev_callS (As := [.ref (E.2.2.2 + iC_striking_left), .int 0]) (rest := []) 2 (kJ7_fill_53178 (E := E) (d := 0) (QQ := (fun v τ n' => v = none ∧ τ = xσ q2 R ∧ n = n')) (Nat.le_refl _) (xIsA_of kd_37 (xl hF rfl)) hq2 (⟨rfl, rfl, rfl⟩)) my_J7_fill_53178 ⟨m_896, m_212⟩ rfl rfl (Nat.le_of_ble_eq_true rfl) (Nat.le_trans (by decide) hd) (xlo (by decide) (Nat.le_trans (by decide) hd)) (Nat.zero_le _) (Nat.zero_le _) dX7_load_13 (fun v τ n' hv => ?_)
  obtain ⟨rfl, rfl, rfl⟩ := hv
  show Ev E (xcm E d 0 0 QQ) Y_X7_load 16 [(0, .ref (E.2.2.2 + iC_striking)), (1, .ref (E.2.2.2 + iC_notes)), (2, .int p1)] [] (xσ q2 R) n 0 0
  refine ev_aload_n 0 dX7_load_16 rfl rfl ?_
  refine xv_getF (a := iC_striking_balance) cl_7 lk_RX7_18 kd_35 (xl hF rfl) (fun _ => rfl) (fr_35_2 hF) dX7_load_17 ?_
  refine ev_iconst (v := 0) dX7_load_20 (by decide) ?_
  obtain ⟨q3, hq3, h⟩ := xbd_some h
  refine ev_callS (As := [.ref (E.2.2.2 + iC_striking_balance), .int 0]) (rest := []) 2 (kJ7_fill_53178 (E := E) (d := 0) (QQ := (fun v τ n' => v = none ∧ τ = xσ q3 R ∧ n = n')) (Nat.le_refl _) (xIsA_of kd_38 (xl hF rfl)) hq3 (⟨rfl, rfl, rfl⟩)) my_J7_fill_53178 ⟨m_896, m_212⟩ rfl rfl (Nat.le_of_ble_eq_true rfl) (Nat.le_trans (by decide) hd) (xlo (by decide) (Nat.le_trans (by decide) hd)) (Nat.zero_le _) (Nat.zero_le _) dX7_load_21 (fun v τ n' hv => ?_)
  obtain ⟨rfl, rfl, rfl⟩ := hv
  show Ev E (xcm E d 0 0 QQ) Y_X7_load 24 [(0, .ref (E.2.2.2 + iC_striking)), (1, .ref (E.2.2.2 + iC_notes)), (2, .int p1)] [] (xσ q3 R) n 0 0
  refine ev_iconst (v := 0) dX7_load_24 (by decide) ?_
  refine xv_istore_n (L' := [(3, .int 0), (0, .ref (E.2.2.2 + iC_striking)), (1, .ref (E.2.2.2 + iC_notes)), (2, .int p1)]) rfl dX7_load_25 rfl (Nat.le_of_ble_eq_true rfl) rfl ?_
  obtain ⟨q26, hq26, h⟩ := xbd_some h
  refine ev_sub (L' := [(0, .ref (E.2.2.2 + iC_striking)), (1, .ref (E.2.2.2 + iC_notes)), (2, .int p1), (3, .int 0)]) [1, 2, 3, 0] rfl ?_
  refine xloop_run (fun v => Ev E (xcm E d 0 0 QQ) Y_X7_load 26 [(0, .ref (E.2.2.2 + iC_striking)), (1, .ref (E.2.2.2 + iC_notes)), (2, .int p1), (3, .int v.1)] [] (xσ v.2 R) n 0 0) (fun v => Ev E (xcm E d 0 0 QQ) Y_X7_load 139 [] [] (xσ v R) n 0 0) ?_ _ _ _ hq26 ?_
  · rintro ⟨x4, μ5⟩ y6 h hk
    replace h : fX7_load_b26 x4 μ5 p1 = some y6 := h
    show Ev E (xcm E d 0 0 QQ) Y_X7_load 26 [(0, .ref (E.2.2.2 + iC_striking)), (1, .ref (E.2.2.2 + iC_notes)), (2, .int p1), (3, .int x4)] [] (xσ μ5 R) n 0 0
    unfold fX7_load_b26 at h
    refine ev_iload_n 3 dX7_load_26 rfl rfl ?_
    refine ev_aload_n 1 dX7_load_27 rfl rfl ?_
    obtain ⟨q7, hq7, h⟩ := xbd_some h
    refine ev_callV (ci := 4) (rest := [.int x4]) 0 (kX4_length (E := E) (d := 0) (QQ := (fun v τ n' => v = some (.int q7) ∧ τ = xσ μ5 R ∧ n = n')) (Nat.le_refl _) hF hq7 (⟨rfl, rfl, rfl⟩)) my_X4_length ⟨m_897, m_769, m_770⟩ cl_4 kd_28 (xl hF rfl) rfl rfl (Nat.le_of_ble_eq_true rfl) (Nat.le_trans (by decide) hd) (xlo (by decide) (Nat.le_trans (by decide) hd)) (Nat.zero_le _) (Nat.zero_le _) dX7_load_28 (fun v τ n' hv => ?_)
    obtain ⟨rfl, rfl, rfl⟩ := hv
    show Ev E (xcm E d 0 0 QQ) Y_X7_load 31 [(0, .ref (E.2.2.2 + iC_striking)), (1, .ref (E.2.2.2 + iC_notes)), (2, .int p1), (3, .int x4)] [.int q7, .int x4] (xσ μ5 R) n 0 0
    refine ev_icmp_ge (tgt := 139) dX7_load_31 (by decide) (fun c31 => ?_) (fun c31 => ?_)
    · replace h := xif_t c31 h
      cases h
      replace hk := xel_r hk
      exact ev_sub [] rfl (hk)
    · replace h := xif_f c31 h
      refine ev_iload_n 3 dX7_load_34 rfl rfl ?_
      refine ev_bipush (v := 60) dX7_load_35 (by decide) ?_
      refine ev_icmp_ge (tgt := 139) dX7_load_37 (by decide) (fun c37 => ?_) (fun c37 => ?_)
      · replace h := xif_t c37 h
        cases h
        replace hk := xel_r hk
        exact ev_sub [] rfl (hk)
      · replace h := xif_f c37 h
        refine ev_aload_n 1 dX7_load_40 rfl rfl ?_
        refine ev_iload_n 3 dX7_load_41 rfl rfl ?_
        obtain ⟨q8, hq8, h⟩ := xbd_some h
        refine ev_callV (ci := 4) (rest := []) 1 (kX4_owerOf (E := E) (d := 1) (QQ := (fun v τ n' => v = some (.int q8) ∧ τ = xσ μ5 R ∧ n = n')) (Nat.le_refl _) hF hq8 (⟨rfl, rfl, rfl⟩)) my_X4_owerOf ⟨m_898, m_798, m_799⟩ cl_4 kd_28 (xl hF rfl) rfl rfl (Nat.le_of_ble_eq_true rfl) (Nat.le_trans (by decide) hd) (xlo (by decide) (Nat.le_trans (by decide) hd)) (Nat.zero_le _) (Nat.zero_le _) dX7_load_42 (fun v τ n' hv => ?_)
        obtain ⟨rfl, rfl, rfl⟩ := hv
        show Ev E (xcm E d 0 0 QQ) Y_X7_load 45 [(0, .ref (E.2.2.2 + iC_striking)), (1, .ref (E.2.2.2 + iC_notes)), (2, .int p1), (3, .int x4)] [.int q8] (xσ μ5 R) n 0 0
        refine xv_istore (L' := [(4, .int q8), (0, .ref (E.2.2.2 + iC_striking)), (1, .ref (E.2.2.2 + iC_notes)), (2, .int p1), (3, .int x4)]) rfl dX7_load_45 (Nat.le_of_ble_eq_true rfl) rfl ?_
        refine ev_aload_n 2 dX7_load_47 rfl rfl ?_
        refine ev_iload_n 4 dX7_load_48 rfl rfl ?_
        obtain ⟨q9, hq9, h⟩ := xbd_some h
        refine ev_callV (ci := 4) (rest := []) 1 (kX4_holderOf (E := E) (d := 1) (QQ := (fun v τ n' => v = some (.int q9) ∧ τ = xσ μ5 R ∧ n = n')) (Nat.le_refl _) hF hq9 (⟨rfl, rfl, rfl⟩)) my_X4_holderOf ⟨m_899, m_803, m_804⟩ cl_4 kd_28 (xl hF rfl) rfl rfl (Nat.le_of_ble_eq_true rfl) (Nat.le_trans (by decide) hd) (xlo (by decide) (Nat.le_trans (by decide) hd)) (Nat.zero_le _) (Nat.zero_le _) dX7_load_49 (fun v τ n' hv => ?_)
        obtain ⟨rfl, rfl, rfl⟩ := hv
        show Ev E (xcm E d 0 0 QQ) Y_X7_load 52 [(4, .int q8), (0, .ref (E.2.2.2 + iC_striking)), (1, .ref (E.2.2.2 + iC_notes)), (2, .int p1), (3, .int x4)] [.int q9] (xσ μ5 R) n 0 0
        refine xv_istore (L' := [(5, .int q9), (4, .int q8), (0, .ref (E.2.2.2 + iC_striking)), (1, .ref (E.2.2.2 + iC_notes)), (2, .int p1), (3, .int x4)]) rfl dX7_load_52 (Nat.le_of_ble_eq_true rfl) rfl ?_
        refine ev_aload_n 3 dX7_load_54 rfl rfl ?_
        refine ev_iload_n 5 dX7_load_55 rfl rfl ?_
        refine ev_iload_n 4 dX7_load_56 rfl rfl ?_
        obtain ⟨q10, hq10, h⟩ := xbd_some h
        refine ev_callV (ci := 4) (rest := []) 2 (kX4_isLive (E := E) (d := 1) (QQ := (fun v τ n' => v = some (.int q10) ∧ τ = xσ μ5 R ∧ n = n')) (Nat.le_refl _) hF hq10 (⟨rfl, rfl, rfl⟩)) my_X4_isLive ⟨m_900, m_819, m_820⟩ cl_4 kd_28 (xl hF rfl) rfl rfl (Nat.le_of_ble_eq_true rfl) (Nat.le_trans (by decide) hd) (xlo (by decide) (Nat.le_trans (by decide) hd)) (Nat.zero_le _) (Nat.zero_le _) dX7_load_57 (fun v τ n' hv => ?_)
        obtain ⟨rfl, rfl, rfl⟩ := hv
        show Ev E (xcm E d 0 0 QQ) Y_X7_load 60 [(5, .int q9), (4, .int q8), (0, .ref (E.2.2.2 + iC_striking)), (1, .ref (E.2.2.2 + iC_notes)), (2, .int p1), (3, .int x4)] [.int q10] (xσ μ5 R) n 0 0
        refine ev_if_eq (tgt := 133) dX7_load_60 (by decide) (fun c60 => ?_) (fun c60 => ?_)
        · replace h := xif_t c60 h
          obtain ⟨x11, hx11, h⟩ := xlt_some h
          refine ev_iinc (L' := [(3, .int x11), (5, .int q9), (4, .int q8), (0, .ref (E.2.2.2 + iC_striking)), (1, .ref (E.2.2.2 + iC_notes)), (2, .int p1)]) 5 dX7_load_133 rfl ((by rfl : x4 + Int32.ofInt 1 = x4 + 1).trans hx11) (Nat.le_of_ble_eq_true rfl) rfl ?_
          refine ev_goto (tgt := 26) dX7_load_136 (by decide) ?_
          cases h
          replace hk := xel_l hk
          exact ev_sub [3, 4, 5, 0] rfl (hk)
        · replace h := xif_f c60 h
          refine ev_iload 1 dX7_load_63 rfl ?_
          obtain ⟨q12, hq12, h⟩ := xbd_some h
          refine ev_callSN (As := [.int q8]) (rest := []) 1 (kX11_isPerson (E := E) (d := 0) (QQ := (fun v τ n' => v = some (.int q12) ∧ τ = xσ μ5 R ∧ n = n')) (Nat.le_refl _)  hq12 (⟨rfl, rfl, rfl⟩)) my_X11_isPerson ⟨⟨_, xnm_9⟩, m_436⟩ rfl rfl (Nat.le_of_ble_eq_true rfl) (Nat.le_trans (by decide) hd) (xlo (by decide) (Nat.le_trans (by decide) hd)) (Nat.zero_le _) (Nat.zero_le _) dX7_load_65 (fun v τ n' hv => ?_)
          obtain ⟨rfl, rfl, rfl⟩ := hv
          show Ev E (xcm E d 0 0 QQ) Y_X7_load 68 [(5, .int q9), (4, .int q8), (0, .ref (E.2.2.2 + iC_striking)), (1, .ref (E.2.2.2 + iC_notes)), (2, .int p1), (3, .int x4)] [.int q12] (xσ μ5 R) n 0 0
          refine ev_if_eq (tgt := 133) dX7_load_68 (by decide) (fun c68 => ?_) (fun c68 => ?_)
          · replace h := xif_t c68 h
            obtain ⟨x13, hx13, h⟩ := xlt_some h
            refine ev_iinc (L' := [(3, .int x13), (5, .int q9), (4, .int q8), (0, .ref (E.2.2.2 + iC_striking)), (1, .ref (E.2.2.2 + iC_notes)), (2, .int p1)]) 5 dX7_load_133 rfl ((by rfl : x4 + Int32.ofInt 1 = x4 + 1).trans hx13) (Nat.le_of_ble_eq_true rfl) rfl ?_
            refine ev_goto (tgt := 26) dX7_load_136 (by decide) ?_
            cases h
            replace hk := xel_l hk
            exact ev_sub [3, 4, 5, 0] rfl (hk)
          · replace h := xif_f c68 h
            refine ev_iload 0 dX7_load_71 rfl ?_
            obtain ⟨q14, hq14, h⟩ := xbd_some h
            refine ev_callSN (As := [.int q9]) (rest := []) 1 (kX11_isPerson (E := E) (d := 0) (QQ := (fun v τ n' => v = some (.int q14) ∧ τ = xσ μ5 R ∧ n = n')) (Nat.le_refl _)  hq14 (⟨rfl, rfl, rfl⟩)) my_X11_isPerson ⟨⟨_, xnm_9⟩, m_436⟩ rfl rfl (Nat.le_of_ble_eq_true rfl) (Nat.le_trans (by decide) hd) (xlo (by decide) (Nat.le_trans (by decide) hd)) (Nat.zero_le _) (Nat.zero_le _) dX7_load_73 (fun v τ n' hv => ?_)
            obtain ⟨rfl, rfl, rfl⟩ := hv
            show Ev E (xcm E d 0 0 QQ) Y_X7_load 76 [(5, .int q9), (4, .int q8), (0, .ref (E.2.2.2 + iC_striking)), (1, .ref (E.2.2.2 + iC_notes)), (2, .int p1), (3, .int x4)] [.int q14] (xσ μ5 R) n 0 0
            refine ev_if_ne (tgt := 82) dX7_load_76 (by decide) (fun c76 => ?_) (fun c76 => ?_)
            · replace h := xif_f c76 h
              refine ev_aload_n 2 dX7_load_82 rfl rfl ?_
              refine xv_getF (a := iC_striking_due) cl_7 lk_RX7_11 kd_35 (xl hF rfl) (fun _ => rfl) (fr_35_0 hF) dX7_load_83 ?_
              refine ev_iload 1 dX7_load_86 rfl ?_
              refine ev_bipush (v := 8) dX7_load_88 (by decide) ?_
              refine ev_imul dX7_load_90 ?_
              refine ev_iload 0 dX7_load_91 rfl ?_
              refine ev_iadd dX7_load_93 ?_
              refine ev_dup2 dX7_load_94 rfl rfl ?_
              obtain ⟨v15, hv15, h⟩ := xbd_some h
              refine xv_iald kd_36 (xl hF rfl) hv15 dX7_load_95 ?_
              refine ev_aload_n 3 dX7_load_96 rfl rfl ?_
              refine ev_iload_n 5 dX7_load_97 rfl rfl ?_
              obtain ⟨q16, hq16, h⟩ := xbd_some h
              refine ev_callV (ci := 4) (rest := [.int v15, .int ((q8 * 8) + q9), .ref (E.2.2.2 + iC_striking_due)]) 1 (kX4_minutesOf (E := E) (d := 1) (QQ := (fun v τ n' => v = some (.int q16) ∧ τ = xσ μ5 R ∧ n = n')) (Nat.le_refl _) hF hq16 (⟨rfl, rfl, rfl⟩)) my_X4_minutesOf ⟨m_902, m_807, m_808⟩ cl_4 kd_28 (xl hF rfl) rfl rfl (Nat.le_of_ble_eq_true rfl) (Nat.le_trans (by decide) hd) (xlo (by decide) (Nat.le_trans (by decide) hd)) (Nat.zero_le _) (Nat.zero_le _) dX7_load_98 (fun v τ n' hv => ?_)
              obtain ⟨rfl, rfl, rfl⟩ := hv
              show Ev E (xcm E d 0 0 QQ) Y_X7_load 101 [(5, .int q9), (4, .int q8), (0, .ref (E.2.2.2 + iC_striking)), (1, .ref (E.2.2.2 + iC_notes)), (2, .int p1), (3, .int x4)] [.int q16, .int v15, .int ((q8 * 8) + q9), .ref (E.2.2.2 + iC_striking_due)] (xσ μ5 R) n 0 0
              refine ev_iadd dX7_load_101 ?_
              obtain ⟨μ17, hμ17, h⟩ := xbd_some h
              refine xv_iast kd_36 (xl hF rfl) hμ17 dX7_load_102 ?_
              refine ev_aload_n 2 dX7_load_103 rfl rfl ?_
              refine xv_getF (a := iC_striking_balance) cl_7 lk_RX7_18 kd_35 (xl hF rfl) (fun _ => rfl) (fr_35_2 hF) dX7_load_104 ?_
              refine ev_iload 1 dX7_load_107 rfl ?_
              refine ev_dup2 dX7_load_109 rfl rfl ?_
              obtain ⟨v18, hv18, h⟩ := xbd_some h
              refine xv_iald kd_38 (xl hF rfl) hv18 dX7_load_110 ?_
              refine ev_aload_n 3 dX7_load_111 rfl rfl ?_
              refine ev_iload_n 5 dX7_load_112 rfl rfl ?_
              obtain ⟨q19, hq19, h⟩ := xbd_some h
              refine ev_callV (ci := 4) (rest := [.int v18, .int q8, .ref (E.2.2.2 + iC_striking_balance)]) 1 (kX4_minutesOf (E := E) (d := 1) (QQ := (fun v τ n' => v = some (.int q19) ∧ τ = xσ μ17 R ∧ n = n')) (Nat.le_refl _) hF hq19 (⟨rfl, rfl, rfl⟩)) my_X4_minutesOf ⟨m_902, m_807, m_808⟩ cl_4 kd_28 (xl hF rfl) rfl rfl (Nat.le_of_ble_eq_true rfl) (Nat.le_trans (by decide) hd) (xlo (by decide) (Nat.le_trans (by decide) hd)) (Nat.zero_le _) (Nat.zero_le _) dX7_load_113 (fun v τ n' hv => ?_)
              obtain ⟨rfl, rfl, rfl⟩ := hv
              show Ev E (xcm E d 0 0 QQ) Y_X7_load 116 [(5, .int q9), (4, .int q8), (0, .ref (E.2.2.2 + iC_striking)), (1, .ref (E.2.2.2 + iC_notes)), (2, .int p1), (3, .int x4)] [.int q19, .int v18, .int q8, .ref (E.2.2.2 + iC_striking_balance)] (xσ μ17 R) n 0 0
              refine ev_iadd dX7_load_116 ?_
              obtain ⟨μ20, hμ20, h⟩ := xbd_some h
              refine xv_iast kd_38 (xl hF rfl) hμ20 dX7_load_117 ?_
              refine ev_aload_n 2 dX7_load_118 rfl rfl ?_
              refine xv_getF (a := iC_striking_balance) cl_7 lk_RX7_18 kd_35 (xl hF rfl) (fun _ => rfl) (fr_35_2 hF) dX7_load_119 ?_
              refine ev_iload 0 dX7_load_122 rfl ?_
              refine ev_dup2 dX7_load_124 rfl rfl ?_
              obtain ⟨v21, hv21, h⟩ := xbd_some h
              refine xv_iald kd_38 (xl hF rfl) hv21 dX7_load_125 ?_
              refine ev_aload_n 3 dX7_load_126 rfl rfl ?_
              refine ev_iload_n 5 dX7_load_127 rfl rfl ?_
              obtain ⟨q22, hq22, h⟩ := xbd_some h
              refine ev_callV (ci := 4) (rest := [.int v21, .int q9, .ref (E.2.2.2 + iC_striking_balance)]) 1 (kX4_minutesOf (E := E) (d := 1) (QQ := (fun v τ n' => v = some (.int q22) ∧ τ = xσ μ20 R ∧ n = n')) (Nat.le_refl _) hF hq22 (⟨rfl, rfl, rfl⟩)) my_X4_minutesOf ⟨m_902, m_807, m_808⟩ cl_4 kd_28 (xl hF rfl) rfl rfl (Nat.le_of_ble_eq_true rfl) (Nat.le_trans (by decide) hd) (xlo (by decide) (Nat.le_trans (by decide) hd)) (Nat.zero_le _) (Nat.zero_le _) dX7_load_128 (fun v τ n' hv => ?_)
              obtain ⟨rfl, rfl, rfl⟩ := hv
              show Ev E (xcm E d 0 0 QQ) Y_X7_load 131 [(5, .int q9), (4, .int q8), (0, .ref (E.2.2.2 + iC_striking)), (1, .ref (E.2.2.2 + iC_notes)), (2, .int p1), (3, .int x4)] [.int q22, .int v21, .int q9, .ref (E.2.2.2 + iC_striking_balance)] (xσ μ20 R) n 0 0
              refine ev_isub dX7_load_131 ?_
              obtain ⟨μ23, hμ23, h⟩ := xbd_some h
              refine xv_iast kd_38 (xl hF rfl) hμ23 dX7_load_132 ?_
              obtain ⟨x24, hx24, h⟩ := xlt_some h
              refine ev_iinc (L' := [(3, .int x24), (5, .int q9), (4, .int q8), (0, .ref (E.2.2.2 + iC_striking)), (1, .ref (E.2.2.2 + iC_notes)), (2, .int p1)]) 5 dX7_load_133 rfl ((by rfl : x4 + Int32.ofInt 1 = x4 + 1).trans hx24) (Nat.le_of_ble_eq_true rfl) rfl ?_
              refine ev_goto (tgt := 26) dX7_load_136 (by decide) ?_
              cases h
              replace hk := xel_l hk
              exact ev_sub [3, 4, 5, 0] rfl (hk)
            · replace h := xif_t c76 h
              refine ev_goto (tgt := 133) dX7_load_79 (by decide) ?_
              obtain ⟨x25, hx25, h⟩ := xlt_some h
              refine ev_iinc (L' := [(3, .int x25), (5, .int q9), (4, .int q8), (0, .ref (E.2.2.2 + iC_striking)), (1, .ref (E.2.2.2 + iC_notes)), (2, .int p1)]) 5 dX7_load_133 rfl ((by rfl : x4 + Int32.ofInt 1 = x4 + 1).trans hx25) (Nat.le_of_ble_eq_true rfl) rfl ?_
              refine ev_goto (tgt := 26) dX7_load_136 (by decide) ?_
              cases h
              replace hk := xel_l hk
              exact ev_sub [3, 4, 5, 0] rfl (hk)
  · show Ev E (xcm E d 0 0 QQ) Y_X7_load 139 [] [] (xσ q26 R) n 0 0
    cases h
    exact ev_vret rfl (hQ) dX7_load_139 (Nat.zero_le _) (Nat.zero_le _)
def fX7_moveAlong_b5 (x1 : Int32) (x2 : Int32) (μ3 : xm) (p1 : Int32) : Option ((Int32 × Int32 × xm) ⊕ ((xm) ⊕ (xm))) := if 8 ≤ x2 then (some (.inr (.inl μ3))) else (xbd (fX11_isPerson x1) fun q5 => if q5 = 0 then (some (.inr (.inl μ3))) else (xbd (xgI μ3 iC_striking_from 8 x1) fun v6 => xbd (fX11_isPerson v6) fun q7 => if q7 = 0 then (some (.inr (.inr μ3))) else (xbd (fX7_leftFrom x1 v6 μ3) fun q8 => if q8 ≤ 0 then (xbd (xgI μ3 iC_striking_left 64 ((v6 * 8) + x1)) fun v9 => xbd (xsI μ3 iC_striking_left 64 ((v6 * 8) + x1) (v9 + p1)) fun μ10 => xlt (x2 + 1) fun x11 => some (.inl (v6, x11, μ10))) else (xbd (xgI μ3 iC_striking_left 64 ((x1 * 8) + v6)) fun v12 => xbd (xsI μ3 iC_striking_left 64 ((x1 * 8) + v6) (v12 - p1)) fun μ13 => xlt (x2 + 1) fun x14 => some (.inl (v6, x14, μ13))))))
def fX7_moveAlong (p0 : Int32) (p1 : Int32) (μ : xm) : Option (xm) := xbd (xloop xfu (fun v => fX7_moveAlong_b5 v.1 v.2.1 v.2.2 p1) (p0, 0, μ)) fun q15 => xsm q15 (fun q16 => some q16) (fun q17 => some q17)
set_option maxHeartbeats 4000000 in
set_option maxRecDepth 100000 in
theorem kX7_moveAlong {E : xE} {d : Nat} {QQ : xP} (hd : 2 ≤ d) {p0 : Int32} {p1 : Int32} {μ : xm} {R : xr} {n : Nat} (hF : xFin R n)  {res : xm} (h : fX7_moveAlong p0 p1 μ = some res) (hQ : QQ none (xσ res R) n) : xCon E d Y_X7_moveAlong 0 0 [.ref (E.2.2.2 + iC_striking), .int p0, .int p1] (xσ μ R) n QQ := by
  refine xCon_of pn_RX7 (Nat.le_of_ble_eq_true rfl) (L0 := [(0, .ref (E.2.2.2 + iC_striking)), (1, .int p0), (2, .int p1)]) rfl ?_
  unfold fX7_moveAlong at h
  refine ev_iload_n 1 dX7_moveAlong_0 rfl rfl ?_
  refine xv_istore_n (L' := [(3, .int p0), (0, .ref (E.2.2.2 + iC_striking)), (1, .int p0), (2, .int p1)]) rfl dX7_moveAlong_1 rfl (Nat.le_of_ble_eq_true rfl) rfl ?_
  refine ev_iconst (v := 0) dX7_moveAlong_2 (by decide) ?_
  refine xv_istore (L' := [(4, .int 0), (3, .int p0), (0, .ref (E.2.2.2 + iC_striking)), (1, .int p0), (2, .int p1)]) rfl dX7_moveAlong_3 (Nat.le_of_ble_eq_true rfl) rfl ?_
  obtain ⟨q15, hq15, h⟩ := xbd_some h
  refine ev_sub (L' := [(0, .ref (E.2.2.2 + iC_striking)), (2, .int p1), (3, .int p0), (4, .int 0)]) [2, 4, 1, 0] rfl ?_
  refine xloop_run (fun v => Ev E (xcm E d 0 0 QQ) Y_X7_moveAlong 5 [(0, .ref (E.2.2.2 + iC_striking)), (2, .int p1), (3, .int v.1), (4, .int v.2.1)] [] (xσ v.2.2 R) n 0 0) (xel (fun v => Ev E (xcm E d 0 0 QQ) Y_X7_moveAlong 90 [] [] (xσ v R) n 0 0) (fun v => QQ none (xσ v R) n)) ?_ _ _ _ hq15 ?_
  · rintro ⟨x1, x2, μ3⟩ y4 h hk
    replace h : fX7_moveAlong_b5 x1 x2 μ3 p1 = some y4 := h
    show Ev E (xcm E d 0 0 QQ) Y_X7_moveAlong 5 [(0, .ref (E.2.2.2 + iC_striking)), (2, .int p1), (3, .int x1), (4, .int x2)] [] (xσ μ3 R) n 0 0
    unfold fX7_moveAlong_b5 at h
    refine ev_iload 3 dX7_moveAlong_5 rfl ?_
    refine ev_bipush (v := 8) dX7_moveAlong_7 (by decide) ?_
    refine ev_icmp_ge (tgt := 90) dX7_moveAlong_9 (by decide) (fun c9 => ?_) (fun c9 => ?_)
    · replace h := xif_t c9 h
      cases h
      replace hk := xel_r hk
      replace hk := xel_l hk
      exact ev_sub [] rfl (hk)
    · replace h := xif_f c9 h
      refine ev_iload_n 2 dX7_moveAlong_12 rfl rfl ?_
      obtain ⟨q5, hq5, h⟩ := xbd_some h
      refine ev_callSN (As := [.int x1]) (rest := []) 1 (kX11_isPerson (E := E) (d := 0) (QQ := (fun v τ n' => v = some (.int q5) ∧ τ = xσ μ3 R ∧ n = n')) (Nat.le_refl _)  hq5 (⟨rfl, rfl, rfl⟩)) my_X11_isPerson ⟨⟨_, xnm_9⟩, m_436⟩ rfl rfl (Nat.le_of_ble_eq_true rfl) (Nat.le_trans (by decide) hd) (xlo (by decide) (Nat.le_trans (by decide) hd)) (Nat.zero_le _) (Nat.zero_le _) dX7_moveAlong_13 (fun v τ n' hv => ?_)
      obtain ⟨rfl, rfl, rfl⟩ := hv
      show Ev E (xcm E d 0 0 QQ) Y_X7_moveAlong 16 [(0, .ref (E.2.2.2 + iC_striking)), (2, .int p1), (3, .int x1), (4, .int x2)] [.int q5] (xσ μ3 R) n 0 0
      refine ev_if_eq (tgt := 90) dX7_moveAlong_16 (by decide) (fun c16 => ?_) (fun c16 => ?_)
      · replace h := xif_t c16 h
        cases h
        replace hk := xel_r hk
        replace hk := xel_l hk
        exact ev_sub [] rfl (hk)
      · replace h := xif_f c16 h
        refine ev_aload_n 0 dX7_moveAlong_19 rfl rfl ?_
        refine xv_getF (a := iC_striking_from) cl_7 lk_RX7_24 kd_35 (xl hF rfl) (fun _ => rfl) (fr_35_4 hF) dX7_moveAlong_20 ?_
        refine ev_iload_n 2 dX7_moveAlong_23 rfl rfl ?_
        obtain ⟨v6, hv6, h⟩ := xbd_some h
        refine xv_iald kd_40 (xl hF rfl) hv6 dX7_moveAlong_24 ?_
        refine xv_istore (L' := [(5, .int v6), (0, .ref (E.2.2.2 + iC_striking)), (2, .int p1), (3, .int x1), (4, .int x2)]) rfl dX7_moveAlong_25 (Nat.le_of_ble_eq_true rfl) rfl ?_
        refine ev_iload 0 dX7_moveAlong_27 rfl ?_
        obtain ⟨q7, hq7, h⟩ := xbd_some h
        refine ev_callSN (As := [.int v6]) (rest := []) 1 (kX11_isPerson (E := E) (d := 0) (QQ := (fun v τ n' => v = some (.int q7) ∧ τ = xσ μ3 R ∧ n = n')) (Nat.le_refl _)  hq7 (⟨rfl, rfl, rfl⟩)) my_X11_isPerson ⟨⟨_, xnm_9⟩, m_436⟩ rfl rfl (Nat.le_of_ble_eq_true rfl) (Nat.le_trans (by decide) hd) (xlo (by decide) (Nat.le_trans (by decide) hd)) (Nat.zero_le _) (Nat.zero_le _) dX7_moveAlong_29 (fun v τ n' hv => ?_)
        obtain ⟨rfl, rfl, rfl⟩ := hv
        show Ev E (xcm E d 0 0 QQ) Y_X7_moveAlong 32 [(5, .int v6), (0, .ref (E.2.2.2 + iC_striking)), (2, .int p1), (3, .int x1), (4, .int x2)] [.int q7] (xσ μ3 R) n 0 0
        refine ev_if_ne (tgt := 36) dX7_moveAlong_32 (by decide) (fun c32 => ?_) (fun c32 => ?_)
        · replace h := xif_f c32 h
          refine ev_aload_n 1 dX7_moveAlong_36 rfl rfl ?_
          refine ev_iload_n 3 dX7_moveAlong_37 rfl rfl ?_
          refine ev_iload 0 dX7_moveAlong_38 rfl ?_
          obtain ⟨q8, hq8, h⟩ := xbd_some h
          refine ev_callV (ci := 7) (rest := []) 2 (kX7_leftFrom (E := E) (d := 1) (QQ := (fun v τ n' => v = some (.int q8) ∧ τ = xσ μ3 R ∧ n = n')) (Nat.le_refl _) hF hq8 (⟨rfl, rfl, rfl⟩)) my_X7_leftFrom ⟨m_920, m_922, m_22⟩ cl_7 kd_35 (xl hF rfl) rfl rfl (Nat.le_of_ble_eq_true rfl) (Nat.le_trans (by decide) hd) (xlo (by decide) (Nat.le_trans (by decide) hd)) (Nat.zero_le _) (Nat.zero_le _) dX7_moveAlong_40 (fun v τ n' hv => ?_)
          obtain ⟨rfl, rfl, rfl⟩ := hv
          show Ev E (xcm E d 0 0 QQ) Y_X7_moveAlong 43 [(5, .int v6), (0, .ref (E.2.2.2 + iC_striking)), (2, .int p1), (3, .int x1), (4, .int x2)] [.int q8] (xσ μ3 R) n 0 0
          refine ev_if_le (tgt := 65) dX7_moveAlong_43 (by decide) (fun c43 => ?_) (fun c43 => ?_)
          · replace h := xif_t c43 h
            refine ev_aload_n 1 dX7_moveAlong_65 rfl rfl ?_
            refine xv_getF (a := iC_striking_left) cl_7 lk_RX7_15 kd_35 (xl hF rfl) (fun _ => rfl) (fr_35_1 hF) dX7_moveAlong_66 ?_
            refine ev_iload 0 dX7_moveAlong_69 rfl ?_
            refine ev_bipush (v := 8) dX7_moveAlong_71 (by decide) ?_
            refine ev_imul dX7_moveAlong_73 ?_
            refine ev_iload_n 3 dX7_moveAlong_74 rfl rfl ?_
            refine ev_iadd dX7_moveAlong_75 ?_
            refine ev_dup2 dX7_moveAlong_76 rfl rfl ?_
            obtain ⟨v9, hv9, h⟩ := xbd_some h
            refine xv_iald kd_37 (xl hF rfl) hv9 dX7_moveAlong_77 ?_
            refine ev_iload_n 2 dX7_moveAlong_78 rfl rfl ?_
            refine ev_iadd dX7_moveAlong_79 ?_
            obtain ⟨μ10, hμ10, h⟩ := xbd_some h
            refine xv_iast kd_37 (xl hF rfl) hμ10 dX7_moveAlong_80 ?_
            refine ev_iload 0 dX7_moveAlong_81 rfl ?_
            refine xv_istore_n (L' := [(3, .int v6), (5, .int v6), (0, .ref (E.2.2.2 + iC_striking)), (2, .int p1), (4, .int x2)]) rfl dX7_moveAlong_83 rfl (Nat.le_of_ble_eq_true rfl) rfl ?_
            obtain ⟨x11, hx11, h⟩ := xlt_some h
            refine ev_iinc (L' := [(4, .int x11), (3, .int v6), (5, .int v6), (0, .ref (E.2.2.2 + iC_striking)), (2, .int p1)]) 4 dX7_moveAlong_84 rfl ((by rfl : x2 + Int32.ofInt 1 = x2 + 1).trans hx11) (Nat.le_of_ble_eq_true rfl) rfl ?_
            refine ev_goto (tgt := 5) dX7_moveAlong_87 (by decide) ?_
            cases h
            replace hk := xel_l hk
            exact ev_sub [3, 4, 1, 0] rfl (hk)
          · replace h := xif_f c43 h
            refine ev_aload_n 1 dX7_moveAlong_46 rfl rfl ?_
            refine xv_getF (a := iC_striking_left) cl_7 lk_RX7_15 kd_35 (xl hF rfl) (fun _ => rfl) (fr_35_1 hF) dX7_moveAlong_47 ?_
            refine ev_iload_n 3 dX7_moveAlong_50 rfl rfl ?_
            refine ev_bipush (v := 8) dX7_moveAlong_51 (by decide) ?_
            refine ev_imul dX7_moveAlong_53 ?_
            refine ev_iload 0 dX7_moveAlong_54 rfl ?_
            refine ev_iadd dX7_moveAlong_56 ?_
            refine ev_dup2 dX7_moveAlong_57 rfl rfl ?_
            obtain ⟨v12, hv12, h⟩ := xbd_some h
            refine xv_iald kd_37 (xl hF rfl) hv12 dX7_moveAlong_58 ?_
            refine ev_iload_n 2 dX7_moveAlong_59 rfl rfl ?_
            refine ev_isub dX7_moveAlong_60 ?_
            obtain ⟨μ13, hμ13, h⟩ := xbd_some h
            refine xv_iast kd_37 (xl hF rfl) hμ13 dX7_moveAlong_61 ?_
            refine ev_goto (tgt := 81) dX7_moveAlong_62 (by decide) ?_
            refine ev_iload 0 dX7_moveAlong_81 rfl ?_
            refine xv_istore_n (L' := [(3, .int v6), (5, .int v6), (0, .ref (E.2.2.2 + iC_striking)), (2, .int p1), (4, .int x2)]) rfl dX7_moveAlong_83 rfl (Nat.le_of_ble_eq_true rfl) rfl ?_
            obtain ⟨x14, hx14, h⟩ := xlt_some h
            refine ev_iinc (L' := [(4, .int x14), (3, .int v6), (5, .int v6), (0, .ref (E.2.2.2 + iC_striking)), (2, .int p1)]) 4 dX7_moveAlong_84 rfl ((by rfl : x2 + Int32.ofInt 1 = x2 + 1).trans hx14) (Nat.le_of_ble_eq_true rfl) rfl ?_
            refine ev_goto (tgt := 5) dX7_moveAlong_87 (by decide) ?_
            cases h
            replace hk := xel_l hk
            exact ev_sub [3, 4, 1, 0] rfl (hk)
        · replace h := xif_t c32 h
          cases h
          replace hk := xel_r hk
          replace hk := xel_r hk
          exact ev_vret rfl (hk) dX7_moveAlong_35 (Nat.zero_le _) (Nat.zero_le _)
  · rcases q15 with q16 | q17
    · replace h := xsm_l h
      show Ev E (xcm E d 0 0 QQ) Y_X7_moveAlong 90 [] [] (xσ q16 R) n 0 0
      cases h
      exact ev_vret rfl (hQ) dX7_moveAlong_90 (Nat.zero_le _) (Nat.zero_le _)
    · replace h := xsm_r h
      cases h
      exact hQ
def fX7_room (p0 : Int32) (p1 : Int32) (μ : xm) : Option (Int32) := xbd (fX7_leftFrom p1 p0 μ) fun q1 => if q1 ≤ 0 then (xbd (fX7_dueFrom p0 p1 μ) fun q2 => xbd (fX7_leftFrom p0 p1 μ) fun q3 => some (q2 - q3)) else (some q1)
set_option maxHeartbeats 4000000 in
set_option maxRecDepth 100000 in
theorem kX7_room {E : xE} {d : Nat} {QQ : xP} (hd : 2 ≤ d) {p0 : Int32} {p1 : Int32} {μ : xm} {R : xr} {n : Nat} (hF : xFin R n)  {res : Int32} (h : fX7_room p0 p1 μ = some res) (hQ : QQ (some (.int res)) (xσ μ R) n) : xCon E d Y_X7_room 0 0 [.ref (E.2.2.2 + iC_striking), .int p0, .int p1] (xσ μ R) n QQ := by
  refine xCon_of pn_RX7 (Nat.le_of_ble_eq_true rfl) (L0 := [(0, .ref (E.2.2.2 + iC_striking)), (1, .int p0), (2, .int p1)]) rfl ?_
  unfold fX7_room at h
  refine ev_aload_n 0 dX7_room_0 rfl rfl ?_
  refine ev_iload_n 2 dX7_room_1 rfl rfl ?_
  refine ev_iload_n 1 dX7_room_2 rfl rfl ?_
  obtain ⟨q1, hq1, h⟩ := xbd_some h
  refine ev_callV (ci := 7) (rest := []) 2 (kX7_leftFrom (E := E) (d := 1) (QQ := (fun v τ n' => v = some (.int q1) ∧ τ = xσ μ R ∧ n = n')) (Nat.le_refl _) hF hq1 (⟨rfl, rfl, rfl⟩)) my_X7_leftFrom ⟨m_920, m_922, m_22⟩ cl_7 kd_35 (xl hF rfl) rfl rfl (Nat.le_of_ble_eq_true rfl) (Nat.le_trans (by decide) hd) (xlo (by decide) (Nat.le_trans (by decide) hd)) (Nat.zero_le _) (Nat.zero_le _) dX7_room_3 (fun v τ n' hv => ?_)
  obtain ⟨rfl, rfl, rfl⟩ := hv
  show Ev E (xcm E d 0 0 QQ) Y_X7_room 6 [(0, .ref (E.2.2.2 + iC_striking)), (1, .int p0), (2, .int p1)] [.int q1] (xσ μ R) n 0 0
  refine xv_istore_n (L' := [(3, .int q1), (0, .ref (E.2.2.2 + iC_striking)), (1, .int p0), (2, .int p1)]) rfl dX7_room_6 rfl (Nat.le_of_ble_eq_true rfl) rfl ?_
  refine ev_iload_n 0 dX7_room_7 rfl rfl ?_
  refine ev_if_le (tgt := 15) dX7_room_8 (by decide) (fun c8 => ?_) (fun c8 => ?_)
  · replace h := xif_t c8 h
    refine ev_aload_n 1 dX7_room_15 rfl rfl ?_
    refine ev_iload_n 2 dX7_room_16 rfl rfl ?_
    refine ev_iload_n 3 dX7_room_17 rfl rfl ?_
    obtain ⟨q2, hq2, h⟩ := xbd_some h
    refine ev_callV (ci := 7) (rest := []) 2 (kX7_dueFrom (E := E) (d := 1) (QQ := (fun v τ n' => v = some (.int q2) ∧ τ = xσ μ R ∧ n = n')) (Nat.le_refl _) hF hq2 (⟨rfl, rfl, rfl⟩)) my_X7_dueFrom ⟨m_924, m_926, m_23⟩ cl_7 kd_35 (xl hF rfl) rfl rfl (Nat.le_of_ble_eq_true rfl) (Nat.le_trans (by decide) hd) (xlo (by decide) (Nat.le_trans (by decide) hd)) (Nat.zero_le _) (Nat.zero_le _) dX7_room_18 (fun v τ n' hv => ?_)
    obtain ⟨rfl, rfl, rfl⟩ := hv
    show Ev E (xcm E d 0 0 QQ) Y_X7_room 21 [(3, .int q1), (0, .ref (E.2.2.2 + iC_striking)), (1, .int p0), (2, .int p1)] [.int q2] (xσ μ R) n 0 0
    refine ev_aload_n 1 dX7_room_21 rfl rfl ?_
    refine ev_iload_n 2 dX7_room_22 rfl rfl ?_
    refine ev_iload_n 3 dX7_room_23 rfl rfl ?_
    obtain ⟨q3, hq3, h⟩ := xbd_some h
    refine ev_callV (ci := 7) (rest := [.int q2]) 2 (kX7_leftFrom (E := E) (d := 1) (QQ := (fun v τ n' => v = some (.int q3) ∧ τ = xσ μ R ∧ n = n')) (Nat.le_refl _) hF hq3 (⟨rfl, rfl, rfl⟩)) my_X7_leftFrom ⟨m_920, m_922, m_22⟩ cl_7 kd_35 (xl hF rfl) rfl rfl (Nat.le_of_ble_eq_true rfl) (Nat.le_trans (by decide) hd) (xlo (by decide) (Nat.le_trans (by decide) hd)) (Nat.zero_le _) (Nat.zero_le _) dX7_room_24 (fun v τ n' hv => ?_)
    obtain ⟨rfl, rfl, rfl⟩ := hv
    show Ev E (xcm E d 0 0 QQ) Y_X7_room 27 [(3, .int q1), (0, .ref (E.2.2.2 + iC_striking)), (1, .int p0), (2, .int p1)] [.int q3, .int q2] (xσ μ R) n 0 0
    refine ev_isub dX7_room_27 ?_
    cases h
    exact ev_iret rfl (hQ) dX7_room_28 (Nat.zero_le _) (Nat.zero_le _)
  · replace h := xif_f c8 h
    refine ev_iload_n 0 dX7_room_11 rfl rfl ?_
    refine ev_goto (tgt := 28) dX7_room_12 (by decide) ?_
    cases h
    exact ev_iret rfl (hQ) dX7_room_28 (Nat.zero_le _) (Nat.zero_le _)
def fX10_costOfWay_b6 (x1 : Int64) (x2 : Int32) (p0 : Nat) (p1 : Int32) (p2 : Int32) (p3 : Int32) (p4 : Int32) (μ : xm) : Option ((Int64 × Int32) ⊕ (Int64)) := xbd (fX10_endsOf p1 μ) fun q4 => if q4 ≤ x2 then (some (.inr x1)) else (xbd (fX10_weightOf p1 x2 μ) fun q5 => xbd (fX10_takes p1 x2 p3 μ) fun q6 => xbd (fX10_costOfComing p0 p1 (p2 + q6) p4 μ) fun q7 => xlt (x1 + (q5.toInt64 * q7)) fun x8 => xlt (x2 + 1) fun x9 => some (.inl (x8, x9)))
def fX10_costOfWay (p0 : Nat) (p1 : Int32) (p2 : Int32) (p3 : Int32) (p4 : Int32) (μ : xm) : Option (Int64) := xbd (xloop xfu (fun v => fX10_costOfWay_b6 v.1 v.2 p0 p1 p2 p3 p4 μ) (0, 0)) fun q10 => some q10
set_option maxHeartbeats 4000000 in
set_option maxRecDepth 100000 in
theorem kX10_costOfWay {E : xE} {d : Nat} {QQ : xP} (hd : 3 ≤ d) {p0 : Nat} {p1 : Int32} {p2 : Int32} {p3 : Int32} {p4 : Int32} {μ : xm} {R : xr} {n : Nat} (hF : xFin R n) (hp0 : xIs 2 p0 n) {res : Int64} (h : fX10_costOfWay p0 p1 p2 p3 p4 μ = some res) (hQ : QQ (some (.long res)) (xσ μ R) n) : xCon E d Y_X10_costOfWay 0 0 [.ref (E.2.2.2 + iC_ways), .ref (E.2.2.2 + p0), .int p1, .int p2, .int p3, .int p4] (xσ μ R) n QQ := by
  refine xCon_of pn_RX10 (Nat.le_of_ble_eq_true rfl) (L0 := [(0, .ref (E.2.2.2 + iC_ways)), (1, .ref (E.2.2.2 + p0)), (2, .int p1), (3, .int p2), (4, .int p3), (5, .int p4)]) rfl ?_
  unfold fX10_costOfWay at h
  refine ev_lconst (v := 0) dX10_costOfWay_0 (by decide) ?_
  refine xv_lstore (L' := [(6, .long 0), (0, .ref (E.2.2.2 + iC_ways)), (1, .ref (E.2.2.2 + p0)), (2, .int p1), (3, .int p2), (4, .int p3), (5, .int p4)]) rfl dX10_costOfWay_1 (Nat.le_of_ble_eq_true rfl) rfl ?_
  refine ev_iconst (v := 0) dX10_costOfWay_3 (by decide) ?_
  refine xv_istore (L' := [(8, .int 0), (6, .long 0), (0, .ref (E.2.2.2 + iC_ways)), (1, .ref (E.2.2.2 + p0)), (2, .int p1), (3, .int p2), (4, .int p3), (5, .int p4)]) rfl dX10_costOfWay_4 (Nat.le_of_ble_eq_true rfl) rfl ?_
  obtain ⟨q10, hq10, h⟩ := xbd_some h
  refine ev_sub (L' := [(0, .ref (E.2.2.2 + iC_ways)), (1, .ref (E.2.2.2 + p0)), (2, .int p1), (3, .int p2), (4, .int p3), (5, .int p4), (6, .long 0), (8, .int 0)]) [2, 3, 4, 5, 6, 7, 1, 0] rfl ?_
  refine xloop_run (fun v => Ev E (xcm E d 0 0 QQ) Y_X10_costOfWay 6 [(0, .ref (E.2.2.2 + iC_ways)), (1, .ref (E.2.2.2 + p0)), (2, .int p1), (3, .int p2), (4, .int p3), (5, .int p4), (6, .long v.1), (8, .int v.2)] [] (xσ μ R) n 0 0) (fun v => Ev E (xcm E d 0 0 QQ) Y_X10_costOfWay 55 [(6, .long v)] [] (xσ μ R) n 0 0) ?_ _ _ _ hq10 ?_
  · rintro ⟨x1, x2⟩ y3 h hk
    replace h : fX10_costOfWay_b6 x1 x2 p0 p1 p2 p3 p4 μ = some y3 := h
    show Ev E (xcm E d 0 0 QQ) Y_X10_costOfWay 6 [(0, .ref (E.2.2.2 + iC_ways)), (1, .ref (E.2.2.2 + p0)), (2, .int p1), (3, .int p2), (4, .int p3), (5, .int p4), (6, .long x1), (8, .int x2)] [] (xσ μ R) n 0 0
    unfold fX10_costOfWay_b6 at h
    refine ev_iload 7 dX10_costOfWay_6 rfl ?_
    refine ev_aload_n 0 dX10_costOfWay_8 rfl rfl ?_
    refine ev_iload_n 2 dX10_costOfWay_9 rfl rfl ?_
    obtain ⟨q4, hq4, h⟩ := xbd_some h
    refine ev_callV (ci := 10) (rest := [.int x2]) 1 (kX10_endsOf (E := E) (d := 1) (QQ := (fun v τ n' => v = some (.int q4) ∧ τ = xσ μ R ∧ n = n')) (Nat.le_refl _) hF hq4 (⟨rfl, rfl, rfl⟩)) my_X10_endsOf ⟨m_999, m_1000, m_1001⟩ cl_10 kd_42 (xl hF rfl) rfl rfl (Nat.le_of_ble_eq_true rfl) (Nat.le_trans (by decide) hd) (xlo (by decide) (Nat.le_trans (by decide) hd)) (Nat.zero_le _) (Nat.zero_le _) dX10_costOfWay_10 (fun v τ n' hv => ?_)
    obtain ⟨rfl, rfl, rfl⟩ := hv
    show Ev E (xcm E d 0 0 QQ) Y_X10_costOfWay 13 [(0, .ref (E.2.2.2 + iC_ways)), (1, .ref (E.2.2.2 + p0)), (2, .int p1), (3, .int p2), (4, .int p3), (5, .int p4), (6, .long x1), (8, .int x2)] [.int q4, .int x2] (xσ μ R) n 0 0
    refine ev_icmp_ge (tgt := 55) dX10_costOfWay_13 (by decide) (fun c13 => ?_) (fun c13 => ?_)
    · replace h := xif_t c13 h
      cases h
      replace hk := xel_r hk
      exact ev_sub [6] rfl (hk)
    · replace h := xif_f c13 h
      refine ev_lload 6 dX10_costOfWay_16 rfl ?_
      refine ev_aload_n 0 dX10_costOfWay_18 rfl rfl ?_
      refine ev_iload_n 2 dX10_costOfWay_19 rfl rfl ?_
      refine ev_iload 7 dX10_costOfWay_20 rfl ?_
      obtain ⟨q5, hq5, h⟩ := xbd_some h
      refine ev_callV (ci := 10) (rest := [.long x1]) 2 (kX10_weightOf (E := E) (d := 1) (QQ := (fun v τ n' => v = some (.int q5) ∧ τ = xσ μ R ∧ n = n')) (Nat.le_refl _) hF hq5 (⟨rfl, rfl, rfl⟩)) my_X10_weightOf ⟨m_1009, m_1010, m_1011⟩ cl_10 kd_42 (xl hF rfl) rfl rfl (Nat.le_of_ble_eq_true rfl) (Nat.le_trans (by decide) hd) (xlo (by decide) (Nat.le_trans (by decide) hd)) (Nat.zero_le _) (Nat.zero_le _) dX10_costOfWay_22 (fun v τ n' hv => ?_)
      obtain ⟨rfl, rfl, rfl⟩ := hv
      show Ev E (xcm E d 0 0 QQ) Y_X10_costOfWay 25 [(0, .ref (E.2.2.2 + iC_ways)), (1, .ref (E.2.2.2 + p0)), (2, .int p1), (3, .int p2), (4, .int p3), (5, .int p4), (6, .long x1), (8, .int x2)] [.int q5, .long x1] (xσ μ R) n 0 0
      refine ev_i2l dX10_costOfWay_25 ?_
      refine ev_aload_n 0 dX10_costOfWay_26 rfl rfl ?_
      refine ev_aload_n 1 dX10_costOfWay_27 rfl rfl ?_
      refine ev_iload_n 2 dX10_costOfWay_28 rfl rfl ?_
      refine ev_iload_n 3 dX10_costOfWay_29 rfl rfl ?_
      refine ev_aload_n 0 dX10_costOfWay_30 rfl rfl ?_
      refine ev_iload_n 2 dX10_costOfWay_31 rfl rfl ?_
      refine ev_iload 7 dX10_costOfWay_32 rfl ?_
      refine ev_iload 4 dX10_costOfWay_34 rfl ?_
      obtain ⟨q6, hq6, h⟩ := xbd_some h
      refine ev_callV (ci := 10) (rest := [.int p2, .int p1, .ref (E.2.2.2 + p0), .ref (E.2.2.2 + iC_ways), .long (q5.toInt64), .long x1]) 3 (kX10_takes (E := E) (d := 1) (QQ := (fun v τ n' => v = some (.int q6) ∧ τ = xσ μ R ∧ n = n')) (Nat.le_refl _) hF hq6 (⟨rfl, rfl, rfl⟩)) my_X10_takes ⟨m_1004, m_1005, m_1006⟩ cl_10 kd_42 (xl hF rfl) rfl rfl (Nat.le_of_ble_eq_true rfl) (Nat.le_trans (by decide) hd) (xlo (by decide) (Nat.le_trans (by decide) hd)) (Nat.zero_le _) (Nat.zero_le _) dX10_costOfWay_36 (fun v τ n' hv => ?_)
      obtain ⟨rfl, rfl, rfl⟩ := hv
      show Ev E (xcm E d 0 0 QQ) Y_X10_costOfWay 39 [(0, .ref (E.2.2.2 + iC_ways)), (1, .ref (E.2.2.2 + p0)), (2, .int p1), (3, .int p2), (4, .int p3), (5, .int p4), (6, .long x1), (8, .int x2)] [.int q6, .int p2, .int p1, .ref (E.2.2.2 + p0), .ref (E.2.2.2 + iC_ways), .long (q5.toInt64), .long x1] (xσ μ R) n 0 0
      refine ev_iadd dX10_costOfWay_39 ?_
      refine ev_iload 5 dX10_costOfWay_40 rfl ?_
      obtain ⟨q7, hq7, h⟩ := xbd_some h
      refine ev_callV (ci := 10) (rest := [.long (q5.toInt64), .long x1]) 4 (kX10_costOfComing (E := E) (d := 2) (QQ := (fun v τ n' => v = some (.long q7) ∧ τ = xσ μ R ∧ n = n')) (Nat.le_refl _) hF hp0 hq7 (⟨rfl, rfl, rfl⟩)) my_X10_costOfComing ⟨m_1058, m_1060, m_31⟩ cl_10 kd_42 (xl hF rfl) rfl rfl (Nat.le_of_ble_eq_true rfl) (Nat.le_trans (by decide) hd) (xlo (by decide) (Nat.le_trans (by decide) hd)) (Nat.zero_le _) (Nat.zero_le _) dX10_costOfWay_42 (fun v τ n' hv => ?_)
      obtain ⟨rfl, rfl, rfl⟩ := hv
      show Ev E (xcm E d 0 0 QQ) Y_X10_costOfWay 45 [(0, .ref (E.2.2.2 + iC_ways)), (1, .ref (E.2.2.2 + p0)), (2, .int p1), (3, .int p2), (4, .int p3), (5, .int p4), (6, .long x1), (8, .int x2)] [.long q7, .long (q5.toInt64), .long x1] (xσ μ R) n 0 0
      refine ev_lmul dX10_costOfWay_45 ?_
      refine ev_ladd dX10_costOfWay_46 ?_
      obtain ⟨x8, hx8, h⟩ := xlt_some h
      refine xv_lstore (L' := [(6, .long x8), (0, .ref (E.2.2.2 + iC_ways)), (1, .ref (E.2.2.2 + p0)), (2, .int p1), (3, .int p2), (4, .int p3), (5, .int p4), (8, .int x2)]) hx8 dX10_costOfWay_47 (Nat.le_of_ble_eq_true rfl) rfl ?_
      obtain ⟨x9, hx9, h⟩ := xlt_some h
      refine ev_iinc (L' := [(8, .int x9), (6, .long x8), (0, .ref (E.2.2.2 + iC_ways)), (1, .ref (E.2.2.2 + p0)), (2, .int p1), (3, .int p2), (4, .int p3), (5, .int p4)]) 7 dX10_costOfWay_49 rfl ((by rfl : x2 + Int32.ofInt 1 = x2 + 1).trans hx9) (Nat.le_of_ble_eq_true rfl) rfl ?_
      refine ev_goto (tgt := 6) dX10_costOfWay_52 (by decide) ?_
      cases h
      replace hk := xel_l hk
      exact ev_sub [2, 3, 4, 5, 6, 7, 1, 0] rfl (hk)
  · show Ev E (xcm E d 0 0 QQ) Y_X10_costOfWay 55 [(6, .long q10)] [] (xσ μ R) n 0 0
    refine ev_lload 0 dX10_costOfWay_55 rfl ?_
    cases h
    exact ev_lret rfl (hQ) dX10_costOfWay_57 (Nat.zero_le _) (Nat.zero_le _)
def fX10_countLate_b69 (x11 : Int32) (μ12 : xm) (x7 : Int64) (x9 : Int64) : Option ((Int32 × xm) ⊕ (xm)) := if x11 ≤ 0 then (some (.inr μ12)) else (xbd (xgJ μ12 iC_ways_late 9 x11) fun v14 => xbd (xgJ μ12 iC_ways_late 9 (x11 - 1)) fun v15 => xbd (xsJ μ12 iC_ways_late 9 x11 ((v14 * x9) + (v15 * x7))) fun μ16 => xlt (x11 + (-1)) fun x17 => some (.inl (x17, μ16)))
def fX10_countLate_b18 (x3 : Int32) (μ4 : xm) (p0 : Int32) (p1 : Int32) (p2 : Int32) : Option ((Int32 × xm) ⊕ (xm)) := if 8 ≤ x3 then (some (.inr μ4)) else (if ((p0 >>> (x3 &&& 31)) &&& 1) = 0 then (xlt (x3 + 1) fun x22 => some (.inl (x22, μ4))) else (xbd (fX10_lateEnds x3 p1 p2 μ4) fun q6 => xlt q6.toInt64 fun x7 => xbd (fX10_weightsOf x3 μ4) fun q8 => xlt (q8.toInt64 - x7) fun x9 => xlt (9 - 1) fun x10 => xbd (xloop xfu (fun v => fX10_countLate_b69 v.1 v.2 x7 x9) (x10, μ4)) fun q18 => xbd (xgJ q18 iC_ways_late 9 0) fun v19 => xbd (xsJ q18 iC_ways_late 9 0 (v19 * x9)) fun μ20 => xlt (x3 + 1) fun x21 => some (.inl (x21, μ20))))
def fX10_countLate (p0 : Int32) (p1 : Int32) (p2 : Int32) (μ : xm) : Option (xm) := xbd (fJ7_fill_d0a16 iC_ways_late 0 μ) fun q1 => xbd (xsJ q1 iC_ways_late 9 0 1) fun μ2 => xbd (xloop xfu (fun v => fX10_countLate_b18 v.1 v.2 p0 p1 p2) (0, μ2)) fun q23 => some q23
set_option maxHeartbeats 4000000 in
set_option maxRecDepth 100000 in
theorem kX10_countLate {E : xE} {d : Nat} {QQ : xP} (hd : 3 ≤ d) {p0 : Int32} {p1 : Int32} {p2 : Int32} {μ : xm} {R : xr} {n : Nat} (hF : xFin R n)  {res : xm} (h : fX10_countLate p0 p1 p2 μ = some res) (hQ : QQ none (xσ res R) n) : xCon E d Y_X10_countLate 0 0 [.ref (E.2.2.2 + iC_ways), .int p0, .int p1, .int p2] (xσ μ R) n QQ := by
  refine xCon_of pn_RX10 (Nat.le_of_ble_eq_true rfl) (L0 := [(0, .ref (E.2.2.2 + iC_ways)), (1, .int p0), (2, .int p1), (3, .int p2)]) rfl ?_
  unfold fX10_countLate at h
  refine ev_aload_n 0 dX10_countLate_0 rfl rfl ?_
  refine xv_getF (a := iC_ways_late) cl_10 lk_RX10_28 kd_42 (xl hF rfl) (fun _ => rfl) (fr_42_6 hF) dX10_countLate_1 ?_
  refine ev_lconst (v := 0) dX10_countLate_4 (by decide) ?_
  obtain ⟨q1, hq1, h⟩ := xbd_some h
  refine ev_callS (As := [.ref (E.2.2.2 + iC_ways_late), .long 0]) (rest := []) 2 (kJ7_fill_d0a16 (E := E) (d := 0) (QQ := (fun v τ n' => v = none ∧ τ = xσ q1 R ∧ n = n')) (Nat.le_refl _) (xIsA_of kd_48 (xl hF rfl)) hq1 (⟨rfl, rfl, rfl⟩)) my_J7_fill_d0a16 ⟨m_1042, m_1043⟩ rfl rfl (Nat.le_of_ble_eq_true rfl) (Nat.le_trans (by decide) hd) (xlo (by decide) (Nat.le_trans (by decide) hd)) (Nat.zero_le _) (Nat.zero_le _) dX10_countLate_5 (fun v τ n' hv => ?_)
  obtain ⟨rfl, rfl, rfl⟩ := hv
  show Ev E (xcm E d 0 0 QQ) Y_X10_countLate 8 [(0, .ref (E.2.2.2 + iC_ways)), (1, .int p0), (2, .int p1), (3, .int p2)] [] (xσ q1 R) n 0 0
  refine ev_aload_n 0 dX10_countLate_8 rfl rfl ?_
  refine xv_getF (a := iC_ways_late) cl_10 lk_RX10_28 kd_42 (xl hF rfl) (fun _ => rfl) (fr_42_6 hF) dX10_countLate_9 ?_
  refine ev_iconst (v := 0) dX10_countLate_12 (by decide) ?_
  refine ev_lconst (v := 1) dX10_countLate_13 (by decide) ?_
  obtain ⟨μ2, hμ2, h⟩ := xbd_some h
  refine xv_last kd_48 (xl hF rfl) hμ2 dX10_countLate_14 ?_
  refine ev_iconst (v := 0) dX10_countLate_15 (by decide) ?_
  refine xv_istore (L' := [(4, .int 0), (0, .ref (E.2.2.2 + iC_ways)), (1, .int p0), (2, .int p1), (3, .int p2)]) rfl dX10_countLate_16 (Nat.le_of_ble_eq_true rfl) rfl ?_
  obtain ⟨q23, hq23, h⟩ := xbd_some h
  refine ev_sub (L' := [(0, .ref (E.2.2.2 + iC_ways)), (1, .int p0), (2, .int p1), (3, .int p2), (4, .int 0)]) [1, 2, 3, 4, 0] rfl ?_
  refine xloop_run (fun v => Ev E (xcm E d 0 0 QQ) Y_X10_countLate 18 [(0, .ref (E.2.2.2 + iC_ways)), (1, .int p0), (2, .int p1), (3, .int p2), (4, .int v.1)] [] (xσ v.2 R) n 0 0) (fun v => Ev E (xcm E d 0 0 QQ) Y_X10_countLate 127 [] [] (xσ v R) n 0 0) ?_ _ _ _ hq23 ?_
  · rintro ⟨x3, μ4⟩ y5 h hk
    replace h : fX10_countLate_b18 x3 μ4 p0 p1 p2 = some y5 := h
    show Ev E (xcm E d 0 0 QQ) Y_X10_countLate 18 [(0, .ref (E.2.2.2 + iC_ways)), (1, .int p0), (2, .int p1), (3, .int p2), (4, .int x3)] [] (xσ μ4 R) n 0 0
    unfold fX10_countLate_b18 at h
    refine ev_iload 4 dX10_countLate_18 rfl ?_
    refine ev_bipush (v := 8) dX10_countLate_20 (by decide) ?_
    refine ev_icmp_ge (tgt := 127) dX10_countLate_22 (by decide) (fun c22 => ?_) (fun c22 => ?_)
    · replace h := xif_t c22 h
      cases h
      replace hk := xel_r hk
      exact ev_sub [] rfl (hk)
    · replace h := xif_f c22 h
      refine ev_iload_n 1 dX10_countLate_25 rfl rfl ?_
      refine ev_iload 4 dX10_countLate_26 rfl ?_
      refine ev_ishr dX10_countLate_28 ?_
      refine ev_iconst (v := 1) dX10_countLate_29 (by decide) ?_
      refine ev_iand dX10_countLate_30 ?_
      refine ev_if_ne (tgt := 37) dX10_countLate_31 (by decide) (fun c31 => ?_) (fun c31 => ?_)
      · replace h := xif_f c31 h
        refine ev_aload_n 0 dX10_countLate_37 rfl rfl ?_
        refine ev_iload 4 dX10_countLate_38 rfl ?_
        refine ev_iload_n 2 dX10_countLate_40 rfl rfl ?_
        refine ev_iload_n 3 dX10_countLate_41 rfl rfl ?_
        obtain ⟨q6, hq6, h⟩ := xbd_some h
        refine ev_callV (ci := 10) (rest := []) 3 (kX10_lateEnds (E := E) (d := 2) (QQ := (fun v τ n' => v = some (.int q6) ∧ τ = xσ μ4 R ∧ n = n')) (Nat.le_refl _) hF hq6 (⟨rfl, rfl, rfl⟩)) my_X10_lateEnds ⟨m_995, m_997, m_28⟩ cl_10 kd_42 (xl hF rfl) rfl rfl (Nat.le_of_ble_eq_true rfl) (Nat.le_trans (by decide) hd) (xlo (by decide) (Nat.le_trans (by decide) hd)) (Nat.zero_le _) (Nat.zero_le _) dX10_countLate_42 (fun v τ n' hv => ?_)
        obtain ⟨rfl, rfl, rfl⟩ := hv
        show Ev E (xcm E d 0 0 QQ) Y_X10_countLate 45 [(0, .ref (E.2.2.2 + iC_ways)), (1, .int p0), (2, .int p1), (3, .int p2), (4, .int x3)] [.int q6] (xσ μ4 R) n 0 0
        refine ev_i2l dX10_countLate_45 ?_
        obtain ⟨x7, hx7, h⟩ := xlt_some h
        refine xv_lstore (L' := [(5, .long x7), (0, .ref (E.2.2.2 + iC_ways)), (1, .int p0), (2, .int p1), (3, .int p2), (4, .int x3)]) hx7 dX10_countLate_46 (Nat.le_of_ble_eq_true rfl) rfl ?_
        refine ev_aload_n 1 dX10_countLate_48 rfl rfl ?_
        refine ev_iload 5 dX10_countLate_49 rfl ?_
        obtain ⟨q8, hq8, h⟩ := xbd_some h
        refine ev_callV (ci := 10) (rest := []) 1 (kX10_weightsOf (E := E) (d := 1) (QQ := (fun v τ n' => v = some (.int q8) ∧ τ = xσ μ4 R ∧ n = n')) (Nat.le_refl _) hF hq8 (⟨rfl, rfl, rfl⟩)) my_X10_weightsOf ⟨m_1045, m_1018, m_1019⟩ cl_10 kd_42 (xl hF rfl) rfl rfl (Nat.le_of_ble_eq_true rfl) (Nat.le_trans (by decide) hd) (xlo (by decide) (Nat.le_trans (by decide) hd)) (Nat.zero_le _) (Nat.zero_le _) dX10_countLate_51 (fun v τ n' hv => ?_)
        obtain ⟨rfl, rfl, rfl⟩ := hv
        show Ev E (xcm E d 0 0 QQ) Y_X10_countLate 54 [(5, .long x7), (0, .ref (E.2.2.2 + iC_ways)), (1, .int p0), (2, .int p1), (3, .int p2), (4, .int x3)] [.int q8] (xσ μ4 R) n 0 0
        refine ev_i2l dX10_countLate_54 ?_
        refine ev_lload 0 dX10_countLate_55 rfl ?_
        refine ev_lsub dX10_countLate_57 ?_
        obtain ⟨x9, hx9, h⟩ := xlt_some h
        refine xv_lstore (L' := [(7, .long x9), (5, .long x7), (0, .ref (E.2.2.2 + iC_ways)), (1, .int p0), (2, .int p1), (3, .int p2), (4, .int x3)]) hx9 dX10_countLate_58 (Nat.le_of_ble_eq_true rfl) rfl ?_
        refine ev_aload_n 2 dX10_countLate_60 rfl rfl ?_
        refine xv_getF (a := iC_ways_late) cl_10 lk_RX10_28 kd_42 (xl hF rfl) (fun _ => rfl) (fr_42_6 hF) dX10_countLate_61 ?_
        refine ev_alen (v := 9) 1 (by decide) kd_48 (xl hF rfl) rfl dX10_countLate_64 ?_
        refine ev_iconst (v := 1) dX10_countLate_65 (by decide) ?_
        refine ev_isub dX10_countLate_66 ?_
        obtain ⟨x10, hx10, h⟩ := xlt_some h
        refine xv_istore (L' := [(9, .int x10), (7, .long x9), (5, .long x7), (0, .ref (E.2.2.2 + iC_ways)), (1, .int p0), (2, .int p1), (3, .int p2), (4, .int x3)]) hx10 dX10_countLate_67 (Nat.le_of_ble_eq_true rfl) rfl ?_
        obtain ⟨q18, hq18, h⟩ := xbd_some h
        refine ev_sub (L' := [(0, .ref (E.2.2.2 + iC_ways)), (1, .int p0), (2, .int p1), (3, .int p2), (4, .int x3), (5, .long x7), (7, .long x9), (9, .int x10)]) [3, 4, 5, 6, 7, 2, 1, 0] rfl ?_
        refine xloop_run (fun v => Ev E (xcm E d 0 0 QQ) Y_X10_countLate 69 [(0, .ref (E.2.2.2 + iC_ways)), (1, .int p0), (2, .int p1), (3, .int p2), (4, .int x3), (5, .long x7), (7, .long x9), (9, .int v.1)] [] (xσ v.2 R) n 0 0) (fun v => Ev E (xcm E d 0 0 QQ) Y_X10_countLate 110 [(0, .ref (E.2.2.2 + iC_ways)), (1, .int p0), (2, .int p1), (3, .int p2), (4, .int x3), (7, .long x9)] [] (xσ v R) n 0 0) ?_ _ _ _ hq18 ?_
        · rintro ⟨x11, μ12⟩ y13 h hk
          replace h : fX10_countLate_b69 x11 μ12 x7 x9 = some y13 := h
          show Ev E (xcm E d 0 0 QQ) Y_X10_countLate 69 [(0, .ref (E.2.2.2 + iC_ways)), (1, .int p0), (2, .int p1), (3, .int p2), (4, .int x3), (5, .long x7), (7, .long x9), (9, .int x11)] [] (xσ μ12 R) n 0 0
          unfold fX10_countLate_b69 at h
          refine ev_iload 7 dX10_countLate_69 rfl ?_
          refine ev_if_le (tgt := 110) dX10_countLate_71 (by decide) (fun c71 => ?_) (fun c71 => ?_)
          · replace h := xif_t c71 h
            cases h
            replace hk := xel_r hk
            exact ev_sub [0, 1, 2, 3, 4, 6] rfl (hk)
          · replace h := xif_f c71 h
            refine ev_aload_n 0 dX10_countLate_74 rfl rfl ?_
            refine xv_getF (a := iC_ways_late) cl_10 lk_RX10_28 kd_42 (xl hF rfl) (fun _ => rfl) (fr_42_6 hF) dX10_countLate_75 ?_
            refine ev_iload 7 dX10_countLate_78 rfl ?_
            refine ev_aload_n 0 dX10_countLate_80 rfl rfl ?_
            refine xv_getF (a := iC_ways_late) cl_10 lk_RX10_28 kd_42 (xl hF rfl) (fun _ => rfl) (fr_42_6 hF) dX10_countLate_81 ?_
            refine ev_iload 7 dX10_countLate_84 rfl ?_
            obtain ⟨v14, hv14, h⟩ := xbd_some h
            refine xv_lald kd_48 (xl hF rfl) hv14 dX10_countLate_86 ?_
            refine ev_lload 6 dX10_countLate_87 rfl ?_
            refine ev_lmul dX10_countLate_89 ?_
            refine ev_aload_n 0 dX10_countLate_90 rfl rfl ?_
            refine xv_getF (a := iC_ways_late) cl_10 lk_RX10_28 kd_42 (xl hF rfl) (fun _ => rfl) (fr_42_6 hF) dX10_countLate_91 ?_
            refine ev_iload 7 dX10_countLate_94 rfl ?_
            refine ev_iconst (v := 1) dX10_countLate_96 (by decide) ?_
            refine ev_isub dX10_countLate_97 ?_
            obtain ⟨v15, hv15, h⟩ := xbd_some h
            refine xv_lald kd_48 (xl hF rfl) hv15 dX10_countLate_98 ?_
            refine ev_lload 5 dX10_countLate_99 rfl ?_
            refine ev_lmul dX10_countLate_101 ?_
            refine ev_ladd dX10_countLate_102 ?_
            obtain ⟨μ16, hμ16, h⟩ := xbd_some h
            refine xv_last kd_48 (xl hF rfl) hμ16 dX10_countLate_103 ?_
            obtain ⟨x17, hx17, h⟩ := xlt_some h
            refine ev_iinc (L' := [(9, .int x17), (0, .ref (E.2.2.2 + iC_ways)), (1, .int p0), (2, .int p1), (3, .int p2), (4, .int x3), (5, .long x7), (7, .long x9)]) 7 dX10_countLate_104 rfl ((by rfl : x11 + Int32.ofInt (-1) = x11 + (-1)).trans hx17) (Nat.le_of_ble_eq_true rfl) rfl ?_
            refine ev_goto (tgt := 69) dX10_countLate_107 (by decide) ?_
            cases h
            replace hk := xel_l hk
            exact ev_sub [1, 2, 3, 4, 5, 6, 7, 0] rfl (hk)
        · show Ev E (xcm E d 0 0 QQ) Y_X10_countLate 110 [(0, .ref (E.2.2.2 + iC_ways)), (1, .int p0), (2, .int p1), (3, .int p2), (4, .int x3), (7, .long x9)] [] (xσ q18 R) n 0 0
          refine ev_aload_n 0 dX10_countLate_110 rfl rfl ?_
          refine xv_getF (a := iC_ways_late) cl_10 lk_RX10_28 kd_42 (xl hF rfl) (fun _ => rfl) (fr_42_6 hF) dX10_countLate_111 ?_
          refine ev_iconst (v := 0) dX10_countLate_114 (by decide) ?_
          refine ev_dup2 dX10_countLate_115 rfl rfl ?_
          obtain ⟨v19, hv19, h⟩ := xbd_some h
          refine xv_lald kd_48 (xl hF rfl) hv19 dX10_countLate_116 ?_
          refine ev_lload 5 dX10_countLate_117 rfl ?_
          refine ev_lmul dX10_countLate_119 ?_
          obtain ⟨μ20, hμ20, h⟩ := xbd_some h
          refine xv_last kd_48 (xl hF rfl) hμ20 dX10_countLate_120 ?_
          obtain ⟨x21, hx21, h⟩ := xlt_some h
          refine ev_iinc (L' := [(4, .int x21), (0, .ref (E.2.2.2 + iC_ways)), (1, .int p0), (2, .int p1), (3, .int p2), (7, .long x9)]) 4 dX10_countLate_121 rfl ((by rfl : x3 + Int32.ofInt 1 = x3 + 1).trans hx21) (Nat.le_of_ble_eq_true rfl) rfl ?_
          refine ev_goto (tgt := 18) dX10_countLate_124 (by decide) ?_
          cases h
          replace hk := xel_l hk
          exact ev_sub [1, 2, 3, 4, 0] rfl (hk)
      · replace h := xif_t c31 h
        refine ev_goto (tgt := 121) dX10_countLate_34 (by decide) ?_
        obtain ⟨x22, hx22, h⟩ := xlt_some h
        refine ev_iinc (L' := [(4, .int x22), (0, .ref (E.2.2.2 + iC_ways)), (1, .int p0), (2, .int p1), (3, .int p2)]) 4 dX10_countLate_121 rfl ((by rfl : x3 + Int32.ofInt 1 = x3 + 1).trans hx22) (Nat.le_of_ble_eq_true rfl) rfl ?_
        refine ev_goto (tgt := 18) dX10_countLate_124 (by decide) ?_
        cases h
        replace hk := xel_l hk
        exact ev_sub [1, 2, 3, 4, 0] rfl (hk)
  · show Ev E (xcm E d 0 0 QQ) Y_X10_countLate 127 [] [] (xσ q23 R) n 0 0
    cases h
    exact ev_vret rfl (hQ) dX10_countLate_127 (Nat.zero_le _) (Nat.zero_le _)
def fX10_drawComings_b27 (x4 : Int32) (μ5 : xm) (p0 : Nat) (p1 : Int32) (x3 : Int32) : Option ((Int32 × xm) ⊕ (xm)) := if 8 ≤ x4 then (some (.inr μ5)) else (xbd (fX2_includes p0 x4 μ5) fun q7 => if q7 = 0 then (xlt (x4 + 1) fun x14 => some (.inl (x14, μ5))) else (xbd (fX10_drawEnd x4 μ5) fun q8 => xbd (fX10_takes x4 q8.1 x3 q8.2) fun q9 => xlt (((μ5.1 p0 1) - p1) + q9) fun x10 => xbd (fX11_held x10 0 1439) fun q11 => xbd (fX2_tell p0 x4 q11 q8.2) fun q12 => xlt (x4 + 1) fun x13 => some (.inl (x13, q12))))
def fX10_drawComings_j23 (x3 : Int32) (p0 : Nat) (p1 : Int32) (q1 : (Int32 × xm)) : Option (Int32 × xm) := xbd (xloop xfu (fun v => fX10_drawComings_b27 v.1 v.2 p0 p1 x3) (0, q1.2)) fun q15 => some (x3, q15)
def fX10_drawComings (p0 : Nat) (p1 : Int32) (μ : xm) : Option (Int32 × xm) := xbd (fX10_drawNext μ) fun q1 => xbd (fX11_leftOver q1.1 (q1.2.1 iC_ways 8)) fun q2 => if (q1.2.1 iC_ways 7) ≤ q2 then (fX10_drawComings_j23 0 p0 p1 q1) else (fX10_drawComings_j23 1 p0 p1 q1)
set_option maxHeartbeats 4000000 in
set_option maxRecDepth 100000 in
theorem kX10_drawComings {E : xE} {d : Nat} {QQ : xP} (hd : 3 ≤ d) {p0 : Nat} {p1 : Int32} {μ : xm} {R : xr} {n : Nat} (hF : xFin R n) (hp0 : xIs 2 p0 n) {res : Int32 × xm} (h : fX10_drawComings p0 p1 μ = some res) (hQ : QQ (some (.int res.1)) (xσ res.2 R) n) : xCon E d Y_X10_drawComings 0 0 [.ref (E.2.2.2 + iC_ways), .ref (E.2.2.2 + p0), .int p1] (xσ μ R) n QQ := by
  refine xCon_of pn_RX10 (Nat.le_of_ble_eq_true rfl) (L0 := [(0, .ref (E.2.2.2 + iC_ways)), (1, .ref (E.2.2.2 + p0)), (2, .int p1)]) rfl ?_
  unfold fX10_drawComings at h
  refine ev_aload_n 0 dX10_drawComings_0 rfl rfl ?_
  obtain ⟨q1, hq1, h⟩ := xbd_some h
  refine ev_callV (ci := 10) (rest := []) 0 (kX10_drawNext (E := E) (d := 0) (QQ := (fun v τ n' => v = some (.int q1.1) ∧ τ = xσ q1.2 R ∧ n = n')) (Nat.le_refl _) hF hq1 (⟨rfl, rfl, rfl⟩)) my_X10_drawNext ⟨m_1191, m_1193, m_38⟩ cl_10 kd_42 (xl hF rfl) rfl rfl (Nat.le_of_ble_eq_true rfl) (Nat.le_trans (by decide) hd) (xlo (by decide) (Nat.le_trans (by decide) hd)) (Nat.zero_le _) (Nat.zero_le _) dX10_drawComings_1 (fun v τ n' hv => ?_)
  obtain ⟨rfl, rfl, rfl⟩ := hv
  show Ev E (xcm E d 0 0 QQ) Y_X10_drawComings 4 [(0, .ref (E.2.2.2 + iC_ways)), (1, .ref (E.2.2.2 + p0)), (2, .int p1)] [.int q1.1] (xσ q1.2 R) n 0 0
  refine ev_aload_n 0 dX10_drawComings_4 rfl rfl ?_
  refine xv_getI cl_10 lk_RX10_32 kd_42 (xl hF rfl) (fun _ => rfl) dX10_drawComings_5 ?_
  obtain ⟨q2, hq2, h⟩ := xbd_some h
  refine ev_callSN (As := [.int q1.1, .int (q1.2.1 iC_ways 8)]) (rest := []) 2 (kX11_leftOver (E := E) (d := 0) (QQ := (fun v τ n' => v = some (.int q2) ∧ τ = xσ q1.2 R ∧ n = n')) (Nat.le_refl _)  hq2 (⟨rfl, rfl, rfl⟩)) my_X11_leftOver ⟨⟨_, xnm_13⟩, m_1025⟩ rfl rfl (Nat.le_of_ble_eq_true rfl) (Nat.le_trans (by decide) hd) (xlo (by decide) (Nat.le_trans (by decide) hd)) (Nat.zero_le _) (Nat.zero_le _) dX10_drawComings_8 (fun v τ n' hv => ?_)
  obtain ⟨rfl, rfl, rfl⟩ := hv
  show Ev E (xcm E d 0 0 QQ) Y_X10_drawComings 11 [(0, .ref (E.2.2.2 + iC_ways)), (1, .ref (E.2.2.2 + p0)), (2, .int p1)] [.int q2] (xσ q1.2 R) n 0 0
  refine ev_aload_n 0 dX10_drawComings_11 rfl rfl ?_
  refine xv_getI cl_10 lk_RX10_60 kd_42 (xl hF rfl) (fun _ => rfl) dX10_drawComings_12 ?_
  have j23 : ∀ (x3 : Int32), fX10_drawComings_j23 x3 p0 p1 q1 = some res → Ev E (xcm E d 0 0 QQ) Y_X10_drawComings 23 [(0, .ref (E.2.2.2 + iC_ways)), (1, .ref (E.2.2.2 + p0)), (2, .int p1)] [.int x3] (xσ q1.2 R) n 0 0 := by
    intro x3 h
    unfold fX10_drawComings_j23 at h
    refine xv_istore_n (L' := [(3, .int x3), (0, .ref (E.2.2.2 + iC_ways)), (1, .ref (E.2.2.2 + p0)), (2, .int p1)]) rfl dX10_drawComings_23 rfl (Nat.le_of_ble_eq_true rfl) rfl ?_
    refine ev_iconst (v := 0) dX10_drawComings_24 (by decide) ?_
    refine xv_istore (L' := [(4, .int 0), (3, .int x3), (0, .ref (E.2.2.2 + iC_ways)), (1, .ref (E.2.2.2 + p0)), (2, .int p1)]) rfl dX10_drawComings_25 (Nat.le_of_ble_eq_true rfl) rfl ?_
    obtain ⟨q15, hq15, h⟩ := xbd_some h
    refine ev_sub (L' := [(0, .ref (E.2.2.2 + iC_ways)), (1, .ref (E.2.2.2 + p0)), (2, .int p1), (3, .int x3), (4, .int 0)]) [2, 3, 4, 1, 0] rfl ?_
    refine xloop_run (fun v => Ev E (xcm E d 0 0 QQ) Y_X10_drawComings 27 [(0, .ref (E.2.2.2 + iC_ways)), (1, .ref (E.2.2.2 + p0)), (2, .int p1), (3, .int x3), (4, .int v.1)] [] (xσ v.2 R) n 0 0) (fun v => Ev E (xcm E d 0 0 QQ) Y_X10_drawComings 89 [(3, .int x3)] [] (xσ v R) n 0 0) ?_ _ _ _ hq15 ?_
    · rintro ⟨x4, μ5⟩ y6 h hk
      replace h : fX10_drawComings_b27 x4 μ5 p0 p1 x3 = some y6 := h
      show Ev E (xcm E d 0 0 QQ) Y_X10_drawComings 27 [(0, .ref (E.2.2.2 + iC_ways)), (1, .ref (E.2.2.2 + p0)), (2, .int p1), (3, .int x3), (4, .int x4)] [] (xσ μ5 R) n 0 0
      unfold fX10_drawComings_b27 at h
      refine ev_iload 4 dX10_drawComings_27 rfl ?_
      refine ev_bipush (v := 8) dX10_drawComings_29 (by decide) ?_
      refine ev_icmp_ge (tgt := 89) dX10_drawComings_31 (by decide) (fun c31 => ?_) (fun c31 => ?_)
      · replace h := xif_t c31 h
        cases h
        replace hk := xel_r hk
        exact ev_sub [3] rfl (hk)
      · replace h := xif_f c31 h
        refine ev_aload_n 1 dX10_drawComings_34 rfl rfl ?_
        refine ev_iload 4 dX10_drawComings_35 rfl ?_
        obtain ⟨q7, hq7, h⟩ := xbd_some h
        refine ev_callV (ci := 2) (rest := []) 1 (kX2_includes (E := E) (d := 0) (QQ := (fun v τ n' => v = some (.int q7) ∧ τ = xσ μ5 R ∧ n = n')) (Nat.le_refl _) hF hp0 hq7 (⟨rfl, rfl, rfl⟩)) my_X2_includes ⟨m_1197, m_500, m_501⟩ cl_2 (xIs2_kd hp0) (xIs2_lt hp0) rfl rfl (Nat.le_of_ble_eq_true rfl) (Nat.le_trans (by decide) hd) (xlo (by decide) (Nat.le_trans (by decide) hd)) (Nat.zero_le _) (Nat.zero_le _) dX10_drawComings_37 (fun v τ n' hv => ?_)
        obtain ⟨rfl, rfl, rfl⟩ := hv
        show Ev E (xcm E d 0 0 QQ) Y_X10_drawComings 40 [(0, .ref (E.2.2.2 + iC_ways)), (1, .ref (E.2.2.2 + p0)), (2, .int p1), (3, .int x3), (4, .int x4)] [.int q7] (xσ μ5 R) n 0 0
        refine ev_if_ne (tgt := 46) dX10_drawComings_40 (by decide) (fun c40 => ?_) (fun c40 => ?_)
        · replace h := xif_f c40 h
          refine ev_aload_n 1 dX10_drawComings_46 rfl rfl ?_
          refine xv_getIN cl_2 ln_RX10_93 (xIs2_kd hp0) (xIs2_lt hp0) (fun _ => rfl) dX10_drawComings_47 ?_
          refine ev_iload_n 2 dX10_drawComings_50 rfl rfl ?_
          refine ev_isub dX10_drawComings_51 ?_
          refine ev_aload_n 0 dX10_drawComings_52 rfl rfl ?_
          refine ev_iload 4 dX10_drawComings_53 rfl ?_
          refine ev_aload_n 0 dX10_drawComings_55 rfl rfl ?_
          refine ev_iload 4 dX10_drawComings_56 rfl ?_
          obtain ⟨q8, hq8, h⟩ := xbd_some h
          refine ev_callV (ci := 10) (rest := [.int x4, .ref (E.2.2.2 + iC_ways), .int ((μ5.1 p0 1) - p1)]) 1 (kX10_drawEnd (E := E) (d := 2) (QQ := (fun v τ n' => v = some (.int q8.1) ∧ τ = xσ q8.2 R ∧ n = n')) (Nat.le_refl _) hF hq8 (⟨rfl, rfl, rfl⟩)) my_X10_drawEnd ⟨m_1198, m_1200, m_39⟩ cl_10 kd_42 (xl hF rfl) rfl rfl (Nat.le_of_ble_eq_true rfl) (Nat.le_trans (by decide) hd) (xlo (by decide) (Nat.le_trans (by decide) hd)) (Nat.zero_le _) (Nat.zero_le _) dX10_drawComings_58 (fun v τ n' hv => ?_)
          obtain ⟨rfl, rfl, rfl⟩ := hv
          show Ev E (xcm E d 0 0 QQ) Y_X10_drawComings 61 [(0, .ref (E.2.2.2 + iC_ways)), (1, .ref (E.2.2.2 + p0)), (2, .int p1), (3, .int x3), (4, .int x4)] [.int q8.1, .int x4, .ref (E.2.2.2 + iC_ways), .int ((μ5.1 p0 1) - p1)] (xσ q8.2 R) n 0 0
          refine ev_iload_n 3 dX10_drawComings_61 rfl rfl ?_
          obtain ⟨q9, hq9, h⟩ := xbd_some h
          refine ev_callV (ci := 10) (rest := [.int ((μ5.1 p0 1) - p1)]) 3 (kX10_takes (E := E) (d := 1) (QQ := (fun v τ n' => v = some (.int q9) ∧ τ = xσ q8.2 R ∧ n = n')) (Nat.le_refl _) hF hq9 (⟨rfl, rfl, rfl⟩)) my_X10_takes ⟨m_1004, m_1005, m_1006⟩ cl_10 kd_42 (xl hF rfl) rfl rfl (Nat.le_of_ble_eq_true rfl) (Nat.le_trans (by decide) hd) (xlo (by decide) (Nat.le_trans (by decide) hd)) (Nat.zero_le _) (Nat.zero_le _) dX10_drawComings_62 (fun v τ n' hv => ?_)
          obtain ⟨rfl, rfl, rfl⟩ := hv
          show Ev E (xcm E d 0 0 QQ) Y_X10_drawComings 65 [(0, .ref (E.2.2.2 + iC_ways)), (1, .ref (E.2.2.2 + p0)), (2, .int p1), (3, .int x3), (4, .int x4)] [.int q9, .int ((μ5.1 p0 1) - p1)] (xσ q8.2 R) n 0 0
          refine ev_iadd dX10_drawComings_65 ?_
          obtain ⟨x10, hx10, h⟩ := xlt_some h
          refine xv_istore (L' := [(5, .int x10), (0, .ref (E.2.2.2 + iC_ways)), (1, .ref (E.2.2.2 + p0)), (2, .int p1), (3, .int x3), (4, .int x4)]) hx10 dX10_drawComings_66 (Nat.le_of_ble_eq_true rfl) rfl ?_
          refine ev_aload_n 2 dX10_drawComings_68 rfl rfl ?_
          refine ev_iload 5 dX10_drawComings_69 rfl ?_
          refine ev_iload 0 dX10_drawComings_71 rfl ?_
          refine ev_iconst (v := 0) dX10_drawComings_73 (by decide) ?_
          refine ev_sipush (v := 1439) dX10_drawComings_74 (by decide) ?_
          obtain ⟨q11, hq11, h⟩ := xbd_some h
          refine ev_callSN (As := [.int x10, .int 0, .int 1439]) (rest := [.int x4, .ref (E.2.2.2 + p0)]) 3 (kX11_held (E := E) (d := 1) (QQ := (fun v τ n' => v = some (.int q11) ∧ τ = xσ q8.2 R ∧ n = n')) (Nat.le_refl _)  hq11 (⟨rfl, rfl, rfl⟩)) my_X11_held ⟨⟨_, xnm_12⟩, m_528⟩ rfl rfl (Nat.le_of_ble_eq_true rfl) (Nat.le_trans (by decide) hd) (xlo (by decide) (Nat.le_trans (by decide) hd)) (Nat.zero_le _) (Nat.zero_le _) dX10_drawComings_77 (fun v τ n' hv => ?_)
          obtain ⟨rfl, rfl, rfl⟩ := hv
          show Ev E (xcm E d 0 0 QQ) Y_X10_drawComings 80 [(5, .int x10), (0, .ref (E.2.2.2 + iC_ways)), (1, .ref (E.2.2.2 + p0)), (2, .int p1), (3, .int x3), (4, .int x4)] [.int q11, .int x4, .ref (E.2.2.2 + p0)] (xσ q8.2 R) n 0 0
          obtain ⟨q12, hq12, h⟩ := xbd_some h
          refine ev_callV (ci := 2) (rest := []) 2 (kX2_tell (E := E) (d := 0) (QQ := (fun v τ n' => v = none ∧ τ = xσ q12 R ∧ n = n')) (Nat.le_refl _) hF hp0 hq12 (⟨rfl, rfl, rfl⟩)) my_X2_tell ⟨m_1202, m_504, m_505⟩ cl_2 (xIs2_kd hp0) (xIs2_lt hp0) rfl rfl (Nat.le_of_ble_eq_true rfl) (Nat.le_trans (by decide) hd) (xlo (by decide) (Nat.le_trans (by decide) hd)) (Nat.zero_le _) (Nat.zero_le _) dX10_drawComings_80 (fun v τ n' hv => ?_)
          obtain ⟨rfl, rfl, rfl⟩ := hv
          show Ev E (xcm E d 0 0 QQ) Y_X10_drawComings 83 [(5, .int x10), (0, .ref (E.2.2.2 + iC_ways)), (1, .ref (E.2.2.2 + p0)), (2, .int p1), (3, .int x3), (4, .int x4)] [] (xσ q12 R) n 0 0
          obtain ⟨x13, hx13, h⟩ := xlt_some h
          refine ev_iinc (L' := [(4, .int x13), (5, .int x10), (0, .ref (E.2.2.2 + iC_ways)), (1, .ref (E.2.2.2 + p0)), (2, .int p1), (3, .int x3)]) 5 dX10_drawComings_83 rfl ((by rfl : x4 + Int32.ofInt 1 = x4 + 1).trans hx13) (Nat.le_of_ble_eq_true rfl) rfl ?_
          refine ev_goto (tgt := 27) dX10_drawComings_86 (by decide) ?_
          cases h
          replace hk := xel_l hk
          exact ev_sub [2, 3, 4, 5, 0] rfl (hk)
        · replace h := xif_t c40 h
          refine ev_goto (tgt := 83) dX10_drawComings_43 (by decide) ?_
          obtain ⟨x14, hx14, h⟩ := xlt_some h
          refine ev_iinc (L' := [(4, .int x14), (0, .ref (E.2.2.2 + iC_ways)), (1, .ref (E.2.2.2 + p0)), (2, .int p1), (3, .int x3)]) 4 dX10_drawComings_83 rfl ((by rfl : x4 + Int32.ofInt 1 = x4 + 1).trans hx14) (Nat.le_of_ble_eq_true rfl) rfl ?_
          refine ev_goto (tgt := 27) dX10_drawComings_86 (by decide) ?_
          cases h
          replace hk := xel_l hk
          exact ev_sub [1, 2, 3, 4, 0] rfl (hk)
    · show Ev E (xcm E d 0 0 QQ) Y_X10_drawComings 89 [(3, .int x3)] [] (xσ q15 R) n 0 0
      refine ev_iload_n 0 dX10_drawComings_89 rfl rfl ?_
      cases h
      exact ev_iret rfl (hQ) dX10_drawComings_90 (Nat.zero_le _) (Nat.zero_le _)
  refine ev_icmp_ge (tgt := 22) dX10_drawComings_15 (by decide) (fun c15 => ?_) (fun c15 => ?_)
  · replace h := xif_t c15 h
    refine ev_iconst (v := 0) dX10_drawComings_22 (by decide) ?_
    exact ev_sub [0, 1, 2] rfl (j23 _ h)
  · replace h := xif_f c15 h
    refine ev_iconst (v := 1) dX10_drawComings_18 (by decide) ?_
    refine ev_goto (tgt := 23) dX10_drawComings_19 (by decide) ?_
    exact ev_sub [0, 1, 2] rfl (j23 _ h)
def fX10_lateWeights_b5 (x1 : Int32) (x2 : Int32) (p0 : Int32) (p1 : Int32) (μ : xm) : Option ((Int32 × Int32) ⊕ (Int32)) := if 2 ≤ x2 then (some (.inr x1)) else (xbd (fX10_bridgeWeight x2 μ) fun q4 => xbd (fX10_lateEnds p0 p1 x2 μ) fun q5 => xlt (x1 + (q4 * q5)) fun x6 => xlt (x2 + 1) fun x7 => some (.inl (x6, x7)))
def fX10_lateWeights (p0 : Int32) (p1 : Int32) (μ : xm) : Option (Int32) := xbd (xloop xfu (fun v => fX10_lateWeights_b5 v.1 v.2 p0 p1 μ) (0, 0)) fun q8 => some q8
set_option maxHeartbeats 4000000 in
set_option maxRecDepth 100000 in
theorem kX10_lateWeights {E : xE} {d : Nat} {QQ : xP} (hd : 3 ≤ d) {p0 : Int32} {p1 : Int32} {μ : xm} {R : xr} {n : Nat} (hF : xFin R n)  {res : Int32} (h : fX10_lateWeights p0 p1 μ = some res) (hQ : QQ (some (.int res)) (xσ μ R) n) : xCon E d Y_X10_lateWeights 0 0 [.ref (E.2.2.2 + iC_ways), .int p0, .int p1] (xσ μ R) n QQ := by
  refine xCon_of pn_RX10 (Nat.le_of_ble_eq_true rfl) (L0 := [(0, .ref (E.2.2.2 + iC_ways)), (1, .int p0), (2, .int p1)]) rfl ?_
  unfold fX10_lateWeights at h
  refine ev_iconst (v := 0) dX10_lateWeights_0 (by decide) ?_
  refine xv_istore_n (L' := [(3, .int 0), (0, .ref (E.2.2.2 + iC_ways)), (1, .int p0), (2, .int p1)]) rfl dX10_lateWeights_1 rfl (Nat.le_of_ble_eq_true rfl) rfl ?_
  refine ev_iconst (v := 0) dX10_lateWeights_2 (by decide) ?_
  refine xv_istore (L' := [(4, .int 0), (3, .int 0), (0, .ref (E.2.2.2 + iC_ways)), (1, .int p0), (2, .int p1)]) rfl dX10_lateWeights_3 (Nat.le_of_ble_eq_true rfl) rfl ?_
  obtain ⟨q8, hq8, h⟩ := xbd_some h
  refine ev_sub (L' := [(0, .ref (E.2.2.2 + iC_ways)), (1, .int p0), (2, .int p1), (3, .int 0), (4, .int 0)]) [2, 3, 4, 1, 0] rfl ?_
  refine xloop_run (fun v => Ev E (xcm E d 0 0 QQ) Y_X10_lateWeights 5 [(0, .ref (E.2.2.2 + iC_ways)), (1, .int p0), (2, .int p1), (3, .int v.1), (4, .int v.2)] [] (xσ μ R) n 0 0) (fun v => Ev E (xcm E d 0 0 QQ) Y_X10_lateWeights 35 [(3, .int v)] [] (xσ μ R) n 0 0) ?_ _ _ _ hq8 ?_
  · rintro ⟨x1, x2⟩ y3 h hk
    replace h : fX10_lateWeights_b5 x1 x2 p0 p1 μ = some y3 := h
    show Ev E (xcm E d 0 0 QQ) Y_X10_lateWeights 5 [(0, .ref (E.2.2.2 + iC_ways)), (1, .int p0), (2, .int p1), (3, .int x1), (4, .int x2)] [] (xσ μ R) n 0 0
    unfold fX10_lateWeights_b5 at h
    refine ev_iload 4 dX10_lateWeights_5 rfl ?_
    refine ev_iconst (v := 2) dX10_lateWeights_7 (by decide) ?_
    refine ev_icmp_ge (tgt := 35) dX10_lateWeights_8 (by decide) (fun c8 => ?_) (fun c8 => ?_)
    · replace h := xif_t c8 h
      cases h
      replace hk := xel_r hk
      exact ev_sub [3] rfl (hk)
    · replace h := xif_f c8 h
      refine ev_iload_n 3 dX10_lateWeights_11 rfl rfl ?_
      refine ev_aload_n 0 dX10_lateWeights_12 rfl rfl ?_
      refine ev_iload 4 dX10_lateWeights_13 rfl ?_
      obtain ⟨q4, hq4, h⟩ := xbd_some h
      refine ev_callV (ci := 10) (rest := [.int x1]) 1 (kX10_bridgeWeight (E := E) (d := 0) (QQ := (fun v τ n' => v = some (.int q4) ∧ τ = xσ μ R ∧ n = n')) (Nat.le_refl _) hF hq4 (⟨rfl, rfl, rfl⟩)) my_X10_bridgeWeight ⟨m_991, m_992, m_993⟩ cl_10 kd_42 (xl hF rfl) rfl rfl (Nat.le_of_ble_eq_true rfl) (Nat.le_trans (by decide) hd) (xlo (by decide) (Nat.le_trans (by decide) hd)) (Nat.zero_le _) (Nat.zero_le _) dX10_lateWeights_15 (fun v τ n' hv => ?_)
      obtain ⟨rfl, rfl, rfl⟩ := hv
      show Ev E (xcm E d 0 0 QQ) Y_X10_lateWeights 18 [(0, .ref (E.2.2.2 + iC_ways)), (1, .int p0), (2, .int p1), (3, .int x1), (4, .int x2)] [.int q4, .int x1] (xσ μ R) n 0 0
      refine ev_aload_n 0 dX10_lateWeights_18 rfl rfl ?_
      refine ev_iload_n 1 dX10_lateWeights_19 rfl rfl ?_
      refine ev_iload_n 2 dX10_lateWeights_20 rfl rfl ?_
      refine ev_iload 4 dX10_lateWeights_21 rfl ?_
      obtain ⟨q5, hq5, h⟩ := xbd_some h
      refine ev_callV (ci := 10) (rest := [.int q4, .int x1]) 3 (kX10_lateEnds (E := E) (d := 2) (QQ := (fun v τ n' => v = some (.int q5) ∧ τ = xσ μ R ∧ n = n')) (Nat.le_refl _) hF hq5 (⟨rfl, rfl, rfl⟩)) my_X10_lateEnds ⟨m_995, m_997, m_28⟩ cl_10 kd_42 (xl hF rfl) rfl rfl (Nat.le_of_ble_eq_true rfl) (Nat.le_trans (by decide) hd) (xlo (by decide) (Nat.le_trans (by decide) hd)) (Nat.zero_le _) (Nat.zero_le _) dX10_lateWeights_23 (fun v τ n' hv => ?_)
      obtain ⟨rfl, rfl, rfl⟩ := hv
      show Ev E (xcm E d 0 0 QQ) Y_X10_lateWeights 26 [(0, .ref (E.2.2.2 + iC_ways)), (1, .int p0), (2, .int p1), (3, .int x1), (4, .int x2)] [.int q5, .int q4, .int x1] (xσ μ R) n 0 0
      refine ev_imul dX10_lateWeights_26 ?_
      refine ev_iadd dX10_lateWeights_27 ?_
      obtain ⟨x6, hx6, h⟩ := xlt_some h
      refine xv_istore_n (L' := [(3, .int x6), (0, .ref (E.2.2.2 + iC_ways)), (1, .int p0), (2, .int p1), (4, .int x2)]) hx6 dX10_lateWeights_28 rfl (Nat.le_of_ble_eq_true rfl) rfl ?_
      obtain ⟨x7, hx7, h⟩ := xlt_some h
      refine ev_iinc (L' := [(4, .int x7), (3, .int x6), (0, .ref (E.2.2.2 + iC_ways)), (1, .int p0), (2, .int p1)]) 4 dX10_lateWeights_29 rfl ((by rfl : x2 + Int32.ofInt 1 = x2 + 1).trans hx7) (Nat.le_of_ble_eq_true rfl) rfl ?_
      refine ev_goto (tgt := 5) dX10_lateWeights_32 (by decide) ?_
      cases h
      replace hk := xel_l hk
      exact ev_sub [2, 3, 4, 1, 0] rfl (hk)
  · show Ev E (xcm E d 0 0 QQ) Y_X10_lateWeights 35 [(3, .int q8)] [] (xσ μ R) n 0 0
    refine ev_iload_n 0 dX10_lateWeights_35 rfl rfl ?_
    cases h
    exact ev_iret rfl (hQ) dX10_lateWeights_36 (Nat.zero_le _) (Nat.zero_le _)
def fX11_check (p0 : Int32) (μ : xm) : Option (Int32 × xm) := xbd (fX11_within p0 0 25) fun q1 => if q1 = 0 then (some ((-2), μ)) else (xbd (fX9_length μ) fun q2 => if ((p0 * 4) * 4) ≤ q2 then (xbd (fX4_firstWrong p0 (μ.1 iC 8) μ) fun q3 => xbd (fX9_empty μ) fun q4 => some (q3, q4)) else (some ((-2), μ)))
set_option maxHeartbeats 4000000 in
set_option maxRecDepth 100000 in
theorem kX11_check {E : xE} {d : Nat} {QQ : xP} (hd : 3 ≤ d) {p0 : Int32} {μ : xm} {R : xr} {n : Nat} (hF : xFin R n)  {res : Int32 × xm} (h : fX11_check p0 μ = some res) (hQ : QQ (some (.int res.1)) (xσ res.2 R) n) : xCon E d Y_X11_check 0 0 [.ref (E.2.2.2 + iC), .int p0] (xσ μ R) n QQ := by
  refine xCon_of pn_RX11 (Nat.le_of_ble_eq_true rfl) (L0 := [(0, .ref (E.2.2.2 + iC)), (1, .int p0)]) rfl ?_
  unfold fX11_check at h
  refine ev_iload_n 1 dX11_check_0 rfl rfl ?_
  refine ev_iconst (v := 0) dX11_check_1 (by decide) ?_
  refine ev_bipush (v := 25) dX11_check_2 (by decide) ?_
  obtain ⟨q1, hq1, h⟩ := xbd_some h
  refine ev_callS (As := [.int p0, .int 0, .int 25]) (rest := []) 3 (kX11_within (E := E) (d := 0) (QQ := (fun v τ n' => v = some (.int q1) ∧ τ = xσ μ R ∧ n = n')) (Nat.le_refl _)  hq1 (⟨rfl, rfl, rfl⟩)) my_X11_within ⟨m_424, m_425⟩ rfl rfl (Nat.le_of_ble_eq_true rfl) (Nat.le_trans (by decide) hd) (xlo (by decide) (Nat.le_trans (by decide) hd)) (Nat.zero_le _) (Nat.zero_le _) dX11_check_4 (fun v τ n' hv => ?_)
  obtain ⟨rfl, rfl, rfl⟩ := hv
  show Ev E (xcm E d 0 0 QQ) Y_X11_check 7 [(0, .ref (E.2.2.2 + iC)), (1, .int p0)] [.int q1] (xσ μ R) n 0 0
  refine ev_if_ne (tgt := 13) dX11_check_7 (by decide) (fun c7 => ?_) (fun c7 => ?_)
  · replace h := xif_f c7 h
    refine ev_iload_n 1 dX11_check_13 rfl rfl ?_
    refine ev_iconst (v := 4) dX11_check_14 (by decide) ?_
    refine ev_imul dX11_check_15 ?_
    refine ev_iconst (v := 4) dX11_check_16 (by decide) ?_
    refine ev_imul dX11_check_17 ?_
    refine ev_aload_n 0 dX11_check_18 rfl rfl ?_
    refine xv_getF (a := iC_tape) cl_11 lk_RX11_10 kd_0 (xl hF rfl) (fun _ => rfl) (fr_0_0 hF) dX11_check_19 ?_
    obtain ⟨q2, hq2, h⟩ := xbd_some h
    refine ev_callV (ci := 9) (rest := [.int ((p0 * 4) * 4)]) 0 (kX9_length (E := E) (d := 0) (QQ := (fun v τ n' => v = some (.int q2) ∧ τ = xσ μ R ∧ n = n')) (Nat.le_refl _) hF hq2 (⟨rfl, rfl, rfl⟩)) my_X9_length ⟨m_511, m_512, m_513⟩ cl_9 kd_1 (xl hF rfl) rfl rfl (Nat.le_of_ble_eq_true rfl) (Nat.le_trans (by decide) hd) (xlo (by decide) (Nat.le_trans (by decide) hd)) (Nat.zero_le _) (Nat.zero_le _) dX11_check_22 (fun v τ n' hv => ?_)
    obtain ⟨rfl, rfl, rfl⟩ := hv
    show Ev E (xcm E d 0 0 QQ) Y_X11_check 25 [(0, .ref (E.2.2.2 + iC)), (1, .int p0)] [.int q2, .int ((p0 * 4) * 4)] (xσ μ R) n 0 0
    refine ev_icmp_le (tgt := 31) dX11_check_25 (by decide) (fun c25 => ?_) (fun c25 => ?_)
    · replace h := xif_t c25 h
      refine ev_aload_n 0 dX11_check_31 rfl rfl ?_
      refine xv_getF (a := iC_notes) cl_11 lk_RX11_42 kd_0 (xl hF rfl) (fun _ => rfl) (fr_0_4 hF) dX11_check_32 ?_
      refine ev_aload_n 0 dX11_check_35 rfl rfl ?_
      refine xv_getF (a := iC_tape) cl_11 lk_RX11_10 kd_0 (xl hF rfl) (fun _ => rfl) (fr_0_0 hF) dX11_check_36 ?_
      refine ev_iload_n 1 dX11_check_39 rfl rfl ?_
      refine ev_aload_n 0 dX11_check_40 rfl rfl ?_
      refine xv_getI cl_11 lk_RX11_69 kd_0 (xl hF rfl) (fun _ => rfl) dX11_check_41 ?_
      obtain ⟨q3, hq3, h⟩ := xbd_some h
      refine ev_callV (ci := 4) (rest := []) 3 (kX4_firstWrong (E := E) (d := 2) (QQ := (fun v τ n' => v = some (.int q3) ∧ τ = xσ μ R ∧ n = n')) (Nat.le_refl _) hF hq3 (⟨rfl, rfl, rfl⟩)) my_X4_firstWrong ⟨m_1207, m_1208, m_1209⟩ cl_4 kd_28 (xl hF rfl) rfl rfl (Nat.le_of_ble_eq_true rfl) (Nat.le_trans (by decide) hd) (xlo (by decide) (Nat.le_trans (by decide) hd)) (Nat.zero_le _) (Nat.zero_le _) dX11_check_44 (fun v τ n' hv => ?_)
      obtain ⟨rfl, rfl, rfl⟩ := hv
      show Ev E (xcm E d 0 0 QQ) Y_X11_check 47 [(0, .ref (E.2.2.2 + iC)), (1, .int p0)] [.int q3] (xσ μ R) n 0 0
      refine xv_istore_n (L' := [(2, .int q3), (0, .ref (E.2.2.2 + iC)), (1, .int p0)]) rfl dX11_check_47 rfl (Nat.le_of_ble_eq_true rfl) rfl ?_
      refine ev_aload_n 1 dX11_check_48 rfl rfl ?_
      refine xv_getF (a := iC_tape) cl_11 lk_RX11_10 kd_0 (xl hF rfl) (fun _ => rfl) (fr_0_0 hF) dX11_check_49 ?_
      obtain ⟨q4, hq4, h⟩ := xbd_some h
      refine ev_callV (ci := 9) (rest := []) 0 (kX9_empty (E := E) (d := 0) (QQ := (fun v τ n' => v = none ∧ τ = xσ q4 R ∧ n = n')) (Nat.le_refl _) hF hq4 (⟨rfl, rfl, rfl⟩)) my_X9_empty ⟨m_613, m_614, m_615⟩ cl_9 kd_1 (xl hF rfl) rfl rfl (Nat.le_of_ble_eq_true rfl) (Nat.le_trans (by decide) hd) (xlo (by decide) (Nat.le_trans (by decide) hd)) (Nat.zero_le _) (Nat.zero_le _) dX11_check_52 (fun v τ n' hv => ?_)
      obtain ⟨rfl, rfl, rfl⟩ := hv
      show Ev E (xcm E d 0 0 QQ) Y_X11_check 55 [(2, .int q3), (0, .ref (E.2.2.2 + iC)), (1, .int p0)] [] (xσ q4 R) n 0 0
      refine ev_iload_n 0 dX11_check_55 rfl rfl ?_
      cases h
      exact ev_iret rfl (hQ) dX11_check_56 (Nat.zero_le _) (Nat.zero_le _)
    · replace h := xif_f c25 h
      refine ev_bipush (v := (-2)) dX11_check_28 (by decide) ?_
      cases h
      exact ev_iret rfl (hQ) dX11_check_30 (Nat.zero_le _) (Nat.zero_le _)
  · replace h := xif_t c7 h
    refine ev_bipush (v := (-2)) dX11_check_10 (by decide) ?_
    cases h
    exact ev_iret rfl (hQ) dX11_check_12 (Nat.zero_le _) (Nat.zero_le _)
def fX11_daysToLapse (p0 : Nat) (μ : xm) (R : xr) : Option (Int32 × xm) := xbd (fX1_current μ R) fun q1 => xbd (q1) fun a2 => xbd (fX0_amount a2 108 100 p0 μ) fun q3 => some (q3.1, q3.2)
set_option maxHeartbeats 4000000 in
set_option maxRecDepth 100000 in
theorem kX11_daysToLapse {E : xE} {d : Nat} {QQ : xP} (hd : 3 ≤ d) {p0 : Nat} {μ : xm} {R : xr} {n : Nat} (hF : xFin R n) (hp0 : xIsA 1 p0 n) {res : Int32 × xm} (h : fX11_daysToLapse p0 μ R = some res) (hQ : QQ (some (.int res.1)) (xσ res.2 R) n) : xCon E d Y_X11_daysToLapse 0 0 [.ref (E.2.2.2 + iC), .ref (E.2.2.2 + p0)] (xσ μ R) n QQ := by
  refine xCon_of pn_RX11 (Nat.le_of_ble_eq_true rfl) (L0 := [(0, .ref (E.2.2.2 + iC)), (1, .ref (E.2.2.2 + p0))]) rfl ?_
  unfold fX11_daysToLapse at h
  refine ev_aload_n 0 dX11_daysToLapse_0 rfl rfl ?_
  refine xv_getF (a := iC_reader) cl_11 lk_RX11_19 kd_0 (xl hF rfl) (fun _ => rfl) (fr_0_1 hF) dX11_daysToLapse_1 ?_
  obtain ⟨q1, hq1, h⟩ := xbd_some h
  refine ev_callV (ci := 1) (rest := []) 0 (kX1_current (E := E) (d := 0) (QQ := (fun v τ n' => v = some (xrf E.2.2.2 q1) ∧ τ = xσ μ R ∧ n = n' ∧ (∀ a, q1 = some a → xIs 0 a n))) (Nat.le_refl _) hF hq1 (fun z0 => ⟨rfl, rfl, rfl, z0⟩)) my_X1_current ⟨m_706, m_707, m_708⟩ cl_1 kd_3 (xl hF rfl) rfl rfl (Nat.le_of_ble_eq_true rfl) (Nat.le_trans (by decide) hd) (xlo (by decide) (Nat.le_trans (by decide) hd)) (Nat.zero_le _) (Nat.zero_le _) dX11_daysToLapse_4 (fun v τ n' hv => ?_)
  obtain ⟨rfl, rfl, rfl, hvq1⟩ := hv
  show Ev E (xcm E d 0 0 QQ) Y_X11_daysToLapse 7 [(0, .ref (E.2.2.2 + iC)), (1, .ref (E.2.2.2 + p0))] [xrf E.2.2.2 q1] (xσ μ R) n 0 0
  obtain ⟨a2, ha2, h⟩ := xbd_some h
  refine xv_nn ha2 ?_
  replace ha2 := hvq1 _ ha2
  refine ev_bipush (v := 108) dX11_daysToLapse_7 (by decide) ?_
  refine ev_bipush (v := 100) dX11_daysToLapse_9 (by decide) ?_
  refine ev_aload_n 1 dX11_daysToLapse_11 rfl rfl ?_
  obtain ⟨q3, hq3, h⟩ := xbd_some h
  refine ev_callV (ci := 0) (rest := []) 3 (kX0_amount (E := E) (d := 2) (QQ := (fun v τ n' => v = some (.int q3.1) ∧ τ = xσ q3.2 R ∧ n = n')) (Nat.le_refl _) hF ha2 hp0 hq3 (⟨rfl, rfl, rfl⟩)) my_X0_amount ⟨m_710, m_711, m_712⟩ cl_0 (xIs0_kd ha2) (xIs0_lt ha2) rfl rfl (Nat.le_of_ble_eq_true rfl) (Nat.le_trans (by decide) hd) (xlo (by decide) (Nat.le_trans (by decide) hd)) (Nat.zero_le _) (Nat.zero_le _) dX11_daysToLapse_12 (fun v τ n' hv => ?_)
  obtain ⟨rfl, rfl, rfl⟩ := hv
  show Ev E (xcm E d 0 0 QQ) Y_X11_daysToLapse 15 [(0, .ref (E.2.2.2 + iC)), (1, .ref (E.2.2.2 + p0))] [.int q3.1] (xσ q3.2 R) n 0 0
  cases h
  exact ev_iret rfl (hQ) dX11_daysToLapse_15 (Nat.zero_le _) (Nat.zero_le _)
def fX11_hundredths (p0 : Nat) (μ : xm) (R : xr) : Option (Int32 × xm) := xbd (fX1_current μ R) fun q1 => xbd (q1) fun a2 => xbd (fX0_amount a2 112 100 p0 μ) fun q3 => some (q3.1, q3.2)
set_option maxHeartbeats 4000000 in
set_option maxRecDepth 100000 in
theorem kX11_hundredths {E : xE} {d : Nat} {QQ : xP} (hd : 3 ≤ d) {p0 : Nat} {μ : xm} {R : xr} {n : Nat} (hF : xFin R n) (hp0 : xIsA 1 p0 n) {res : Int32 × xm} (h : fX11_hundredths p0 μ R = some res) (hQ : QQ (some (.int res.1)) (xσ res.2 R) n) : xCon E d Y_X11_hundredths 0 0 [.ref (E.2.2.2 + iC), .ref (E.2.2.2 + p0)] (xσ μ R) n QQ := by
  refine xCon_of pn_RX11 (Nat.le_of_ble_eq_true rfl) (L0 := [(0, .ref (E.2.2.2 + iC)), (1, .ref (E.2.2.2 + p0))]) rfl ?_
  unfold fX11_hundredths at h
  refine ev_aload_n 0 dX11_hundredths_0 rfl rfl ?_
  refine xv_getF (a := iC_reader) cl_11 lk_RX11_19 kd_0 (xl hF rfl) (fun _ => rfl) (fr_0_1 hF) dX11_hundredths_1 ?_
  obtain ⟨q1, hq1, h⟩ := xbd_some h
  refine ev_callV (ci := 1) (rest := []) 0 (kX1_current (E := E) (d := 0) (QQ := (fun v τ n' => v = some (xrf E.2.2.2 q1) ∧ τ = xσ μ R ∧ n = n' ∧ (∀ a, q1 = some a → xIs 0 a n))) (Nat.le_refl _) hF hq1 (fun z0 => ⟨rfl, rfl, rfl, z0⟩)) my_X1_current ⟨m_706, m_707, m_708⟩ cl_1 kd_3 (xl hF rfl) rfl rfl (Nat.le_of_ble_eq_true rfl) (Nat.le_trans (by decide) hd) (xlo (by decide) (Nat.le_trans (by decide) hd)) (Nat.zero_le _) (Nat.zero_le _) dX11_hundredths_4 (fun v τ n' hv => ?_)
  obtain ⟨rfl, rfl, rfl, hvq1⟩ := hv
  show Ev E (xcm E d 0 0 QQ) Y_X11_hundredths 7 [(0, .ref (E.2.2.2 + iC)), (1, .ref (E.2.2.2 + p0))] [xrf E.2.2.2 q1] (xσ μ R) n 0 0
  obtain ⟨a2, ha2, h⟩ := xbd_some h
  refine xv_nn ha2 ?_
  replace ha2 := hvq1 _ ha2
  refine ev_bipush (v := 112) dX11_hundredths_7 (by decide) ?_
  refine ev_bipush (v := 100) dX11_hundredths_9 (by decide) ?_
  refine ev_aload_n 1 dX11_hundredths_11 rfl rfl ?_
  obtain ⟨q3, hq3, h⟩ := xbd_some h
  refine ev_callV (ci := 0) (rest := []) 3 (kX0_amount (E := E) (d := 2) (QQ := (fun v τ n' => v = some (.int q3.1) ∧ τ = xσ q3.2 R ∧ n = n')) (Nat.le_refl _) hF ha2 hp0 hq3 (⟨rfl, rfl, rfl⟩)) my_X0_amount ⟨m_710, m_711, m_712⟩ cl_0 (xIs0_kd ha2) (xIs0_lt ha2) rfl rfl (Nat.le_of_ble_eq_true rfl) (Nat.le_trans (by decide) hd) (xlo (by decide) (Nat.le_trans (by decide) hd)) (Nat.zero_le _) (Nat.zero_le _) dX11_hundredths_12 (fun v τ n' hv => ?_)
  obtain ⟨rfl, rfl, rfl⟩ := hv
  show Ev E (xcm E d 0 0 QQ) Y_X11_hundredths 15 [(0, .ref (E.2.2.2 + iC)), (1, .ref (E.2.2.2 + p0))] [.int q3.1] (xσ q3.2 R) n 0 0
  cases h
  exact ev_iret rfl (hQ) dX11_hundredths_15 (Nat.zero_le _) (Nat.zero_le _)
def fX11_keeps (p0 : Int32) (p1 : Int32) (p2 : Int32) (μ : xm) (R : xr) : Option (Int32) := xbd (fX3_find p0 μ R) fun q1 => xop q1 (some (-1)) (fun a2 => if p1 = p2 then (some (-1)) else (xbd (fX2_comingOf a2 p1 μ) fun q3 => if q3 = (-1) then (some (-1)) else (xbd (fX2_comingOf a2 p2 μ) fun q4 => if q4 = (-1) then (some (-1)) else (xbd (fX2_waitFor a2 p1 p2 μ) fun q5 => some q5))))
set_option maxHeartbeats 4000000 in
set_option maxRecDepth 100000 in
theorem kX11_keeps {E : xE} {d : Nat} {QQ : xP} (hd : 3 ≤ d) {p0 : Int32} {p1 : Int32} {p2 : Int32} {μ : xm} {R : xr} {n : Nat} (hF : xFin R n)  {res : Int32} (h : fX11_keeps p0 p1 p2 μ R = some res) (hQ : QQ (some (.int res)) (xσ μ R) n) : xCon E d Y_X11_keeps 0 0 [.ref (E.2.2.2 + iC), .int p0, .int p1, .int p2] (xσ μ R) n QQ := by
  refine xCon_of pn_RX11 (Nat.le_of_ble_eq_true rfl) (L0 := [(0, .ref (E.2.2.2 + iC)), (1, .int p0), (2, .int p1), (3, .int p2)]) rfl ?_
  unfold fX11_keeps at h
  refine ev_aload_n 0 dX11_keeps_0 rfl rfl ?_
  refine xv_getF (a := iC_meetings) cl_11 lk_RX11_35 kd_0 (xl hF rfl) (fun _ => rfl) (fr_0_3 hF) dX11_keeps_1 ?_
  refine ev_iload_n 1 dX11_keeps_4 rfl rfl ?_
  obtain ⟨q1, hq1, h⟩ := xbd_some h
  refine ev_callV (ci := 3) (rest := []) 1 (kX3_find (E := E) (d := 0) (QQ := (fun v τ n' => v = some (xrf E.2.2.2 q1) ∧ τ = xσ μ R ∧ n = n' ∧ (∀ a, q1 = some a → xIs 2 a n))) (Nat.le_refl _) hF hq1 (fun z0 => ⟨rfl, rfl, rfl, z0⟩)) my_X3_find ⟨m_491, m_492, m_493⟩ cl_3 kd_23 (xl hF rfl) rfl rfl (Nat.le_of_ble_eq_true rfl) (Nat.le_trans (by decide) hd) (xlo (by decide) (Nat.le_trans (by decide) hd)) (Nat.zero_le _) (Nat.zero_le _) dX11_keeps_5 (fun v τ n' hv => ?_)
  obtain ⟨rfl, rfl, rfl, hvq1⟩ := hv
  show Ev E (xcm E d 0 0 QQ) Y_X11_keeps 8 [(0, .ref (E.2.2.2 + iC)), (1, .int p0), (2, .int p1), (3, .int p2)] [xrf E.2.2.2 q1] (xσ μ R) n 0 0
  refine xv_astore (r := q1) (L' := [(4, xrf E.2.2.2 q1), (0, .ref (E.2.2.2 + iC)), (1, .int p0), (2, .int p1), (3, .int p2)]) dX11_keeps_8 (Nat.le_of_ble_eq_true rfl) rfl ?_
  refine xv_aload (r := q1) 0 dX11_keeps_10 rfl ?_
  refine ev_ifnull (r := q1) (tgt := 20) dX11_keeps_12 (by decide) (fun hr => ?_) (fun a2 hr => ?_)
  · subst hr
    replace h := xop_n h
    refine ev_iconst (v := (-1)) dX11_keeps_20 (by decide) ?_
    cases h
    exact ev_iret rfl (hQ) dX11_keeps_21 (Nat.zero_le _) (Nat.zero_le _)
  · subst hr
    replace h := xop_s h
    have ha2 := hvq1 a2 rfl
    refine ev_iload_n 3 dX11_keeps_15 rfl rfl ?_
    refine ev_iload_n 4 dX11_keeps_16 rfl rfl ?_
    refine ev_icmp_ne (tgt := 22) dX11_keeps_17 (by decide) (fun c17 => ?_) (fun c17 => ?_)
    · replace h := xif_f c17 h
      refine ev_aload 0 dX11_keeps_22 rfl ?_
      refine ev_iload_n 3 dX11_keeps_24 rfl rfl ?_
      obtain ⟨q3, hq3, h⟩ := xbd_some h
      refine ev_callV (ci := 2) (rest := []) 1 (kX2_comingOf (E := E) (d := 1) (QQ := (fun v τ n' => v = some (.int q3) ∧ τ = xσ μ R ∧ n = n')) (Nat.le_refl _) hF ha2 hq3 (⟨rfl, rfl, rfl⟩)) my_X2_comingOf ⟨m_631, m_632, m_633⟩ cl_2 (xIs2_kd ha2) (xIs2_lt ha2) rfl rfl (Nat.le_of_ble_eq_true rfl) (Nat.le_trans (by decide) hd) (xlo (by decide) (Nat.le_trans (by decide) hd)) (Nat.zero_le _) (Nat.zero_le _) dX11_keeps_25 (fun v τ n' hv => ?_)
      obtain ⟨rfl, rfl, rfl⟩ := hv
      show Ev E (xcm E d 0 0 QQ) Y_X11_keeps 28 [(4, .ref (E.2.2.2 + a2)), (0, .ref (E.2.2.2 + iC)), (1, .int p0), (2, .int p1), (3, .int p2)] [.int q3] (xσ μ R) n 0 0
      refine ev_iconst (v := (-1)) dX11_keeps_28 (by decide) ?_
      refine ev_icmp_eq (tgt := 42) dX11_keeps_29 (by decide) (fun c29 => ?_) (fun c29 => ?_)
      · replace h := xif_t c29 h
        refine ev_iconst (v := (-1)) dX11_keeps_42 (by decide) ?_
        cases h
        exact ev_iret rfl (hQ) dX11_keeps_43 (Nat.zero_le _) (Nat.zero_le _)
      · replace h := xif_f c29 h
        refine ev_aload 0 dX11_keeps_32 rfl ?_
        refine ev_iload_n 4 dX11_keeps_34 rfl rfl ?_
        obtain ⟨q4, hq4, h⟩ := xbd_some h
        refine ev_callV (ci := 2) (rest := []) 1 (kX2_comingOf (E := E) (d := 1) (QQ := (fun v τ n' => v = some (.int q4) ∧ τ = xσ μ R ∧ n = n')) (Nat.le_refl _) hF ha2 hq4 (⟨rfl, rfl, rfl⟩)) my_X2_comingOf ⟨m_631, m_632, m_633⟩ cl_2 (xIs2_kd ha2) (xIs2_lt ha2) rfl rfl (Nat.le_of_ble_eq_true rfl) (Nat.le_trans (by decide) hd) (xlo (by decide) (Nat.le_trans (by decide) hd)) (Nat.zero_le _) (Nat.zero_le _) dX11_keeps_35 (fun v τ n' hv => ?_)
        obtain ⟨rfl, rfl, rfl⟩ := hv
        show Ev E (xcm E d 0 0 QQ) Y_X11_keeps 38 [(4, .ref (E.2.2.2 + a2)), (0, .ref (E.2.2.2 + iC)), (1, .int p0), (2, .int p1), (3, .int p2)] [.int q4] (xσ μ R) n 0 0
        refine ev_iconst (v := (-1)) dX11_keeps_38 (by decide) ?_
        refine ev_icmp_ne (tgt := 44) dX11_keeps_39 (by decide) (fun c39 => ?_) (fun c39 => ?_)
        · replace h := xif_f c39 h
          refine ev_aload 0 dX11_keeps_44 rfl ?_
          refine ev_iload_n 3 dX11_keeps_46 rfl rfl ?_
          refine ev_iload_n 4 dX11_keeps_47 rfl rfl ?_
          obtain ⟨q5, hq5, h⟩ := xbd_some h
          refine ev_callV (ci := 2) (rest := []) 2 (kX2_waitFor (E := E) (d := 2) (QQ := (fun v τ n' => v = some (.int q5) ∧ τ = xσ μ R ∧ n = n')) (Nat.le_refl _) hF ha2 hq5 (⟨rfl, rfl, rfl⟩)) my_X2_waitFor ⟨m_635, m_636, m_637⟩ cl_2 (xIs2_kd ha2) (xIs2_lt ha2) rfl rfl (Nat.le_of_ble_eq_true rfl) (Nat.le_trans (by decide) hd) (xlo (by decide) (Nat.le_trans (by decide) hd)) (Nat.zero_le _) (Nat.zero_le _) dX11_keeps_48 (fun v τ n' hv => ?_)
          obtain ⟨rfl, rfl, rfl⟩ := hv
          show Ev E (xcm E d 0 0 QQ) Y_X11_keeps 51 [(4, .ref (E.2.2.2 + a2)), (0, .ref (E.2.2.2 + iC)), (1, .int p0), (2, .int p1), (3, .int p2)] [.int q5] (xσ μ R) n 0 0
          cases h
          exact ev_iret rfl (hQ) dX11_keeps_51 (Nat.zero_le _) (Nat.zero_le _)
        · replace h := xif_t c39 h
          refine ev_iconst (v := (-1)) dX11_keeps_42 (by decide) ?_
          cases h
          exact ev_iret rfl (hQ) dX11_keeps_43 (Nat.zero_le _) (Nat.zero_le _)
    · replace h := xif_t c17 h
      refine ev_iconst (v := (-1)) dX11_keeps_20 (by decide) ?_
      cases h
      exact ev_iret rfl (hQ) dX11_keeps_21 (Nat.zero_le _) (Nat.zero_le _)
