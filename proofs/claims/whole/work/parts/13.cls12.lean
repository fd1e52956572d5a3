def fX11_settle_b62 (x9 : Int32) (μ10 : xm) (p0 : Int32) (R : xr) (q5 : Int32) (x6 : Int32) : Option ((Int32 × xm) ⊕ ((xm) ⊕ (Int32 × xm))) := if 8 ≤ x9 then (some (.inr (.inl μ10))) else (xbd (fX11_isCase p0 x6 x9 μ10 R) fun q12 => if q12 = 0 then (xlt (x9 + 1) fun x13 => some (.inl (x13, μ10))) else (xbd (fX11_followChain p0 x6 x9 μ10 R) fun q14 => xbd (q14.1) fun a15 => xbd (fX11_noteChain x9 a15 q14.2 R) fun q16 => if q16.1 = 0 then (xbd (fX4_dropFrom q5 q16.2) fun q18 => some (.inr (.inr ((-2), q18)))) else (xlt (x9 + 1) fun x17 => some (.inl (x17, q16.2)))))
def fX11_settle_b52 (x6 : Int32) (μ7 : xm) (p0 : Int32) (R : xr) (q5 : Int32) : Option ((Int32 × xm) ⊕ ((xm) ⊕ (Int32 × xm))) := if 8 ≤ x6 then (some (.inr (.inl μ7))) else (xbd (xloop xfu (fun v => fX11_settle_b62 v.1 v.2 p0 R q5 x6) (0, μ7)) fun q19 => xsm q19 (fun q20 => xlt (x6 + 1) fun x22 => some (.inl (x22, q20))) (fun q21 => some (.inr (.inr q21))))
def fX11_settle (p0 : Int32) (μ : xm) (R : xr) : Option (Int32 × xm) := xbd (fX3_find p0 μ R) fun q1 => xop q1 (some ((-1), μ)) (fun a2 => xbd (fX2_isSettled a2 μ) fun q3 => if q3 = 0 then (if (μ.1 iC 8) < (μ.1 a2 0) then (some ((-1), μ)) else (xbd (fX2_start a2 μ) fun q4 => if q4 = (-1) then (some ((-1), μ)) else (xbd (fX4_length μ) fun q5 => xbd (xloop xfu (fun v => fX11_settle_b52 v.1 v.2 p0 R q5) (0, μ)) fun q23 => xsm q23 (fun q24 => xbd (fX2_close a2 q24) fun q26 => xbd (fX4_length q26) fun q27 => some (q27 - q5, q26)) (fun q25 => some q25)))) else (some ((-1), μ)))
set_option maxHeartbeats 4000000 in
set_option maxRecDepth 100000 in
theorem kX11_settle {E : xE} {d : Nat} {QQ : xP} (hd : 6 ≤ d) {p0 : Int32} {μ : xm} {R : xr} {n : Nat} (hF : xFin R n)  {res : Int32 × xm} (h : fX11_settle p0 μ R = some res) (hQ : QQ (some (.int res.1)) (xσ res.2 R) n) : xCon E d Y_X11_settle 0 0 [.ref (E.2.2.2 + iC), .int p0] (xσ μ R) n QQ := by
  refine xCon_of pn_RX11 (Nat.le_of_ble_eq_true rfl) (L0 := [(0, .ref (E.2.2.2 + iC)), (1, .int p0)]) rfl ?_
  unfold fX11_settle at h
  refine ev_aload_n 0 dX11_settle_0 rfl rfl ?_
  refine xv_getF (a := iC_meetings) cl_11 lk_RX11_35 kd_0 (xl hF rfl) (fun _ => rfl) (fr_0_3 hF) dX11_settle_1 ?_
  refine ev_iload_n 1 dX11_settle_4 rfl rfl ?_
  obtain ⟨q1, hq1, h⟩ := xbd_some h
  refine ev_callV (ci := 3) (rest := []) 1 (kX3_find (E := E) (d := 0) (QQ := (fun v τ n' => v = some (xrf E.2.2.2 q1) ∧ τ = xσ μ R ∧ n = n' ∧ (∀ a, q1 = some a → xIs 2 a n))) (Nat.le_refl _) hF hq1 (fun z0 => ⟨rfl, rfl, rfl, z0⟩)) my_X3_find ⟨m_491, m_492, m_493⟩ cl_3 kd_23 (xl hF rfl) rfl rfl (Nat.le_of_ble_eq_true rfl) (Nat.le_trans (by decide) hd) (xlo (by decide) (Nat.le_trans (by decide) hd)) (Nat.zero_le _) (Nat.zero_le _) dX11_settle_5 (fun v τ n' hv => ?_)
  obtain ⟨rfl, rfl, rfl, hvq1⟩ := hv
  show Ev E (xcm E d 0 0 QQ) Y_X11_settle 8 [(0, .ref (E.2.2.2 + iC)), (1, .int p0)] [xrf E.2.2.2 q1] (xσ μ R) n 0 0
  refine xv_astore_n (r := q1) (L' := [(2, xrf E.2.2.2 q1), (0, .ref (E.2.2.2 + iC)), (1, .int p0)]) dX11_settle_8 rfl (Nat.le_of_ble_eq_true rfl) rfl ?_
  refine xv_aload_n (r := q1) 0 dX11_settle_9 rfl rfl ?_
  refine ev_ifnull (r := q1) (tgt := 39) dX11_settle_10 (by decide) (fun hr => ?_) (fun a2 hr => ?_)
  · subst hr
    replace h := xop_n h
    refine ev_iconst (v := (-1)) dX11_settle_39 (by decide) ?_
    cases h
    exact ev_iret rfl (hQ) dX11_settle_40 (Nat.zero_le _) (Nat.zero_le _)
  · subst hr
    replace h := xop_s h
    have ha2 := hvq1 a2 rfl
    refine ev_aload_n 0 dX11_settle_13 rfl rfl ?_
    obtain ⟨q3, hq3, h⟩ := xbd_some h
    refine ev_callV (ci := 2) (rest := []) 0 (kX2_isSettled (E := E) (d := 0) (QQ := (fun v τ n' => v = some (.int q3) ∧ τ = xσ μ R ∧ n = n')) (Nat.le_refl _) hF ha2 hq3 (⟨rfl, rfl, rfl⟩)) my_X2_isSettled ⟨m_495, m_496, m_497⟩ cl_2 (xIs2_kd ha2) (xIs2_lt ha2) rfl rfl (Nat.le_of_ble_eq_true rfl) (Nat.le_trans (by decide) hd) (xlo (by decide) (Nat.le_trans (by decide) hd)) (Nat.zero_le _) (Nat.zero_le _) dX11_settle_14 (fun v τ n' hv => ?_)
    obtain ⟨rfl, rfl, rfl⟩ := hv
    show Ev E (xcm E d 0 0 QQ) Y_X11_settle 17 [(2, .ref (E.2.2.2 + a2)), (0, .ref (E.2.2.2 + iC)), (1, .int p0)] [.int q3] (xσ μ R) n 0 0
    refine ev_if_ne (tgt := 39) dX11_settle_17 (by decide) (fun c17 => ?_) (fun c17 => ?_)
    · replace h := xif_f c17 h
      refine ev_iconst (v := (-1)) dX11_settle_39 (by decide) ?_
      cases h
      exact ev_iret rfl (hQ) dX11_settle_40 (Nat.zero_le _) (Nat.zero_le _)
    · replace h := xif_t c17 h
      refine ev_aload_n 0 dX11_settle_20 rfl rfl ?_
      refine xv_getIN cl_2 ln_RX11_175 (xIs2_kd ha2) (xIs2_lt ha2) (fun _ => rfl) dX11_settle_21 ?_
      refine ev_aload_n 1 dX11_settle_24 rfl rfl ?_
      refine xv_getI cl_11 lk_RX11_69 kd_0 (xl hF rfl) (fun _ => rfl) dX11_settle_25 ?_
      refine ev_icmp_gt (tgt := 39) dX11_settle_28 (by decide) (fun c28 => ?_) (fun c28 => ?_)
      · replace h := xif_t c28 h
        refine ev_iconst (v := (-1)) dX11_settle_39 (by decide) ?_
        cases h
        exact ev_iret rfl (hQ) dX11_settle_40 (Nat.zero_le _) (Nat.zero_le _)
      · replace h := xif_f c28 h
        refine ev_aload_n 0 dX11_settle_31 rfl rfl ?_
        obtain ⟨q4, hq4, h⟩ := xbd_some h
        refine ev_callV (ci := 2) (rest := []) 0 (kX2_start (E := E) (d := 1) (QQ := (fun v τ n' => v = some (.int q4) ∧ τ = xσ μ R ∧ n = n')) (Nat.le_refl _) hF ha2 hq4 (⟨rfl, rfl, rfl⟩)) my_X2_start ⟨m_621, m_622, m_623⟩ cl_2 (xIs2_kd ha2) (xIs2_lt ha2) rfl rfl (Nat.le_of_ble_eq_true rfl) (Nat.le_trans (by decide) hd) (xlo (by decide) (Nat.le_trans (by decide) hd)) (Nat.zero_le _) (Nat.zero_le _) dX11_settle_32 (fun v τ n' hv => ?_)
        obtain ⟨rfl, rfl, rfl⟩ := hv
        show Ev E (xcm E d 0 0 QQ) Y_X11_settle 35 [(2, .ref (E.2.2.2 + a2)), (0, .ref (E.2.2.2 + iC)), (1, .int p0)] [.int q4] (xσ μ R) n 0 0
        refine ev_iconst (v := (-1)) dX11_settle_35 (by decide) ?_
        refine ev_icmp_ne (tgt := 41) dX11_settle_36 (by decide) (fun c36 => ?_) (fun c36 => ?_)
        · replace h := xif_f c36 h
          refine ev_aload_n 1 dX11_settle_41 rfl rfl ?_
          refine xv_getF (a := iC_notes) cl_11 lk_RX11_42 kd_0 (xl hF rfl) (fun _ => rfl) (fr_0_4 hF) dX11_settle_42 ?_
          obtain ⟨q5, hq5, h⟩ := xbd_some h
          refine ev_callV (ci := 4) (rest := []) 0 (kX4_length (E := E) (d := 0) (QQ := (fun v τ n' => v = some (.int q5) ∧ τ = xσ μ R ∧ n = n')) (Nat.le_refl _) hF hq5 (⟨rfl, rfl, rfl⟩)) my_X4_length ⟨m_768, m_769, m_770⟩ cl_4 kd_28 (xl hF rfl) rfl rfl (Nat.le_of_ble_eq_true rfl) (Nat.le_trans (by decide) hd) (xlo (by decide) (Nat.le_trans (by decide) hd)) (Nat.zero_le _) (Nat.zero_le _) dX11_settle_45 (fun v τ n' hv => ?_)
          obtain ⟨rfl, rfl, rfl⟩ := hv
          show Ev E (xcm E d 0 0 QQ) Y_X11_settle 48 [(2, .ref (E.2.2.2 + a2)), (0, .ref (E.2.2.2 + iC)), (1, .int p0)] [.int q5] (xσ μ R) n 0 0
          refine xv_istore_n (L' := [(3, .int q5), (2, .ref (E.2.2.2 + a2)), (0, .ref (E.2.2.2 + iC)), (1, .int p0)]) rfl dX11_settle_48 rfl (Nat.le_of_ble_eq_true rfl) rfl ?_
          refine ev_iconst (v := 0) dX11_settle_49 (by decide) ?_
          refine xv_istore (L' := [(4, .int 0), (3, .int q5), (2, .ref (E.2.2.2 + a2)), (0, .ref (E.2.2.2 + iC)), (1, .int p0)]) rfl dX11_settle_50 (Nat.le_of_ble_eq_true rfl) rfl ?_
          obtain ⟨q23, hq23, h⟩ := xbd_some h
          refine ev_sub (L' := [(0, .ref (E.2.2.2 + iC)), (1, .int p0), (2, .ref (E.2.2.2 + a2)), (3, .int q5), (4, .int 0)]) [3, 4, 2, 1, 0] rfl ?_
          refine xloop_run (fun v => Ev E (xcm E d 0 0 QQ) Y_X11_settle 52 [(0, .ref (E.2.2.2 + iC)), (1, .int p0), (2, .ref (E.2.2.2 + a2)), (3, .int q5), (4, .int v.1)] [] (xσ v.2 R) n 0 0) (xel (fun v => Ev E (xcm E d 0 0 QQ) Y_X11_settle 122 [(0, .ref (E.2.2.2 + iC)), (2, .ref (E.2.2.2 + a2)), (3, .int q5)] [] (xσ v R) n 0 0) (fun v => QQ (some (.int v.1)) (xσ v.2 R) n)) ?_ _ _ _ hq23 ?_
          · rintro ⟨x6, μ7⟩ y8 h hk
            replace h : fX11_settle_b52 x6 μ7 p0 R q5 = some y8 := h
            show Ev E (xcm E d 0 0 QQ) Y_X11_settle 52 [(0, .ref (E.2.2.2 + iC)), (1, .int p0), (2, .ref (E.2.2.2 + a2)), (3, .int q5), (4, .int x6)] [] (xσ μ7 R) n 0 0
            unfold fX11_settle_b52 at h
            refine ev_iload 4 dX11_settle_52 rfl ?_
            refine ev_bipush (v := 8) dX11_settle_54 (by decide) ?_
            refine ev_icmp_ge (tgt := 122) dX11_settle_56 (by decide) (fun c56 => ?_) (fun c56 => ?_)
            · replace h := xif_t c56 h
              cases h
              replace hk := xel_r hk
              replace hk := xel_l hk
              exact ev_sub [0, 2, 3] rfl (hk)
            · replace h := xif_f c56 h
              refine ev_iconst (v := 0) dX11_settle_59 (by decide) ?_
              refine xv_istore (L' := [(5, .int 0), (0, .ref (E.2.2.2 + iC)), (1, .int p0), (2, .ref (E.2.2.2 + a2)), (3, .int q5), (4, .int x6)]) rfl dX11_settle_60 (Nat.le_of_ble_eq_true rfl) rfl ?_
              obtain ⟨q19, hq19, h⟩ := xbd_some h
              refine ev_sub (L' := [(0, .ref (E.2.2.2 + iC)), (1, .int p0), (2, .ref (E.2.2.2 + a2)), (3, .int q5), (4, .int x6), (5, .int 0)]) [1, 2, 3, 4, 5, 0] rfl ?_
              refine xloop_run (fun v => Ev E (xcm E d 0 0 QQ) Y_X11_settle 62 [(0, .ref (E.2.2.2 + iC)), (1, .int p0), (2, .ref (E.2.2.2 + a2)), (3, .int q5), (4, .int x6), (5, .int v.1)] [] (xσ v.2 R) n 0 0) (xel (fun v => Ev E (xcm E d 0 0 QQ) Y_X11_settle 116 [(0, .ref (E.2.2.2 + iC)), (1, .int p0), (2, .ref (E.2.2.2 + a2)), (3, .int q5), (4, .int x6)] [] (xσ v R) n 0 0) (fun v => QQ (some (.int v.1)) (xσ v.2 R) n)) ?_ _ _ _ hq19 ?_
              · rintro ⟨x9, μ10⟩ y11 h hk
                replace h : fX11_settle_b62 x9 μ10 p0 R q5 x6 = some y11 := h
                show Ev E (xcm E d 0 0 QQ) Y_X11_settle 62 [(0, .ref (E.2.2.2 + iC)), (1, .int p0), (2, .ref (E.2.2.2 + a2)), (3, .int q5), (4, .int x6), (5, .int x9)] [] (xσ μ10 R) n 0 0
                unfold fX11_settle_b62 at h
                refine ev_iload 5 dX11_settle_62 rfl ?_
                refine ev_bipush (v := 8) dX11_settle_64 (by decide) ?_
                refine ev_icmp_ge (tgt := 116) dX11_settle_66 (by decide) (fun c66 => ?_) (fun c66 => ?_)
                · replace h := xif_t c66 h
                  cases h
                  replace hk := xel_r hk
                  replace hk := xel_l hk
                  exact ev_sub [0, 1, 2, 3, 4] rfl (hk)
                · replace h := xif_f c66 h
                  refine ev_aload_n 0 dX11_settle_69 rfl rfl ?_
                  refine ev_iload_n 1 dX11_settle_70 rfl rfl ?_
                  refine ev_iload 4 dX11_settle_71 rfl ?_
                  refine ev_iload 5 dX11_settle_73 rfl ?_
                  obtain ⟨q12, hq12, h⟩ := xbd_some h
                  refine ev_callV (ci := 11) (rest := []) 3 (kX11_isCase (E := E) (d := 2) (QQ := (fun v τ n' => v = some (.int q12) ∧ τ = xσ μ10 R ∧ n = n')) (Nat.le_refl _) hF hq12 (⟨rfl, rfl, rfl⟩)) my_X11_isCase ⟨m_671, m_673, m_10⟩ cl_11 kd_0 (xl hF rfl) rfl rfl (Nat.le_of_ble_eq_true rfl) (Nat.le_trans (by decide) hd) (xlo (by decide) (Nat.le_trans (by decide) hd)) (Nat.zero_le _) (Nat.zero_le _) dX11_settle_75 (fun v τ n' hv => ?_)
                  obtain ⟨rfl, rfl, rfl⟩ := hv
                  show Ev E (xcm E d 0 0 QQ) Y_X11_settle 78 [(0, .ref (E.2.2.2 + iC)), (1, .int p0), (2, .ref (E.2.2.2 + a2)), (3, .int q5), (4, .int x6), (5, .int x9)] [.int q12] (xσ μ10 R) n 0 0
                  refine ev_if_eq (tgt := 110) dX11_settle_78 (by decide) (fun c78 => ?_) (fun c78 => ?_)
                  · replace h := xif_t c78 h
                    obtain ⟨x13, hx13, h⟩ := xlt_some h
                    refine ev_iinc (L' := [(5, .int x13), (0, .ref (E.2.2.2 + iC)), (1, .int p0), (2, .ref (E.2.2.2 + a2)), (3, .int q5), (4, .int x6)]) 5 dX11_settle_110 rfl ((by rfl : x9 + Int32.ofInt 1 = x9 + 1).trans hx13) (Nat.le_of_ble_eq_true rfl) rfl ?_
                    refine ev_goto (tgt := 62) dX11_settle_113 (by decide) ?_
                    cases h
                    replace hk := xel_l hk
                    exact ev_sub [1, 2, 3, 4, 5, 0] rfl (hk)
                  · replace h := xif_f c78 h
                    refine ev_aload_n 0 dX11_settle_81 rfl rfl ?_
                    refine ev_iload 5 dX11_settle_82 rfl ?_
                    refine ev_aload_n 0 dX11_settle_84 rfl rfl ?_
                    refine ev_iload_n 1 dX11_settle_85 rfl rfl ?_
                    refine ev_iload 4 dX11_settle_86 rfl ?_
                    refine ev_iload 5 dX11_settle_88 rfl ?_
                    obtain ⟨q14, hq14, h⟩ := xbd_some h
                    refine ev_callV (ci := 11) (rest := [.int x9, .ref (E.2.2.2 + iC)]) 3 (kX11_followChain (E := E) (d := 5) (QQ := (fun v τ n' => v = some (xrf E.2.2.2 q14.1) ∧ τ = xσ q14.2 R ∧ n = n' ∧ (∀ a, q14.1 = some a → xIsA 1 a n))) (Nat.le_refl _) hF hq14 (fun z0 => ⟨rfl, rfl, rfl, z0⟩)) my_X11_followChain ⟨m_743, m_745, m_16⟩ cl_11 kd_0 (xl hF rfl) rfl rfl (Nat.le_of_ble_eq_true rfl) (Nat.le_trans (by decide) hd) (xlo (by decide) (Nat.le_trans (by decide) hd)) (Nat.zero_le _) (Nat.zero_le _) dX11_settle_90 (fun v τ n' hv => ?_)
                    obtain ⟨rfl, rfl, rfl, hvq14⟩ := hv
                    show Ev E (xcm E d 0 0 QQ) Y_X11_settle 93 [(0, .ref (E.2.2.2 + iC)), (1, .int p0), (2, .ref (E.2.2.2 + a2)), (3, .int q5), (4, .int x6), (5, .int x9)] [xrf E.2.2.2 q14.1, .int x9, .ref (E.2.2.2 + iC)] (xσ q14.2 R) n 0 0
                    obtain ⟨a15, ha15, h⟩ := xbd_some h
                    refine xv_nn ha15 ?_
                    replace ha15 := hvq14 _ ha15
                    obtain ⟨q16, hq16, h⟩ := xbd_some h
                    refine ev_callV (ci := 11) (rest := []) 2 (kX11_noteChain (E := E) (d := 4) (QQ := (fun v τ n' => v = some (.int q16.1) ∧ τ = xσ q16.2 R ∧ n = n')) (Nat.le_refl _) hF ha15 hq16 (⟨rfl, rfl, rfl⟩)) my_X11_noteChain ⟨m_772, m_774, m_17⟩ cl_11 kd_0 (xl hF rfl) rfl rfl (Nat.le_of_ble_eq_true rfl) (Nat.le_trans (by decide) hd) (xlo (by decide) (Nat.le_trans (by decide) hd)) (Nat.zero_le _) (Nat.zero_le _) dX11_settle_93 (fun v τ n' hv => ?_)
                    obtain ⟨rfl, rfl, rfl⟩ := hv
                    show Ev E (xcm E d 0 0 QQ) Y_X11_settle 96 [(0, .ref (E.2.2.2 + iC)), (1, .int p0), (2, .ref (E.2.2.2 + a2)), (3, .int q5), (4, .int x6), (5, .int x9)] [.int q16.1] (xσ q16.2 R) n 0 0
                    refine ev_if_ne (tgt := 110) dX11_settle_96 (by decide) (fun c96 => ?_) (fun c96 => ?_)
                    · replace h := xif_f c96 h
                      obtain ⟨x17, hx17, h⟩ := xlt_some h
                      refine ev_iinc (L' := [(5, .int x17), (0, .ref (E.2.2.2 + iC)), (1, .int p0), (2, .ref (E.2.2.2 + a2)), (3, .int q5), (4, .int x6)]) 5 dX11_settle_110 rfl ((by rfl : x9 + Int32.ofInt 1 = x9 + 1).trans hx17) (Nat.le_of_ble_eq_true rfl) rfl ?_
                      refine ev_goto (tgt := 62) dX11_settle_113 (by decide) ?_
                      cases h
                      replace hk := xel_l hk
                      exact ev_sub [1, 2, 3, 4, 5, 0] rfl (hk)
                    · replace h := xif_t c96 h
                      refine ev_aload_n 0 dX11_settle_99 rfl rfl ?_
                      refine xv_getF (a := iC_notes) cl_11 lk_RX11_42 kd_0 (xl hF rfl) (fun _ => rfl) (fr_0_4 hF) dX11_settle_100 ?_
                      refine ev_iload_n 3 dX11_settle_103 rfl rfl ?_
                      obtain ⟨q18, hq18, h⟩ := xbd_some h
                      refine ev_callV (ci := 4) (rest := []) 1 (kX4_dropFrom (E := E) (d := 2) (QQ := (fun v τ n' => v = none ∧ τ = xσ q18 R ∧ n = n')) (Nat.le_refl _) hF hq18 (⟨rfl, rfl, rfl⟩)) my_X4_dropFrom ⟨m_780, m_781, m_782⟩ cl_4 kd_28 (xl hF rfl) rfl rfl (Nat.le_of_ble_eq_true rfl) (Nat.le_trans (by decide) hd) (xlo (by decide) (Nat.le_trans (by decide) hd)) (Nat.zero_le _) (Nat.zero_le _) dX11_settle_104 (fun v τ n' hv => ?_)
                      obtain ⟨rfl, rfl, rfl⟩ := hv
                      show Ev E (xcm E d 0 0 QQ) Y_X11_settle 107 [(0, .ref (E.2.2.2 + iC)), (1, .int p0), (2, .ref (E.2.2.2 + a2)), (3, .int q5), (4, .int x6), (5, .int x9)] [] (xσ q18 R) n 0 0
                      refine ev_bipush (v := (-2)) dX11_settle_107 (by decide) ?_
                      cases h
                      replace hk := xel_r hk
                      replace hk := xel_r hk
                      exact ev_iret rfl (hk) dX11_settle_109 (Nat.zero_le _) (Nat.zero_le _)
              · rcases q19 with q20 | q21
                · replace h := xsm_l h
                  show Ev E (xcm E d 0 0 QQ) Y_X11_settle 116 [(0, .ref (E.2.2.2 + iC)), (1, .int p0), (2, .ref (E.2.2.2 + a2)), (3, .int q5), (4, .int x6)] [] (xσ q20 R) n 0 0
                  obtain ⟨x22, hx22, h⟩ := xlt_some h
                  refine ev_iinc (L' := [(4, .int x22), (0, .ref (E.2.2.2 + iC)), (1, .int p0), (2, .ref (E.2.2.2 + a2)), (3, .int q5)]) 4 dX11_settle_116 rfl ((by rfl : x6 + Int32.ofInt 1 = x6 + 1).trans hx22) (Nat.le_of_ble_eq_true rfl) rfl ?_
                  refine ev_goto (tgt := 52) dX11_settle_119 (by decide) ?_
                  cases h
                  replace hk := xel_l hk
                  exact ev_sub [1, 2, 3, 4, 0] rfl (hk)
                · replace h := xsm_r h
                  cases h
                  replace hk := xel_r hk
                  replace hk := xel_r hk
                  exact hk
          · rcases q23 with q24 | q25
            · replace h := xsm_l h
              show Ev E (xcm E d 0 0 QQ) Y_X11_settle 122 [(0, .ref (E.2.2.2 + iC)), (2, .ref (E.2.2.2 + a2)), (3, .int q5)] [] (xσ q24 R) n 0 0
              refine ev_aload_n 1 dX11_settle_122 rfl rfl ?_
              obtain ⟨q26, hq26, h⟩ := xbd_some h
              refine ev_callV (ci := 2) (rest := []) 0 (kX2_close (E := E) (d := 0) (QQ := (fun v τ n' => v = none ∧ τ = xσ q26 R ∧ n = n')) (Nat.le_refl _) hF ha2 hq26 (⟨rfl, rfl, rfl⟩)) my_X2_close ⟨m_785, m_786, m_787⟩ cl_2 (xIs2_kd ha2) (xIs2_lt ha2) rfl rfl (Nat.le_of_ble_eq_true rfl) (Nat.le_trans (by decide) hd) (xlo (by decide) (Nat.le_trans (by decide) hd)) (Nat.zero_le _) (Nat.zero_le _) dX11_settle_123 (fun v τ n' hv => ?_)
              obtain ⟨rfl, rfl, rfl⟩ := hv
              show Ev E (xcm E d 0 0 QQ) Y_X11_settle 126 [(0, .ref (E.2.2.2 + iC)), (2, .ref (E.2.2.2 + a2)), (3, .int q5)] [] (xσ q26 R) n 0 0
              refine ev_aload_n 0 dX11_settle_126 rfl rfl ?_
              refine xv_getF (a := iC_notes) cl_11 lk_RX11_42 kd_0 (xl hF rfl) (fun _ => rfl) (fr_0_4 hF) dX11_settle_127 ?_
              obtain ⟨q27, hq27, h⟩ := xbd_some h
              refine ev_callV (ci := 4) (rest := []) 0 (kX4_length (E := E) (d := 0) (QQ := (fun v τ n' => v = some (.int q27) ∧ τ = xσ q26 R ∧ n = n')) (Nat.le_refl _) hF hq27 (⟨rfl, rfl, rfl⟩)) my_X4_length ⟨m_768, m_769, m_770⟩ cl_4 kd_28 (xl hF rfl) rfl rfl (Nat.le_of_ble_eq_true rfl) (Nat.le_trans (by decide) hd) (xlo (by decide) (Nat.le_trans (by decide) hd)) (Nat.zero_le _) (Nat.zero_le _) dX11_settle_130 (fun v τ n' hv => ?_)
              obtain ⟨rfl, rfl, rfl⟩ := hv
              show Ev E (xcm E d 0 0 QQ) Y_X11_settle 133 [(0, .ref (E.2.2.2 + iC)), (2, .ref (E.2.2.2 + a2)), (3, .int q5)] [.int q27] (xσ q26 R) n 0 0
              refine ev_iload_n 2 dX11_settle_133 rfl rfl ?_
              refine ev_isub dX11_settle_134 ?_
              cases h
              exact ev_iret rfl (hQ) dX11_settle_135 (Nat.zero_le _) (Nat.zero_le _)
            · replace h := xsm_r h
              cases h
              exact hQ
        · replace h := xif_t c36 h
          refine ev_iconst (v := (-1)) dX11_settle_39 (by decide) ?_
          cases h
          exact ev_iret rfl (hQ) dX11_settle_40 (Nat.zero_le _) (Nat.zero_le _)
def fX11_two (p0 : Int32) (p1 : Int32) (p2 : Int32) (p3 : Int32) (p4 : Int32) (p5 : Int32) (μ : xm) (R : xr) : Option (Int64) := xbd (fX3_find p0 μ R) fun q1 => xbd (fX3_find p1 μ R) fun q2 => xop q1 (some (-1)) (fun a3 => xop q2 (some (-1)) (fun a4 => xbd (fX11_inRow a3 a4 p2 μ) fun q5 => if q5 = 0 then (some (-1)) else (xbd (fX11_within p3 0 600) fun q6 => if q6 = 0 then (some (-1)) else (xbd (fX11_within p5 0 99) fun q7 => if q7 = 0 then (some (-1)) else (xbd (fX11_within p4 (-60) 600) fun q8 => if q8 = 0 then (some (-1)) else (xbd (fX10_costOfRow a3 a4 p2 p3 p4 p5 μ) fun q9 => some q9))))))
set_option maxHeartbeats 4000000 in
set_option maxRecDepth 100000 in
theorem kX11_two {E : xE} {d : Nat} {QQ : xP} (hd : 6 ≤ d) {p0 : Int32} {p1 : Int32} {p2 : Int32} {p3 : Int32} {p4 : Int32} {p5 : Int32} {μ : xm} {R : xr} {n : Nat} (hF : xFin R n)  {res : Int64} (h : fX11_two p0 p1 p2 p3 p4 p5 μ R = some res) (hQ : QQ (some (.long res)) (xσ μ R) n) : xCon E d Y_X11_two 0 0 [.ref (E.2.2.2 + iC), .int p0, .int p1, .int p2, .int p3, .int p4, .int p5] (xσ μ R) n QQ := by
  refine xCon_of pn_RX11 (Nat.le_of_ble_eq_true rfl) (L0 := [(0, .ref (E.2.2.2 + iC)), (1, .int p0), (2, .int p1), (3, .int p2), (4, .int p3), (5, .int p4), (6, .int p5)]) rfl ?_
  unfold fX11_two at h
  refine ev_aload_n 0 dX11_two_0 rfl rfl ?_
  refine xv_getF (a := iC_meetings) cl_11 lk_RX11_35 kd_0 (xl hF rfl) (fun _ => rfl) (fr_0_3 hF) dX11_two_1 ?_
  refine ev_iload_n 1 dX11_two_4 rfl rfl ?_
  obtain ⟨q1, hq1, h⟩ := xbd_some h
  refine ev_callV (ci := 3) (rest := []) 1 (kX3_find (E := E) (d := 0) (QQ := (fun v τ n' => v = some (xrf E.2.2.2 q1) ∧ τ = xσ μ R ∧ n = n' ∧ (∀ a, q1 = some a → xIs 2 a n))) (Nat.le_refl _) hF hq1 (fun z0 => ⟨rfl, rfl, rfl, z0⟩)) my_X3_find ⟨m_491, m_492, m_493⟩ cl_3 kd_23 (xl hF rfl) rfl rfl (Nat.le_of_ble_eq_true rfl) (Nat.le_trans (by decide) hd) (xlo (by decide) (Nat.le_trans (by decide) hd)) (Nat.zero_le _) (Nat.zero_le _) dX11_two_5 (fun v τ n' hv => ?_)
  obtain ⟨rfl, rfl, rfl, hvq1⟩ := hv
  show Ev E (xcm E d 0 0 QQ) Y_X11_two 8 [(0, .ref (E.2.2.2 + iC)), (1, .int p0), (2, .int p1), (3, .int p2), (4, .int p3), (5, .int p4), (6, .int p5)] [xrf E.2.2.2 q1] (xσ μ R) n 0 0
  refine xv_astore (r := q1) (L' := [(7, xrf E.2.2.2 q1), (0, .ref (E.2.2.2 + iC)), (1, .int p0), (2, .int p1), (3, .int p2), (4, .int p3), (5, .int p4), (6, .int p5)]) dX11_two_8 (Nat.le_of_ble_eq_true rfl) rfl ?_
  refine ev_aload_n 1 dX11_two_10 rfl rfl ?_
  refine xv_getF (a := iC_meetings) cl_11 lk_RX11_35 kd_0 (xl hF rfl) (fun _ => rfl) (fr_0_3 hF) dX11_two_11 ?_
  refine ev_iload_n 3 dX11_two_14 rfl rfl ?_
  obtain ⟨q2, hq2, h⟩ := xbd_some h
  refine ev_callV (ci := 3) (rest := []) 1 (kX3_find (E := E) (d := 0) (QQ := (fun v τ n' => v = some (xrf E.2.2.2 q2) ∧ τ = xσ μ R ∧ n = n' ∧ (∀ a, q2 = some a → xIs 2 a n))) (Nat.le_refl _) hF hq2 (fun z0 => ⟨rfl, rfl, rfl, z0⟩)) my_X3_find ⟨m_491, m_492, m_493⟩ cl_3 kd_23 (xl hF rfl) rfl rfl (Nat.le_of_ble_eq_true rfl) (Nat.le_trans (by decide) hd) (xlo (by decide) (Nat.le_trans (by decide) hd)) (Nat.zero_le _) (Nat.zero_le _) dX11_two_15 (fun v τ n' hv => ?_)
  obtain ⟨rfl, rfl, rfl, hvq2⟩ := hv
  show Ev E (xcm E d 0 0 QQ) Y_X11_two 18 [(7, xrf E.2.2.2 q1), (0, .ref (E.2.2.2 + iC)), (1, .int p0), (2, .int p1), (3, .int p2), (4, .int p3), (5, .int p4), (6, .int p5)] [xrf E.2.2.2 q2] (xσ μ R) n 0 0
  refine xv_astore (r := q2) (L' := [(8, xrf E.2.2.2 q2), (7, xrf E.2.2.2 q1), (0, .ref (E.2.2.2 + iC)), (1, .int p0), (2, .int p1), (3, .int p2), (4, .int p3), (5, .int p4), (6, .int p5)]) dX11_two_18 (Nat.le_of_ble_eq_true rfl) (by simp [xrf_cat]) ?_
  refine xv_aload (r := q1) 1 dX11_two_20 rfl ?_
  refine ev_ifnull (r := q1) (tgt := 41) dX11_two_22 (by decide) (fun hr => ?_) (fun a3 hr => ?_)
  · subst hr
    replace h := xop_n h
    refine ev_ldc2 (v := (-1)) m_875 dX11_two_41 ?_
    cases h
    exact ev_lret rfl (hQ) dX11_two_44 (Nat.zero_le _) (Nat.zero_le _)
  · subst hr
    replace h := xop_s h
    have ha3 := hvq1 a3 rfl
    refine xv_aload (r := q2) 0 dX11_two_25 rfl ?_
    refine ev_ifnull (r := q2) (tgt := 41) dX11_two_27 (by decide) (fun hr => ?_) (fun a4 hr => ?_)
    · subst hr
      replace h := xop_n h
      refine ev_ldc2 (v := (-1)) m_875 dX11_two_41 ?_
      cases h
      exact ev_lret rfl (hQ) dX11_two_44 (Nat.zero_le _) (Nat.zero_le _)
    · subst hr
      replace h := xop_s h
      have ha4 := hvq2 a4 rfl
      refine ev_aload 1 dX11_two_30 rfl ?_
      refine ev_aload 0 dX11_two_32 rfl ?_
      refine ev_iload_n 5 dX11_two_34 rfl rfl ?_
      obtain ⟨q5, hq5, h⟩ := xbd_some h
      refine ev_callS (As := [.ref (E.2.2.2 + a3), .ref (E.2.2.2 + a4), .int p2]) (rest := []) 3 (kX11_inRow (E := E) (d := 1) (QQ := (fun v τ n' => v = some (.int q5) ∧ τ = xσ μ R ∧ n = n')) (Nat.le_refl _) hF ha3 ha4 hq5 (⟨rfl, rfl, rfl⟩)) my_X11_inRow ⟨m_1073, m_1074⟩ rfl rfl (Nat.le_of_ble_eq_true rfl) (Nat.le_trans (by decide) hd) (xlo (by decide) (Nat.le_trans (by decide) hd)) (Nat.zero_le _) (Nat.zero_le _) dX11_two_35 (fun v τ n' hv => ?_)
      obtain ⟨rfl, rfl, rfl⟩ := hv
      show Ev E (xcm E d 0 0 QQ) Y_X11_two 38 [(8, .ref (E.2.2.2 + a4)), (7, .ref (E.2.2.2 + a3)), (0, .ref (E.2.2.2 + iC)), (1, .int p0), (2, .int p1), (3, .int p2), (4, .int p3), (5, .int p4), (6, .int p5)] [.int q5] (xσ μ R) n 0 0
      refine ev_if_ne (tgt := 45) dX11_two_38 (by decide) (fun c38 => ?_) (fun c38 => ?_)
      · replace h := xif_f c38 h
        refine ev_iload 6 dX11_two_45 rfl ?_
        refine ev_iconst (v := 0) dX11_two_47 (by decide) ?_
        refine ev_sipush (v := 600) dX11_two_48 (by decide) ?_
        obtain ⟨q6, hq6, h⟩ := xbd_some h
        refine ev_callS (As := [.int p3, .int 0, .int 600]) (rest := []) 3 (kX11_within (E := E) (d := 0) (QQ := (fun v τ n' => v = some (.int q6) ∧ τ = xσ μ R ∧ n = n')) (Nat.le_refl _)  hq6 (⟨rfl, rfl, rfl⟩)) my_X11_within ⟨m_424, m_425⟩ rfl rfl (Nat.le_of_ble_eq_true rfl) (Nat.le_trans (by decide) hd) (xlo (by decide) (Nat.le_trans (by decide) hd)) (Nat.zero_le _) (Nat.zero_le _) dX11_two_51 (fun v τ n' hv => ?_)
        obtain ⟨rfl, rfl, rfl⟩ := hv
        show Ev E (xcm E d 0 0 QQ) Y_X11_two 54 [(8, .ref (E.2.2.2 + a4)), (7, .ref (E.2.2.2 + a3)), (0, .ref (E.2.2.2 + iC)), (1, .int p0), (2, .int p1), (3, .int p2), (4, .int p3), (5, .int p4), (6, .int p5)] [.int q6] (xσ μ R) n 0 0
        refine ev_if_eq (tgt := 68) dX11_two_54 (by decide) (fun c54 => ?_) (fun c54 => ?_)
        · replace h := xif_t c54 h
          refine ev_ldc2 (v := (-1)) m_875 dX11_two_68 ?_
          cases h
          exact ev_lret rfl (hQ) dX11_two_71 (Nat.zero_le _) (Nat.zero_le _)
        · replace h := xif_f c54 h
          refine ev_iload 8 dX11_two_57 rfl ?_
          refine ev_iconst (v := 0) dX11_two_59 (by decide) ?_
          refine ev_bipush (v := 99) dX11_two_60 (by decide) ?_
          obtain ⟨q7, hq7, h⟩ := xbd_some h
          refine ev_callS (As := [.int p5, .int 0, .int 99]) (rest := []) 3 (kX11_within (E := E) (d := 0) (QQ := (fun v τ n' => v = some (.int q7) ∧ τ = xσ μ R ∧ n = n')) (Nat.le_refl _)  hq7 (⟨rfl, rfl, rfl⟩)) my_X11_within ⟨m_424, m_425⟩ rfl rfl (Nat.le_of_ble_eq_true rfl) (Nat.le_trans (by decide) hd) (xlo (by decide) (Nat.le_trans (by decide) hd)) (Nat.zero_le _) (Nat.zero_le _) dX11_two_62 (fun v τ n' hv => ?_)
          obtain ⟨rfl, rfl, rfl⟩ := hv
          show Ev E (xcm E d 0 0 QQ) Y_X11_two 65 [(8, .ref (E.2.2.2 + a4)), (7, .ref (E.2.2.2 + a3)), (0, .ref (E.2.2.2 + iC)), (1, .int p0), (2, .int p1), (3, .int p2), (4, .int p3), (5, .int p4), (6, .int p5)] [.int q7] (xσ μ R) n 0 0
          refine ev_if_ne (tgt := 72) dX11_two_65 (by decide) (fun c65 => ?_) (fun c65 => ?_)
          · replace h := xif_f c65 h
            refine ev_iload 7 dX11_two_72 rfl ?_
            refine ev_bipush (v := (-60)) dX11_two_74 (by decide) ?_
            refine ev_sipush (v := 600) dX11_two_76 (by decide) ?_
            obtain ⟨q8, hq8, h⟩ := xbd_some h
            refine ev_callS (As := [.int p4, .int (-60), .int 600]) (rest := []) 3 (kX11_within (E := E) (d := 0) (QQ := (fun v τ n' => v = some (.int q8) ∧ τ = xσ μ R ∧ n = n')) (Nat.le_refl _)  hq8 (⟨rfl, rfl, rfl⟩)) my_X11_within ⟨m_424, m_425⟩ rfl rfl (Nat.le_of_ble_eq_true rfl) (Nat.le_trans (by decide) hd) (xlo (by decide) (Nat.le_trans (by decide) hd)) (Nat.zero_le _) (Nat.zero_le _) dX11_two_79 (fun v τ n' hv => ?_)
            obtain ⟨rfl, rfl, rfl⟩ := hv
            show Ev E (xcm E d 0 0 QQ) Y_X11_two 82 [(8, .ref (E.2.2.2 + a4)), (7, .ref (E.2.2.2 + a3)), (0, .ref (E.2.2.2 + iC)), (1, .int p0), (2, .int p1), (3, .int p2), (4, .int p3), (5, .int p4), (6, .int p5)] [.int q8] (xσ μ R) n 0 0
            refine ev_if_ne (tgt := 89) dX11_two_82 (by decide) (fun c82 => ?_) (fun c82 => ?_)
            · replace h := xif_f c82 h
              refine ev_aload_n 2 dX11_two_89 rfl rfl ?_
              refine xv_getF (a := iC_ways) cl_11 lk_RX11_56 kd_0 (xl hF rfl) (fun _ => rfl) (fr_0_6 hF) dX11_two_90 ?_
              refine ev_aload 1 dX11_two_93 rfl ?_
              refine ev_aload 0 dX11_two_95 rfl ?_
              refine ev_iload_n 5 dX11_two_97 rfl rfl ?_
              refine ev_iload 6 dX11_two_98 rfl ?_
              refine ev_iload 7 dX11_two_100 rfl ?_
              refine ev_iload 8 dX11_two_102 rfl ?_
              obtain ⟨q9, hq9, h⟩ := xbd_some h
              refine ev_callV (ci := 10) (rest := []) 6 (kX10_costOfRow (E := E) (d := 5) (QQ := (fun v τ n' => v = some (.long q9) ∧ τ = xσ μ R ∧ n = n')) (Nat.le_refl _) hF ha3 ha4 hq9 (⟨rfl, rfl, rfl⟩)) my_X10_costOfRow ⟨m_1076, m_1077, m_1078⟩ cl_10 kd_42 (xl hF rfl) rfl rfl (Nat.le_of_ble_eq_true rfl) (Nat.le_trans (by decide) hd) (xlo (by decide) (Nat.le_trans (by decide) hd)) (Nat.zero_le _) (Nat.zero_le _) dX11_two_104 (fun v τ n' hv => ?_)
              obtain ⟨rfl, rfl, rfl⟩ := hv
              show Ev E (xcm E d 0 0 QQ) Y_X11_two 107 [(8, .ref (E.2.2.2 + a4)), (7, .ref (E.2.2.2 + a3)), (0, .ref (E.2.2.2 + iC)), (1, .int p0), (2, .int p1), (3, .int p2), (4, .int p3), (5, .int p4), (6, .int p5)] [.long q9] (xσ μ R) n 0 0
              cases h
              exact ev_lret rfl (hQ) dX11_two_107 (Nat.zero_le _) (Nat.zero_le _)
            · replace h := xif_t c82 h
              refine ev_ldc2 (v := (-1)) m_875 dX11_two_85 ?_
              cases h
              exact ev_lret rfl (hQ) dX11_two_88 (Nat.zero_le _) (Nat.zero_le _)
          · replace h := xif_t c65 h
            refine ev_ldc2 (v := (-1)) m_875 dX11_two_68 ?_
            cases h
            exact ev_lret rfl (hQ) dX11_two_71 (Nat.zero_le _) (Nat.zero_le _)
      · replace h := xif_t c38 h
        refine ev_ldc2 (v := (-1)) m_875 dX11_two_41 ?_
        cases h
        exact ev_lret rfl (hQ) dX11_two_44 (Nat.zero_le _) (Nat.zero_le _)
def fX1_readFactor_b48 (x8 : Int32) (x9 : Int32) (μ10 : xm) : Option ((Int32 × Int32 × xm) ⊕ (Int32 × xm)) := if 5 ≤ x9 then (some (.inr (x8, μ10))) else (xbd (fX1_sign μ10) fun q12 => xbd (fX1_isDigit q12) fun q13 => if q13 = 0 then (some (.inr (x8, μ10))) else (xbd (fX1_sign μ10) fun q14 => xlt (((x8 * 10) + q14) - 48) fun x15 => xlt (xpI μ10 iC_reader 4 ((μ10.1 iC_reader 4) + 1)) fun μ16 => xlt (x9 + 1) fun x17 => some (.inl (x15, x17, μ16))))
def fX1_readFactor_j108 (μ21 : xm) (R : xr) (q18 : Int32 × xm) : Option (xm) := xbd (R iC_reader 2) fun a22 => xbd (fX0_emit a22 ((-1) - q18.1) μ21) fun q23 => some q23
def fX1_readFactor (g_readSum : Int32 → xm → xr → Option xm) (p0 : Int32) (μ : xm) (R : xr) : Option (xm) := xbd (fX1_sign μ) fun q1 => if q1 = 91 then (xbd (fX1_opens p0 μ) fun q25 => if q25.1 = 0 then (some q25.2) else (xbd (g_readSum (p0 + 1) q25.2 R) fun q26 => xbd (fX1_pass 93 q26) fun q27 => some q27)) else (xbd (fX1_isDigit q1) fun q2 => if q2 = 0 then (xbd (fX0_isFact q1) fun q3 => if q3 = 0 then (xbd (fX1_stop 1 μ) fun q4 => some q4) else (xlt (xpI μ iC_reader 4 ((μ.1 iC_reader 4) + 1)) fun μ5 => xbd (R iC_reader 2) fun a6 => xbd (fX0_emit a6 q1 μ5) fun q7 => some q7)) else (xbd (xloop xfu (fun v => fX1_readFactor_b48 v.1 v.2.1 v.2.2) (0, 0, μ)) fun q18 => xbd (fX1_sign q18.2) fun q19 => xbd (fX1_isDigit q19) fun q20 => if q20 = 0 then (fX1_readFactor_j108 q18.2 R q18) else (xbd (fX1_stop 2 q18.2) fun q24 => fX1_readFactor_j108 q24 R q18)))
set_option maxHeartbeats 4000000 in
set_option maxRecDepth 100000 in
theorem kX1_readFactor {E : xE} {d : Nat} {QQ : xP} (hd : 2 ≤ d) {p0 : Int32} {μ : xm} {R : xr} {n : Nat} (hF : xFin R n) {dd : Nat} (hdd : dd + 1 ≤ d) {g_readSum : Int32 → xm → xr → Option xm} (G_readSum : ∀ (p : Int32) (μ res : xm) (QQ : xP), g_readSum p μ R = some res → QQ none (xσ res R) n → xCon E dd Y_X1_readSum 0 0 [.ref (E.2.2.2 + iC_reader), .int p] (xσ μ R) n QQ)  {res : xm} (h : fX1_readFactor g_readSum p0 μ R = some res) (hQ : QQ none (xσ res R) n) : xCon E d Y_X1_readFactor 0 0 [.ref (E.2.2.2 + iC_reader), .int p0] (xσ μ R) n QQ := by
  refine xCon_of pn_RX1 (Nat.le_of_ble_eq_true rfl) (L0 := [(0, .ref (E.2.2.2 + iC_reader)), (1, .int p0)]) rfl ?_
  unfold fX1_readFactor at h
  refine ev_aload_n 0 dX1_readFactor_0 rfl rfl ?_
  obtain ⟨q1, hq1, h⟩ := xbd_some h
  refine ev_callV (ci := 1) (rest := []) 0 (kX1_sign (E := E) (d := 0) (QQ := (fun v τ n' => v = some (.int q1) ∧ τ = xσ μ R ∧ n = n')) (Nat.le_refl _) hF hq1 (⟨rfl, rfl, rfl⟩)) my_X1_sign ⟨m_548, m_550, m_1⟩ cl_1 kd_3 (xl hF rfl) rfl rfl (Nat.le_of_ble_eq_true rfl) (Nat.le_trans (by decide) hd) (xlo (by decide) (Nat.le_trans (by decide) hd)) (Nat.zero_le _) (Nat.zero_le _) dX1_readFactor_1 (fun v τ n' hv => ?_)
  obtain ⟨rfl, rfl, rfl⟩ := hv
  show Ev E (xcm E d 0 0 QQ) Y_X1_readFactor 4 [(0, .ref (E.2.2.2 + iC_reader)), (1, .int p0)] [.int q1] (xσ μ R) n 0 0
  refine xv_istore_n (L' := [(2, .int q1), (0, .ref (E.2.2.2 + iC_reader)), (1, .int p0)]) rfl dX1_readFactor_4 rfl (Nat.le_of_ble_eq_true rfl) rfl ?_
  refine ev_iload_n 0 dX1_readFactor_5 rfl rfl ?_
  refine ev_bipush (v := 91) dX1_readFactor_6 (by decide) ?_
  refine ev_icmp_ne (tgt := 36) dX1_readFactor_8 (by decide) (fun c8 => ?_) (fun c8 => ?_)
  · replace h := xif_f c8 h
    refine ev_iload_n 0 dX1_readFactor_36 rfl rfl ?_
    obtain ⟨q2, hq2, h⟩ := xbd_some h
    refine ev_callS (As := [.int q1]) (rest := []) 1 (kX1_isDigit (E := E) (d := 0) (QQ := (fun v τ n' => v = some (.int q2) ∧ τ = xσ μ R ∧ n = n')) (Nat.le_refl _)  hq2 (⟨rfl, rfl, rfl⟩)) my_X1_isDigit ⟨m_580, m_581⟩ rfl rfl (Nat.le_of_ble_eq_true rfl) (Nat.le_trans (by decide) hd) (xlo (by decide) (Nat.le_trans (by decide) hd)) (Nat.zero_le _) (Nat.zero_le _) dX1_readFactor_37 (fun v τ n' hv => ?_)
    obtain ⟨rfl, rfl, rfl⟩ := hv
    show Ev E (xcm E d 0 0 QQ) Y_X1_readFactor 40 [(2, .int q1), (0, .ref (E.2.2.2 + iC_reader)), (1, .int p0)] [.int q2] (xσ μ R) n 0 0
    refine ev_if_eq (tgt := 121) dX1_readFactor_40 (by decide) (fun c40 => ?_) (fun c40 => ?_)
    · replace h := xif_t c40 h
      refine ev_iload_n 0 dX1_readFactor_121 rfl rfl ?_
      obtain ⟨q3, hq3, h⟩ := xbd_some h
      refine ev_callS (As := [.int q1]) (rest := []) 1 (kX0_isFact (E := E) (d := 0) (QQ := (fun v τ n' => v = some (.int q3) ∧ τ = xσ μ R ∧ n = n')) (Nat.le_refl _)  hq3 (⟨rfl, rfl, rfl⟩)) my_X0_isFact ⟨m_587, m_588⟩ rfl rfl (Nat.le_of_ble_eq_true rfl) (Nat.le_trans (by decide) hd) (xlo (by decide) (Nat.le_trans (by decide) hd)) (Nat.zero_le _) (Nat.zero_le _) dX1_readFactor_122 (fun v τ n' hv => ?_)
      obtain ⟨rfl, rfl, rfl⟩ := hv
      show Ev E (xcm E d 0 0 QQ) Y_X1_readFactor 125 [(2, .int q1), (0, .ref (E.2.2.2 + iC_reader)), (1, .int p0)] [.int q3] (xσ μ R) n 0 0
      refine ev_if_eq (tgt := 149) dX1_readFactor_125 (by decide) (fun c125 => ?_) (fun c125 => ?_)
      · replace h := xif_t c125 h
        refine ev_aload_n 1 dX1_readFactor_149 rfl rfl ?_
        refine ev_iconst (v := 1) dX1_readFactor_150 (by decide) ?_
        obtain ⟨q4, hq4, h⟩ := xbd_some h
        refine ev_callV (ci := 1) (rest := []) 1 (kX1_stop (E := E) (d := 0) (QQ := (fun v τ n' => v = none ∧ τ = xσ q4 R ∧ n = n')) (Nat.le_refl _) hF hq4 (⟨rfl, rfl, rfl⟩)) my_X1_stop ⟨m_552, m_554, m_2⟩ cl_1 kd_3 (xl hF rfl) rfl rfl (Nat.le_of_ble_eq_true rfl) (Nat.le_trans (by decide) hd) (xlo (by decide) (Nat.le_trans (by decide) hd)) (Nat.zero_le _) (Nat.zero_le _) dX1_readFactor_151 (fun v τ n' hv => ?_)
        obtain ⟨rfl, rfl, rfl⟩ := hv
        show Ev E (xcm E d 0 0 QQ) Y_X1_readFactor 154 [(2, .int q1), (0, .ref (E.2.2.2 + iC_reader)), (1, .int p0)] [] (xσ q4 R) n 0 0
        cases h
        exact ev_vret rfl (hQ) dX1_readFactor_154 (Nat.zero_le _) (Nat.zero_le _)
      · replace h := xif_f c125 h
        refine ev_aload_n 1 dX1_readFactor_128 rfl rfl ?_
        refine ev_dup dX1_readFactor_129 rfl ?_
        refine xv_getI cl_1 lk_RX1_42 kd_3 (xl hF rfl) (fun _ => rfl) dX1_readFactor_130 ?_
        refine ev_iconst (v := 1) dX1_readFactor_133 (by decide) ?_
        refine ev_iadd dX1_readFactor_134 ?_
        obtain ⟨μ5, hμ5, h⟩ := xlt_some h
        refine xv_putI cl_1 lk_RX1_42 rfl kd_3 (xl hF rfl) rfl rfl (fun _ => rfl) hμ5 dX1_readFactor_135 ?_
        refine ev_aload_n 1 dX1_readFactor_138 rfl rfl ?_
        refine xv_getR cl_1 lk_RX1_22 kd_3 (xl hF rfl) (fun _ => rfl) dX1_readFactor_139 ?_
        obtain ⟨a6, ha6, h⟩ := xbd_some h
        refine xv_nn ha6 ?_
        replace ha6 := dy_3_2 hF _ ha6
        refine ev_iload_n 0 dX1_readFactor_142 rfl rfl ?_
        obtain ⟨q7, hq7, h⟩ := xbd_some h
        refine ev_callV (ci := 0) (rest := []) 1 (kX0_emit (E := E) (d := 0) (QQ := (fun v τ n' => v = none ∧ τ = xσ q7 R ∧ n = n')) (Nat.le_refl _) hF ha6 hq7 (⟨rfl, rfl, rfl⟩)) my_X0_emit ⟨m_583, m_584, m_585⟩ cl_0 (xIs0_kd ha6) (xIs0_lt ha6) rfl rfl (Nat.le_of_ble_eq_true rfl) (Nat.le_trans (by decide) hd) (xlo (by decide) (Nat.le_trans (by decide) hd)) (Nat.zero_le _) (Nat.zero_le _) dX1_readFactor_143 (fun v τ n' hv => ?_)
        obtain ⟨rfl, rfl, rfl⟩ := hv
        show Ev E (xcm E d 0 0 QQ) Y_X1_readFactor 146 [(2, .int q1), (0, .ref (E.2.2.2 + iC_reader)), (1, .int p0)] [] (xσ q7 R) n 0 0
        refine ev_goto (tgt := 154) dX1_readFactor_146 (by decide) ?_
        cases h
        exact ev_vret rfl (hQ) dX1_readFactor_154 (Nat.zero_le _) (Nat.zero_le _)
    · replace h := xif_f c40 h
      refine ev_iconst (v := 0) dX1_readFactor_43 (by decide) ?_
      refine xv_istore_n (L' := [(3, .int 0), (2, .int q1), (0, .ref (E.2.2.2 + iC_reader)), (1, .int p0)]) rfl dX1_readFactor_44 rfl (Nat.le_of_ble_eq_true rfl) rfl ?_
      refine ev_iconst (v := 0) dX1_readFactor_45 (by decide) ?_
      refine xv_istore (L' := [(4, .int 0), (3, .int 0), (2, .int q1), (0, .ref (E.2.2.2 + iC_reader)), (1, .int p0)]) rfl dX1_readFactor_46 (Nat.le_of_ble_eq_true rfl) rfl ?_
      obtain ⟨q18, hq18, h⟩ := xbd_some h
      refine ev_sub (L' := [(0, .ref (E.2.2.2 + iC_reader)), (3, .int 0), (4, .int 0)]) [3, 1, 0] rfl ?_
      refine xloop_run (fun v => Ev E (xcm E d 0 0 QQ) Y_X1_readFactor 48 [(0, .ref (E.2.2.2 + iC_reader)), (3, .int v.1), (4, .int v.2.1)] [] (xσ v.2.2 R) n 0 0) (fun v => Ev E (xcm E d 0 0 QQ) Y_X1_readFactor 93 [(0, .ref (E.2.2.2 + iC_reader)), (3, .int v.1)] [] (xσ v.2 R) n 0 0) ?_ _ _ _ hq18 ?_
      · rintro ⟨x8, x9, μ10⟩ y11 h hk
        replace h : fX1_readFactor_b48 x8 x9 μ10 = some y11 := h
        show Ev E (xcm E d 0 0 QQ) Y_X1_readFactor 48 [(0, .ref (E.2.2.2 + iC_reader)), (3, .int x8), (4, .int x9)] [] (xσ μ10 R) n 0 0
        unfold fX1_readFactor_b48 at h
        refine ev_iload 2 dX1_readFactor_48 rfl ?_
        refine ev_iconst (v := 5) dX1_readFactor_50 (by decide) ?_
        refine ev_icmp_ge (tgt := 93) dX1_readFactor_51 (by decide) (fun c51 => ?_) (fun c51 => ?_)
        · replace h := xif_t c51 h
          cases h
          replace hk := xel_r hk
          exact ev_sub [0, 1] rfl (hk)
        · replace h := xif_f c51 h
          refine ev_aload_n 0 dX1_readFactor_54 rfl rfl ?_
          obtain ⟨q12, hq12, h⟩ := xbd_some h
          refine ev_callV (ci := 1) (rest := []) 0 (kX1_sign (E := E) (d := 0) (QQ := (fun v τ n' => v = some (.int q12) ∧ τ = xσ μ10 R ∧ n = n')) (Nat.le_refl _) hF hq12 (⟨rfl, rfl, rfl⟩)) my_X1_sign ⟨m_548, m_550, m_1⟩ cl_1 kd_3 (xl hF rfl) rfl rfl (Nat.le_of_ble_eq_true rfl) (Nat.le_trans (by decide) hd) (xlo (by decide) (Nat.le_trans (by decide) hd)) (Nat.zero_le _) (Nat.zero_le _) dX1_readFactor_55 (fun v τ n' hv => ?_)
          obtain ⟨rfl, rfl, rfl⟩ := hv
          show Ev E (xcm E d 0 0 QQ) Y_X1_readFactor 58 [(0, .ref (E.2.2.2 + iC_reader)), (3, .int x8), (4, .int x9)] [.int q12] (xσ μ10 R) n 0 0
          obtain ⟨q13, hq13, h⟩ := xbd_some h
          refine ev_callS (As := [.int q12]) (rest := []) 1 (kX1_isDigit (E := E) (d := 0) (QQ := (fun v τ n' => v = some (.int q13) ∧ τ = xσ μ10 R ∧ n = n')) (Nat.le_refl _)  hq13 (⟨rfl, rfl, rfl⟩)) my_X1_isDigit ⟨m_580, m_581⟩ rfl rfl (Nat.le_of_ble_eq_true rfl) (Nat.le_trans (by decide) hd) (xlo (by decide) (Nat.le_trans (by decide) hd)) (Nat.zero_le _) (Nat.zero_le _) dX1_readFactor_58 (fun v τ n' hv => ?_)
          obtain ⟨rfl, rfl, rfl⟩ := hv
          show Ev E (xcm E d 0 0 QQ) Y_X1_readFactor 61 [(0, .ref (E.2.2.2 + iC_reader)), (3, .int x8), (4, .int x9)] [.int q13] (xσ μ10 R) n 0 0
          refine ev_if_eq (tgt := 93) dX1_readFactor_61 (by decide) (fun c61 => ?_) (fun c61 => ?_)
          · replace h := xif_t c61 h
            cases h
            replace hk := xel_r hk
            exact ev_sub [0, 1] rfl (hk)
          · replace h := xif_f c61 h
            refine ev_iload_n 1 dX1_readFactor_64 rfl rfl ?_
            refine ev_bipush (v := 10) dX1_readFactor_65 (by decide) ?_
            refine ev_imul dX1_readFactor_67 ?_
            refine ev_aload_n 0 dX1_readFactor_68 rfl rfl ?_
            obtain ⟨q14, hq14, h⟩ := xbd_some h
            refine ev_callV (ci := 1) (rest := [.int (x8 * 10)]) 0 (kX1_sign (E := E) (d := 0) (QQ := (fun v τ n' => v = some (.int q14) ∧ τ = xσ μ10 R ∧ n = n')) (Nat.le_refl _) hF hq14 (⟨rfl, rfl, rfl⟩)) my_X1_sign ⟨m_548, m_550, m_1⟩ cl_1 kd_3 (xl hF rfl) rfl rfl (Nat.le_of_ble_eq_true rfl) (Nat.le_trans (by decide) hd) (xlo (by decide) (Nat.le_trans (by decide) hd)) (Nat.zero_le _) (Nat.zero_le _) dX1_readFactor_69 (fun v τ n' hv => ?_)
            obtain ⟨rfl, rfl, rfl⟩ := hv
            show Ev E (xcm E d 0 0 QQ) Y_X1_readFactor 72 [(0, .ref (E.2.2.2 + iC_reader)), (3, .int x8), (4, .int x9)] [.int q14, .int (x8 * 10)] (xσ μ10 R) n 0 0
            refine ev_iadd dX1_readFactor_72 ?_
            refine ev_bipush (v := 48) dX1_readFactor_73 (by decide) ?_
            refine ev_isub dX1_readFactor_75 ?_
            obtain ⟨x15, hx15, h⟩ := xlt_some h
            refine xv_istore_n (L' := [(3, .int x15), (0, .ref (E.2.2.2 + iC_reader)), (4, .int x9)]) hx15 dX1_readFactor_76 rfl (Nat.le_of_ble_eq_true rfl) rfl ?_
            refine ev_aload_n 1 dX1_readFactor_77 rfl rfl ?_
            refine ev_dup dX1_readFactor_78 rfl ?_
            refine xv_getI cl_1 lk_RX1_42 kd_3 (xl hF rfl) (fun _ => rfl) dX1_readFactor_79 ?_
            refine ev_iconst (v := 1) dX1_readFactor_82 (by decide) ?_
            refine ev_iadd dX1_readFactor_83 ?_
            obtain ⟨μ16, hμ16, h⟩ := xlt_some h
            refine xv_putI cl_1 lk_RX1_42 rfl kd_3 (xl hF rfl) rfl rfl (fun _ => rfl) hμ16 dX1_readFactor_84 ?_
            obtain ⟨x17, hx17, h⟩ := xlt_some h
            refine ev_iinc (L' := [(4, .int x17), (3, .int x15), (0, .ref (E.2.2.2 + iC_reader))]) 2 dX1_readFactor_87 rfl ((by rfl : x9 + Int32.ofInt 1 = x9 + 1).trans hx17) (Nat.le_of_ble_eq_true rfl) rfl ?_
            refine ev_goto (tgt := 48) dX1_readFactor_90 (by decide) ?_
            cases h
            replace hk := xel_l hk
            exact ev_sub [2, 1, 0] rfl (hk)
      · show Ev E (xcm E d 0 0 QQ) Y_X1_readFactor 93 [(0, .ref (E.2.2.2 + iC_reader)), (3, .int q18.1)] [] (xσ q18.2 R) n 0 0
        refine ev_aload_n 0 dX1_readFactor_93 rfl rfl ?_
        obtain ⟨q19, hq19, h⟩ := xbd_some h
        refine ev_callV (ci := 1) (rest := []) 0 (kX1_sign (E := E) (d := 0) (QQ := (fun v τ n' => v = some (.int q19) ∧ τ = xσ q18.2 R ∧ n = n')) (Nat.le_refl _) hF hq19 (⟨rfl, rfl, rfl⟩)) my_X1_sign ⟨m_548, m_550, m_1⟩ cl_1 kd_3 (xl hF rfl) rfl rfl (Nat.le_of_ble_eq_true rfl) (Nat.le_trans (by decide) hd) (xlo (by decide) (Nat.le_trans (by decide) hd)) (Nat.zero_le _) (Nat.zero_le _) dX1_readFactor_94 (fun v τ n' hv => ?_)
        obtain ⟨rfl, rfl, rfl⟩ := hv
        show Ev E (xcm E d 0 0 QQ) Y_X1_readFactor 97 [(0, .ref (E.2.2.2 + iC_reader)), (3, .int q18.1)] [.int q19] (xσ q18.2 R) n 0 0
        obtain ⟨q20, hq20, h⟩ := xbd_some h
        refine ev_callS (As := [.int q19]) (rest := []) 1 (kX1_isDigit (E := E) (d := 0) (QQ := (fun v τ n' => v = some (.int q20) ∧ τ = xσ q18.2 R ∧ n = n')) (Nat.le_refl _)  hq20 (⟨rfl, rfl, rfl⟩)) my_X1_isDigit ⟨m_580, m_581⟩ rfl rfl (Nat.le_of_ble_eq_true rfl) (Nat.le_trans (by decide) hd) (xlo (by decide) (Nat.le_trans (by decide) hd)) (Nat.zero_le _) (Nat.zero_le _) dX1_readFactor_97 (fun v τ n' hv => ?_)
        obtain ⟨rfl, rfl, rfl⟩ := hv
        show Ev E (xcm E d 0 0 QQ) Y_X1_readFactor 100 [(0, .ref (E.2.2.2 + iC_reader)), (3, .int q18.1)] [.int q20] (xσ q18.2 R) n 0 0
        have j108 : ∀ (μ21 : xm), fX1_readFactor_j108 μ21 R q18 = some res → Ev E (xcm E d 0 0 QQ) Y_X1_readFactor 108 [(0, .ref (E.2.2.2 + iC_reader)), (3, .int q18.1)] [] (xσ μ21 R) n 0 0 := by
          intro μ21 h
          unfold fX1_readFactor_j108 at h
          refine ev_aload_n 0 dX1_readFactor_108 rfl rfl ?_
          refine xv_getR cl_1 lk_RX1_22 kd_3 (xl hF rfl) (fun _ => rfl) dX1_readFactor_109 ?_
          obtain ⟨a22, ha22, h⟩ := xbd_some h
          refine xv_nn ha22 ?_
          replace ha22 := dy_3_2 hF _ ha22
          refine ev_iconst (v := (-1)) dX1_readFactor_112 (by decide) ?_
          refine ev_iload_n 1 dX1_readFactor_113 rfl rfl ?_
          refine ev_isub dX1_readFactor_114 ?_
          obtain ⟨q23, hq23, h⟩ := xbd_some h
          refine ev_callV (ci := 0) (rest := []) 1 (kX0_emit (E := E) (d := 0) (QQ := (fun v τ n' => v = none ∧ τ = xσ q23 R ∧ n = n')) (Nat.le_refl _) hF ha22 hq23 (⟨rfl, rfl, rfl⟩)) my_X0_emit ⟨m_583, m_584, m_585⟩ cl_0 (xIs0_kd ha22) (xIs0_lt ha22) rfl rfl (Nat.le_of_ble_eq_true rfl) (Nat.le_trans (by decide) hd) (xlo (by decide) (Nat.le_trans (by decide) hd)) (Nat.zero_le _) (Nat.zero_le _) dX1_readFactor_115 (fun v τ n' hv => ?_)
          obtain ⟨rfl, rfl, rfl⟩ := hv
          show Ev E (xcm E d 0 0 QQ) Y_X1_readFactor 118 [(0, .ref (E.2.2.2 + iC_reader)), (3, .int q18.1)] [] (xσ q23 R) n 0 0
          refine ev_goto (tgt := 154) dX1_readFactor_118 (by decide) ?_
          cases h
          exact ev_vret rfl (hQ) dX1_readFactor_154 (Nat.zero_le _) (Nat.zero_le _)
        refine ev_if_eq (tgt := 108) dX1_readFactor_100 (by decide) (fun c100 => ?_) (fun c100 => ?_)
        · replace h := xif_t c100 h
          exact ev_sub [0, 1] rfl (j108 _ h)
        · replace h := xif_f c100 h
          refine ev_aload_n 0 dX1_readFactor_103 rfl rfl ?_
          refine ev_iconst (v := 2) dX1_readFactor_104 (by decide) ?_
          obtain ⟨q24, hq24, h⟩ := xbd_some h
          refine ev_callV (ci := 1) (rest := []) 1 (kX1_stop (E := E) (d := 0) (QQ := (fun v τ n' => v = none ∧ τ = xσ q24 R ∧ n = n')) (Nat.le_refl _) hF hq24 (⟨rfl, rfl, rfl⟩)) my_X1_stop ⟨m_552, m_554, m_2⟩ cl_1 kd_3 (xl hF rfl) rfl rfl (Nat.le_of_ble_eq_true rfl) (Nat.le_trans (by decide) hd) (xlo (by decide) (Nat.le_trans (by decide) hd)) (Nat.zero_le _) (Nat.zero_le _) dX1_readFactor_105 (fun v τ n' hv => ?_)
          obtain ⟨rfl, rfl, rfl⟩ := hv
          show Ev E (xcm E d 0 0 QQ) Y_X1_readFactor 108 [(0, .ref (E.2.2.2 + iC_reader)), (3, .int q18.1)] [] (xσ q24 R) n 0 0
          exact ev_sub [0, 1] rfl (j108 _ h)
  · replace h := xif_t c8 h
    refine ev_aload_n 1 dX1_readFactor_11 rfl rfl ?_
    refine ev_iload_n 2 dX1_readFactor_12 rfl rfl ?_
    obtain ⟨q25, hq25, h⟩ := xbd_some h
    refine ev_callV (ci := 1) (rest := []) 1 (kX1_opens (E := E) (d := 1) (QQ := (fun v τ n' => v = some (.int q25.1) ∧ τ = xσ q25.2 R ∧ n = n')) (Nat.le_refl _) hF hq25 (⟨rfl, rfl, rfl⟩)) my_X1_opens ⟨m_572, m_574, m_5⟩ cl_1 kd_3 (xl hF rfl) rfl rfl (Nat.le_of_ble_eq_true rfl) (Nat.le_trans (by decide) hd) (xlo (by decide) (Nat.le_trans (by decide) hd)) (Nat.zero_le _) (Nat.zero_le _) dX1_readFactor_13 (fun v τ n' hv => ?_)
    obtain ⟨rfl, rfl, rfl⟩ := hv
    show Ev E (xcm E d 0 0 QQ) Y_X1_readFactor 16 [(2, .int q1), (0, .ref (E.2.2.2 + iC_reader)), (1, .int p0)] [.int q25.1] (xσ q25.2 R) n 0 0
    refine ev_if_ne (tgt := 20) dX1_readFactor_16 (by decide) (fun c16 => ?_) (fun c16 => ?_)
    · replace h := xif_f c16 h
      refine ev_aload_n 1 dX1_readFactor_20 rfl rfl ?_
      refine ev_iload_n 2 dX1_readFactor_21 rfl rfl ?_
      refine ev_iconst (v := 1) dX1_readFactor_22 (by decide) ?_
      refine ev_iadd dX1_readFactor_23 ?_
      obtain ⟨q26, hq26, h⟩ := xbd_some h
      refine ev_callV (ci := 1) (rest := []) 1 (G_readSum (p0 + 1) q25.2 q26 (fun v τ n' => v = none ∧ τ = xσ q26 R ∧ n = n') hq26 (⟨rfl, rfl, rfl⟩)) my_X1_readSum ⟨m_564, m_566, m_3⟩ cl_1 kd_3 (xl hF rfl) rfl rfl (Nat.le_of_ble_eq_true rfl) hdd (xlo (by decide) hdd) (Nat.zero_le _) (Nat.zero_le _) dX1_readFactor_24 (fun v τ n' hv => ?_)
      obtain ⟨rfl, rfl, rfl⟩ := hv
      show Ev E (xcm E d 0 0 QQ) Y_X1_readFactor 27 [(2, .int q1), (0, .ref (E.2.2.2 + iC_reader)), (1, .int p0)] [] (xσ q26 R) n 0 0
      refine ev_aload_n 1 dX1_readFactor_27 rfl rfl ?_
      refine ev_bipush (v := 93) dX1_readFactor_28 (by decide) ?_
      obtain ⟨q27, hq27, h⟩ := xbd_some h
      refine ev_callV (ci := 1) (rest := []) 1 (kX1_pass (E := E) (d := 1) (QQ := (fun v τ n' => v = none ∧ τ = xσ q27 R ∧ n = n')) (Nat.le_refl _) hF hq27 (⟨rfl, rfl, rfl⟩)) my_X1_pass ⟨m_576, m_578, m_6⟩ cl_1 kd_3 (xl hF rfl) rfl rfl (Nat.le_of_ble_eq_true rfl) (Nat.le_trans (by decide) hd) (xlo (by decide) (Nat.le_trans (by decide) hd)) (Nat.zero_le _) (Nat.zero_le _) dX1_readFactor_30 (fun v τ n' hv => ?_)
      obtain ⟨rfl, rfl, rfl⟩ := hv
      show Ev E (xcm E d 0 0 QQ) Y_X1_readFactor 33 [(2, .int q1), (0, .ref (E.2.2.2 + iC_reader)), (1, .int p0)] [] (xσ q27 R) n 0 0
      refine ev_goto (tgt := 154) dX1_readFactor_33 (by decide) ?_
      cases h
      exact ev_vret rfl (hQ) dX1_readFactor_154 (Nat.zero_le _) (Nat.zero_le _)
    · replace h := xif_t c16 h
      cases h
      exact ev_vret rfl (hQ) dX1_readFactor_19 (Nat.zero_le _) (Nat.zero_le _)
def fX1_readSum_j89 (x12 : Int32) (p0 : Int32) (R : xr) (g_readFactor : Int32 → xm → xr → Option xm) (x3 : Int32) (q8 : Int32) (x10 : Int32) (μ11 : xm) : Option ((Int32 × Int32 × xm) ⊕ (Int32 × xm)) := xbd (g_readFactor p0 μ11 R) fun q13 => if x10 = 0 then (xbd (R iC_reader 2) fun a15 => xbd (fX0_emit a15 q8 q13) fun q16 => xlt (x3 + 1) fun x17 => some (.inl (x12, x17, q16))) else (xlt (x3 + 1) fun x14 => some (.inl (x12, x14, q13)))
def fX1_readSum_j81 (μ11 : xm) (p0 : Int32) (R : xr) (g_readFactor : Int32 → xm → xr → Option xm) (x2 : Int32) (x3 : Int32) (q8 : Int32) (x10 : Int32) : Option ((Int32 × Int32 × xm) ⊕ (Int32 × xm)) := if x10 = 0 then (fX1_readSum_j89 x2 p0 R g_readFactor x3 q8 x10 μ11) else (fX1_readSum_j89 q8 p0 R g_readFactor x3 q8 x10 μ11)
def fX1_readSum_j61 (x10 : Int32) (p0 : Int32) (R : xr) (g_readFactor : Int32 → xm → xr → Option xm) (x2 : Int32) (x3 : Int32) (q8 : Int32) (μ9 : xm) : Option ((Int32 × Int32 × xm) ⊕ (Int32 × xm)) := if x10 = 0 then (fX1_readSum_j81 μ9 p0 R g_readFactor x2 x3 q8 x10) else (if x2 = (-1) then (fX1_readSum_j81 μ9 p0 R g_readFactor x2 x3 q8 x10) else (xbd (R iC_reader 2) fun a18 => xbd (fX0_emit a18 x2 μ9) fun q19 => fX1_readSum_j81 q19 p0 R g_readFactor x2 x3 q8 x10))
def fX1_readSum_j56 (p0 : Int32) (R : xr) (g_readFactor : Int32 → xm → xr → Option xm) (x2 : Int32) (x3 : Int32) (q8 : Int32) (μ9 : xm) : Option ((Int32 × Int32 × xm) ⊕ (Int32 × xm)) := fX1_readSum_j61 1 p0 R g_readFactor x2 x3 q8 μ9
def fX1_readSum_b9 (x2 : Int32) (x3 : Int32) (μ4 : xm) (p0 : Int32) (R : xr) (g_readFactor : Int32 → xm → xr → Option xm) : Option ((Int32 × Int32 × xm) ⊕ (Int32 × xm)) := if 200 ≤ x3 then (some (.inr (x2, μ4))) else (xbd (fX1_sign μ4) fun q6 => xbd (fX1_isOperator q6) fun q7 => if q7 = 0 then (some (.inr (x2, μ4))) else (xbd (fX1_sign μ4) fun q8 => xlt (xpI μ4 iC_reader 4 ((μ4.1 iC_reader 4) + 1)) fun μ9 => if q8 = 43 then (fX1_readSum_j56 p0 R g_readFactor x2 x3 q8 μ9) else (if q8 = 45 then (fX1_readSum_j56 p0 R g_readFactor x2 x3 q8 μ9) else (fX1_readSum_j61 0 p0 R g_readFactor x2 x3 q8 μ9))))
def fX1_readSum (g_readFactor : Int32 → xm → xr → Option xm) (p0 : Int32) (μ : xm) (R : xr) : Option (xm) := xbd (g_readFactor p0 μ R) fun q1 => xbd (xloop xfu (fun v => fX1_readSum_b9 v.1 v.2.1 v.2.2 p0 R g_readFactor) ((-1), 0, q1)) fun q20 => if q20.1 = (-1) then (some q20.2) else (xbd (R iC_reader 2) fun a21 => xbd (fX0_emit a21 q20.1 q20.2) fun q22 => some q22)
set_option maxHeartbeats 4000000 in
set_option maxRecDepth 100000 in
theorem kX1_readSum {E : xE} {d : Nat} {QQ : xP} (hd : 1 ≤ d) {p0 : Int32} {μ : xm} {R : xr} {n : Nat} (hF : xFin R n) {dd : Nat} (hdd : dd + 1 ≤ d) {g_readFactor : Int32 → xm → xr → Option xm} (G_readFactor : ∀ (p : Int32) (μ res : xm) (QQ : xP), g_readFactor p μ R = some res → QQ none (xσ res R) n → xCon E dd Y_X1_readFactor 0 0 [.ref (E.2.2.2 + iC_reader), .int p] (xσ μ R) n QQ)  {res : xm} (h : fX1_readSum g_readFactor p0 μ R = some res) (hQ : QQ none (xσ res R) n) : xCon E d Y_X1_readSum 0 0 [.ref (E.2.2.2 + iC_reader), .int p0] (xσ μ R) n QQ := by
  refine xCon_of pn_RX1 (Nat.le_of_ble_eq_true rfl) (L0 := [(0, .ref (E.2.2.2 + iC_reader)), (1, .int p0)]) rfl ?_
  unfold fX1_readSum at h
  refine ev_iconst (v := (-1)) dX1_readSum_0 (by decide) ?_
  refine xv_istore_n (L' := [(2, .int (-1)), (0, .ref (E.2.2.2 + iC_reader)), (1, .int p0)]) rfl dX1_readSum_1 rfl (Nat.le_of_ble_eq_true rfl) rfl ?_
  refine ev_aload_n 1 dX1_readSum_2 rfl rfl ?_
  refine ev_iload_n 2 dX1_readSum_3 rfl rfl ?_
  obtain ⟨q1, hq1, h⟩ := xbd_some h
  refine ev_callV (ci := 1) (rest := []) 1 (G_readFactor p0 μ q1 (fun v τ n' => v = none ∧ τ = xσ q1 R ∧ n = n') hq1 (⟨rfl, rfl, rfl⟩)) my_X1_readFactor ⟨m_568, m_570, m_4⟩ cl_1 kd_3 (xl hF rfl) rfl rfl (Nat.le_of_ble_eq_true rfl) hdd (xlo (by decide) hdd) (Nat.zero_le _) (Nat.zero_le _) dX1_readSum_4 (fun v τ n' hv => ?_)
  obtain ⟨rfl, rfl, rfl⟩ := hv
  show Ev E (xcm E d 0 0 QQ) Y_X1_readSum 7 [(2, .int (-1)), (0, .ref (E.2.2.2 + iC_reader)), (1, .int p0)] [] (xσ q1 R) n 0 0
  refine ev_iconst (v := 0) dX1_readSum_7 (by decide) ?_
  refine xv_istore_n (L' := [(3, .int 0), (2, .int (-1)), (0, .ref (E.2.2.2 + iC_reader)), (1, .int p0)]) rfl dX1_readSum_8 rfl (Nat.le_of_ble_eq_true rfl) rfl ?_
  obtain ⟨q20, hq20, h⟩ := xbd_some h
  refine ev_sub (L' := [(0, .ref (E.2.2.2 + iC_reader)), (1, .int p0), (2, .int (-1)), (3, .int 0)]) [2, 3, 1, 0] rfl ?_
  refine xloop_run (fun v => Ev E (xcm E d 0 0 QQ) Y_X1_readSum 9 [(0, .ref (E.2.2.2 + iC_reader)), (1, .int p0), (2, .int v.1), (3, .int v.2.1)] [] (xσ v.2.2 R) n 0 0) (fun v => Ev E (xcm E d 0 0 QQ) Y_X1_readSum 114 [(0, .ref (E.2.2.2 + iC_reader)), (2, .int v.1)] [] (xσ v.2 R) n 0 0) ?_ _ _ _ hq20 ?_
  · rintro ⟨x2, x3, μ4⟩ y5 h hk
    replace h : fX1_readSum_b9 x2 x3 μ4 p0 R g_readFactor = some y5 := h
    show Ev E (xcm E d 0 0 QQ) Y_X1_readSum 9 [(0, .ref (E.2.2.2 + iC_reader)), (1, .int p0), (2, .int x2), (3, .int x3)] [] (xσ μ4 R) n 0 0
    unfold fX1_readSum_b9 at h
    refine ev_iload_n 3 dX1_readSum_9 rfl rfl ?_
    refine ev_sipush (v := 200) dX1_readSum_10 (by decide) ?_
    refine ev_icmp_ge (tgt := 114) dX1_readSum_13 (by decide) (fun c13 => ?_) (fun c13 => ?_)
    · replace h := xif_t c13 h
      cases h
      replace hk := xel_r hk
      exact ev_sub [0, 2] rfl (hk)
    · replace h := xif_f c13 h
      refine ev_aload_n 0 dX1_readSum_16 rfl rfl ?_
      obtain ⟨q6, hq6, h⟩ := xbd_some h
      refine ev_callV (ci := 1) (rest := []) 0 (kX1_sign (E := E) (d := 0) (QQ := (fun v τ n' => v = some (.int q6) ∧ τ = xσ μ4 R ∧ n = n')) (Nat.le_refl _) hF hq6 (⟨rfl, rfl, rfl⟩)) my_X1_sign ⟨m_548, m_550, m_1⟩ cl_1 kd_3 (xl hF rfl) rfl rfl (Nat.le_of_ble_eq_true rfl) (Nat.le_trans (by decide) hd) (xlo (by decide) (Nat.le_trans (by decide) hd)) (Nat.zero_le _) (Nat.zero_le _) dX1_readSum_17 (fun v τ n' hv => ?_)
      obtain ⟨rfl, rfl, rfl⟩ := hv
      show Ev E (xcm E d 0 0 QQ) Y_X1_readSum 20 [(0, .ref (E.2.2.2 + iC_reader)), (1, .int p0), (2, .int x2), (3, .int x3)] [.int q6] (xσ μ4 R) n 0 0
      obtain ⟨q7, hq7, h⟩ := xbd_some h
      refine ev_callS (As := [.int q6]) (rest := []) 1 (kX1_isOperator (E := E) (d := 0) (QQ := (fun v τ n' => v = some (.int q7) ∧ τ = xσ μ4 R ∧ n = n')) (Nat.le_refl _)  hq7 (⟨rfl, rfl, rfl⟩)) my_X1_isOperator ⟨m_590, m_591⟩ rfl rfl (Nat.le_of_ble_eq_true rfl) (Nat.le_trans (by decide) hd) (xlo (by decide) (Nat.le_trans (by decide) hd)) (Nat.zero_le _) (Nat.zero_le _) dX1_readSum_20 (fun v τ n' hv => ?_)
      obtain ⟨rfl, rfl, rfl⟩ := hv
      show Ev E (xcm E d 0 0 QQ) Y_X1_readSum 23 [(0, .ref (E.2.2.2 + iC_reader)), (1, .int p0), (2, .int x2), (3, .int x3)] [.int q7] (xσ μ4 R) n 0 0
      refine ev_if_eq (tgt := 114) dX1_readSum_23 (by decide) (fun c23 => ?_) (fun c23 => ?_)
      · replace h := xif_t c23 h
        cases h
        replace hk := xel_r hk
        exact ev_sub [0, 2] rfl (hk)
      · replace h := xif_f c23 h
        refine ev_aload_n 0 dX1_readSum_26 rfl rfl ?_
        obtain ⟨q8, hq8, h⟩ := xbd_some h
        refine ev_callV (ci := 1) (rest := []) 0 (kX1_sign (E := E) (d := 0) (QQ := (fun v τ n' => v = some (.int q8) ∧ τ = xσ μ4 R ∧ n = n')) (Nat.le_refl _) hF hq8 (⟨rfl, rfl, rfl⟩)) my_X1_sign ⟨m_548, m_550, m_1⟩ cl_1 kd_3 (xl hF rfl) rfl rfl (Nat.le_of_ble_eq_true rfl) (Nat.le_trans (by decide) hd) (xlo (by decide) (Nat.le_trans (by decide) hd)) (Nat.zero_le _) (Nat.zero_le _) dX1_readSum_27 (fun v τ n' hv => ?_)
        obtain ⟨rfl, rfl, rfl⟩ := hv
        show Ev E (xcm E d 0 0 QQ) Y_X1_readSum 30 [(0, .ref (E.2.2.2 + iC_reader)), (1, .int p0), (2, .int x2), (3, .int x3)] [.int q8] (xσ μ4 R) n 0 0
        refine xv_istore (L' := [(4, .int q8), (0, .ref (E.2.2.2 + iC_reader)), (1, .int p0), (2, .int x2), (3, .int x3)]) rfl dX1_readSum_30 (Nat.le_of_ble_eq_true rfl) rfl ?_
        refine ev_aload_n 1 dX1_readSum_32 rfl rfl ?_
        refine ev_dup dX1_readSum_33 rfl ?_
        refine xv_getI cl_1 lk_RX1_42 kd_3 (xl hF rfl) (fun _ => rfl) dX1_readSum_34 ?_
        refine ev_iconst (v := 1) dX1_readSum_37 (by decide) ?_
        refine ev_iadd dX1_readSum_38 ?_
        obtain ⟨μ9, hμ9, h⟩ := xlt_some h
        refine xv_putI cl_1 lk_RX1_42 rfl kd_3 (xl hF rfl) rfl rfl (fun _ => rfl) hμ9 dX1_readSum_39 ?_
        refine ev_iload 0 dX1_readSum_42 rfl ?_
        refine ev_bipush (v := 43) dX1_readSum_44 (by decide) ?_
        have j61 : ∀ (x10 : Int32), fX1_readSum_j61 x10 p0 R g_readFactor x2 x3 q8 μ9 = some y5 → Ev E (xcm E d 0 0 QQ) Y_X1_readSum 61 [(0, .ref (E.2.2.2 + iC_reader)), (1, .int p0), (2, .int x2), (3, .int x3), (4, .int q8)] [.int x10] (xσ μ9 R) n 0 0 := by
          intro x10 h
          unfold fX1_readSum_j61 at h
          refine xv_istore (L' := [(5, .int x10), (0, .ref (E.2.2.2 + iC_reader)), (1, .int p0), (2, .int x2), (3, .int x3), (4, .int q8)]) rfl dX1_readSum_61 (Nat.le_of_ble_eq_true rfl) rfl ?_
          refine ev_iload 0 dX1_readSum_63 rfl ?_
          have j81 : ∀ (μ11 : xm), fX1_readSum_j81 μ11 p0 R g_readFactor x2 x3 q8 x10 = some y5 → Ev E (xcm E d 0 0 QQ) Y_X1_readSum 81 [(0, .ref (E.2.2.2 + iC_reader)), (1, .int p0), (2, .int x2), (3, .int x3), (4, .int q8), (5, .int x10)] [] (xσ μ11 R) n 0 0 := by
            intro μ11 h
            unfold fX1_readSum_j81 at h
            refine ev_iload 5 dX1_readSum_81 rfl ?_
            have j89 : ∀ (x12 : Int32), fX1_readSum_j89 x12 p0 R g_readFactor x3 q8 x10 μ11 = some y5 → Ev E (xcm E d 0 0 QQ) Y_X1_readSum 89 [(0, .ref (E.2.2.2 + iC_reader)), (1, .int p0), (2, .int x12), (3, .int x3), (4, .int q8), (5, .int x10)] [] (xσ μ11 R) n 0 0 := by
              intro x12 h
              unfold fX1_readSum_j89 at h
              refine ev_aload_n 0 dX1_readSum_89 rfl rfl ?_
              refine ev_iload_n 1 dX1_readSum_90 rfl rfl ?_
              obtain ⟨q13, hq13, h⟩ := xbd_some h
              refine ev_callV (ci := 1) (rest := []) 1 (G_readFactor p0 μ11 q13 (fun v τ n' => v = none ∧ τ = xσ q13 R ∧ n = n') hq13 (⟨rfl, rfl, rfl⟩)) my_X1_readFactor ⟨m_568, m_570, m_4⟩ cl_1 kd_3 (xl hF rfl) rfl rfl (Nat.le_of_ble_eq_true rfl) hdd (xlo (by decide) hdd) (Nat.zero_le _) (Nat.zero_le _) dX1_readSum_91 (fun v τ n' hv => ?_)
              obtain ⟨rfl, rfl, rfl⟩ := hv
              show Ev E (xcm E d 0 0 QQ) Y_X1_readSum 94 [(0, .ref (E.2.2.2 + iC_reader)), (1, .int p0), (2, .int x12), (3, .int x3), (4, .int q8), (5, .int x10)] [] (xσ q13 R) n 0 0
              refine ev_iload 5 dX1_readSum_94 rfl ?_
              refine ev_if_ne (tgt := 108) dX1_readSum_96 (by decide) (fun c96 => ?_) (fun c96 => ?_)
              · replace h := xif_f c96 h
                obtain ⟨x14, hx14, h⟩ := xlt_some h
                refine ev_iinc (L' := [(3, .int x14), (0, .ref (E.2.2.2 + iC_reader)), (1, .int p0), (2, .int x12), (4, .int q8), (5, .int x10)]) 3 dX1_readSum_108 rfl ((by rfl : x3 + Int32.ofInt 1 = x3 + 1).trans hx14) (Nat.le_of_ble_eq_true rfl) rfl ?_
                refine ev_goto (tgt := 9) dX1_readSum_111 (by decide) ?_
                cases h
                replace hk := xel_l hk
                exact ev_sub [1, 2, 3, 0] rfl (hk)
              · replace h := xif_t c96 h
                refine ev_aload_n 0 dX1_readSum_99 rfl rfl ?_
                refine xv_getR cl_1 lk_RX1_22 kd_3 (xl hF rfl) (fun _ => rfl) dX1_readSum_100 ?_
                obtain ⟨a15, ha15, h⟩ := xbd_some h
                refine xv_nn ha15 ?_
                replace ha15 := dy_3_2 hF _ ha15
                refine ev_iload 4 dX1_readSum_103 rfl ?_
                obtain ⟨q16, hq16, h⟩ := xbd_some h
                refine ev_callV (ci := 0) (rest := []) 1 (kX0_emit (E := E) (d := 0) (QQ := (fun v τ n' => v = none ∧ τ = xσ q16 R ∧ n = n')) (Nat.le_refl _) hF ha15 hq16 (⟨rfl, rfl, rfl⟩)) my_X0_emit ⟨m_583, m_584, m_585⟩ cl_0 (xIs0_kd ha15) (xIs0_lt ha15) rfl rfl (Nat.le_of_ble_eq_true rfl) (Nat.le_trans (by decide) hd) (xlo (by decide) (Nat.le_trans (by decide) hd)) (Nat.zero_le _) (Nat.zero_le _) dX1_readSum_105 (fun v τ n' hv => ?_)
                obtain ⟨rfl, rfl, rfl⟩ := hv
                show Ev E (xcm E d 0 0 QQ) Y_X1_readSum 108 [(0, .ref (E.2.2.2 + iC_reader)), (1, .int p0), (2, .int x12), (3, .int x3), (4, .int q8), (5, .int x10)] [] (xσ q16 R) n 0 0
                obtain ⟨x17, hx17, h⟩ := xlt_some h
                refine ev_iinc (L' := [(3, .int x17), (0, .ref (E.2.2.2 + iC_reader)), (1, .int p0), (2, .int x12), (4, .int q8), (5, .int x10)]) 3 dX1_readSum_108 rfl ((by rfl : x3 + Int32.ofInt 1 = x3 + 1).trans hx17) (Nat.le_of_ble_eq_true rfl) rfl ?_
                refine ev_goto (tgt := 9) dX1_readSum_111 (by decide) ?_
                cases h
                replace hk := xel_l hk
                exact ev_sub [1, 2, 3, 0] rfl (hk)
            refine ev_if_eq (tgt := 89) dX1_readSum_83 (by decide) (fun c83 => ?_) (fun c83 => ?_)
            · replace h := xif_t c83 h
              exact ev_sub [0, 1, 2, 3, 4, 5] rfl (j89 _ h)
            · replace h := xif_f c83 h
              refine ev_iload 4 dX1_readSum_86 rfl ?_
              refine xv_istore_n (L' := [(2, .int q8), (0, .ref (E.2.2.2 + iC_reader)), (1, .int p0), (3, .int x3), (4, .int q8), (5, .int x10)]) rfl dX1_readSum_88 rfl (Nat.le_of_ble_eq_true rfl) rfl ?_
              exact ev_sub [1, 2, 0, 3, 4, 5] rfl (j89 _ h)
          refine ev_if_eq (tgt := 81) dX1_readSum_65 (by decide) (fun c65 => ?_) (fun c65 => ?_)
          · replace h := xif_t c65 h
            exact ev_sub [1, 2, 3, 4, 5, 0] rfl (j81 _ h)
          · replace h := xif_f c65 h
            refine ev_iload_n 3 dX1_readSum_68 rfl rfl ?_
            refine ev_iconst (v := (-1)) dX1_readSum_69 (by decide) ?_
            refine ev_icmp_eq (tgt := 81) dX1_readSum_70 (by decide) (fun c70 => ?_) (fun c70 => ?_)
            · replace h := xif_t c70 h
              exact ev_sub [1, 2, 3, 4, 5, 0] rfl (j81 _ h)
            · replace h := xif_f c70 h
              refine ev_aload_n 1 dX1_readSum_73 rfl rfl ?_
              refine xv_getR cl_1 lk_RX1_22 kd_3 (xl hF rfl) (fun _ => rfl) dX1_readSum_74 ?_
              obtain ⟨a18, ha18, h⟩ := xbd_some h
              refine xv_nn ha18 ?_
              replace ha18 := dy_3_2 hF _ ha18
              refine ev_iload_n 3 dX1_readSum_77 rfl rfl ?_
              obtain ⟨q19, hq19, h⟩ := xbd_some h
              refine ev_callV (ci := 0) (rest := []) 1 (kX0_emit (E := E) (d := 0) (QQ := (fun v τ n' => v = none ∧ τ = xσ q19 R ∧ n = n')) (Nat.le_refl _) hF ha18 hq19 (⟨rfl, rfl, rfl⟩)) my_X0_emit ⟨m_583, m_584, m_585⟩ cl_0 (xIs0_kd ha18) (xIs0_lt ha18) rfl rfl (Nat.le_of_ble_eq_true rfl) (Nat.le_trans (by decide) hd) (xlo (by decide) (Nat.le_trans (by decide) hd)) (Nat.zero_le _) (Nat.zero_le _) dX1_readSum_78 (fun v τ n' hv => ?_)
              obtain ⟨rfl, rfl, rfl⟩ := hv
              show Ev E (xcm E d 0 0 QQ) Y_X1_readSum 81 [(5, .int x10), (0, .ref (E.2.2.2 + iC_reader)), (1, .int p0), (2, .int x2), (3, .int x3), (4, .int q8)] [] (xσ q19 R) n 0 0
              exact ev_sub [1, 2, 3, 4, 5, 0] rfl (j81 _ h)
        have j56 : fX1_readSum_j56 p0 R g_readFactor x2 x3 q8 μ9 = some y5 → Ev E (xcm E d 0 0 QQ) Y_X1_readSum 56 [(0, .ref (E.2.2.2 + iC_reader)), (1, .int p0), (2, .int x2), (3, .int x3), (4, .int q8)] [] (xσ μ9 R) n 0 0 := by
          intro h
          unfold fX1_readSum_j56 at h
          refine ev_iconst (v := 1) dX1_readSum_56 (by decide) ?_
          refine ev_goto (tgt := 61) dX1_readSum_57 (by decide) ?_
          exact ev_sub [0, 1, 2, 3, 4] rfl (j61 _ h)
        refine ev_icmp_eq (tgt := 56) dX1_readSum_46 (by decide) (fun c46 => ?_) (fun c46 => ?_)
        · replace h := xif_t c46 h
          exact ev_sub [1, 2, 3, 4, 0] rfl (j56 h)
        · replace h := xif_f c46 h
          refine ev_iload 0 dX1_readSum_49 rfl ?_
          refine ev_bipush (v := 45) dX1_readSum_51 (by decide) ?_
          refine ev_icmp_ne (tgt := 60) dX1_readSum_53 (by decide) (fun c53 => ?_) (fun c53 => ?_)
          · replace h := xif_f c53 h
            refine ev_iconst (v := 0) dX1_readSum_60 (by decide) ?_
            exact ev_sub [1, 2, 3, 4, 0] rfl (j61 _ h)
          · replace h := xif_t c53 h
            exact ev_sub [1, 2, 3, 4, 0] rfl (j56 h)
  · show Ev E (xcm E d 0 0 QQ) Y_X1_readSum 114 [(0, .ref (E.2.2.2 + iC_reader)), (2, .int q20.1)] [] (xσ q20.2 R) n 0 0
    refine ev_iload_n 1 dX1_readSum_114 rfl rfl ?_
    refine ev_iconst (v := (-1)) dX1_readSum_115 (by decide) ?_
    refine ev_icmp_eq (tgt := 127) dX1_readSum_116 (by decide) (fun c116 => ?_) (fun c116 => ?_)
    · replace h := xif_t c116 h
      cases h
      exact ev_vret rfl (hQ) dX1_readSum_127 (Nat.zero_le _) (Nat.zero_le _)
    · replace h := xif_f c116 h
      refine ev_aload_n 0 dX1_readSum_119 rfl rfl ?_
      refine xv_getR cl_1 lk_RX1_22 kd_3 (xl hF rfl) (fun _ => rfl) dX1_readSum_120 ?_
      obtain ⟨a21, ha21, h⟩ := xbd_some h
      refine xv_nn ha21 ?_
      replace ha21 := dy_3_2 hF _ ha21
      refine ev_iload_n 1 dX1_readSum_123 rfl rfl ?_
      obtain ⟨q22, hq22, h⟩ := xbd_some h
      refine ev_callV (ci := 0) (rest := []) 1 (kX0_emit (E := E) (d := 0) (QQ := (fun v τ n' => v = none ∧ τ = xσ q22 R ∧ n = n')) (Nat.le_refl _) hF ha21 hq22 (⟨rfl, rfl, rfl⟩)) my_X0_emit ⟨m_583, m_584, m_585⟩ cl_0 (xIs0_kd ha21) (xIs0_lt ha21) rfl rfl (Nat.le_of_ble_eq_true rfl) (Nat.le_trans (by decide) hd) (xlo (by decide) (Nat.le_trans (by decide) hd)) (Nat.zero_le _) (Nat.zero_le _) dX1_readSum_124 (fun v τ n' hv => ?_)
      obtain ⟨rfl, rfl, rfl⟩ := hv
      show Ev E (xcm E d 0 0 QQ) Y_X1_readSum 127 [(0, .ref (E.2.2.2 + iC_reader)), (2, .int q20.1)] [] (xσ q22 R) n 0 0
      cases h
      exact ev_vret rfl (hQ) dX1_readSum_127 (Nat.zero_le _) (Nat.zero_le _)
/-- the closed forms of the two recursions -/
def rX1_readSum (D : Nat) (p : Int32) (μ : xm) (R : xr) : Option xm := match D with
  | 0 => none
  | D + 1 => fX1_readSum (fX1_readFactor (rX1_readSum D)) p μ R
theorem krX1_readSumD {E : xE} {μ0 : xm} {R : xr} {n : Nat} (hF : xFin R n) : ∀ (D d : Nat), 2 * D + 4 ≤ d → ∀ (p : Int32) (μ res : xm) (QQ : xP), rX1_readSum D p μ R = some res → QQ none (xσ res R) n → xCon E d Y_X1_readSum 0 0 [.ref (E.2.2.2 + iC_reader), .int p] (xσ μ R) n QQ := by
  intro D
  induction D with
  | zero => intro d hd p μ res QQ h; cases h
  | succ D ih =>
    intro d hd p μ res QQ h hQ
    unfold rX1_readSum at h
    exact kX1_readSum (dd := d - 1) (by omega) hF (by omega) (fun p' μ' res' QQ' h' hQ' => kX1_readFactor (dd := d - 2) (by omega) hF (by omega) (fun p2 μ2 res2 QQ2 h2 hQ2 => ih (d - 2) (by omega) p2 μ2 res2 QQ2 h2 hQ2) h' hQ') h hQ
theorem krX1_readSum {E : xE} {d : Nat} {QQ : xP} (hd : 30 ≤ d) {p : Int32} {μ : xm} {R : xr} {n : Nat} (hF : xFin R n) {res : xm} (h : rX1_readSum 8 p μ R = some res) (hQ : QQ none (xσ res R) n) : xCon E d Y_X1_readSum 0 0 [.ref (E.2.2.2 + iC_reader), .int p] (xσ μ R) n QQ :=
  krX1_readSumD (μ0 := μ) hF 8 d (by omega) p μ res QQ h hQ

def fX1_readChoice_j79 (x10 : Int32) (p0 : Int32) (R : xr) (g_readPiece : Int32 → xm → xr → Option xm) (x3 : Int32) (q7 : Int32) (μ9 : xm) : Option ((Int32 × Int32 × xm) ⊕ (Int32 × xm)) := xbd (g_readPiece p0 μ9 R) fun q11 => if q7 = 38 then (xbd (R iC_reader 2) fun a13 => xbd (fX0_emit a13 38 q11) fun q14 => xlt (x3 + 1) fun x15 => some (.inl (x10, x15, q14))) else (xlt (x3 + 1) fun x12 => some (.inl (x10, x12, q11)))
def fX1_readChoice_j70 (μ9 : xm) (p0 : Int32) (R : xr) (g_readPiece : Int32 → xm → xr → Option xm) (x2 : Int32) (x3 : Int32) (q7 : Int32) : Option ((Int32 × Int32 × xm) ⊕ (Int32 × xm)) := if q7 = 124 then (fX1_readChoice_j79 1 p0 R g_readPiece x3 q7 μ9) else (fX1_readChoice_j79 x2 p0 R g_readPiece x3 q7 μ9)
def fX1_readChoice_j34 (p0 : Int32) (R : xr) (g_readPiece : Int32 → xm → xr → Option xm) (x2 : Int32) (x3 : Int32) (μ4 : xm) : Option ((Int32 × Int32 × xm) ⊕ (Int32 × xm)) := xbd (fX1_sign μ4) fun q7 => xlt (xpI μ4 iC_reader 4 ((μ4.1 iC_reader 4) + 1)) fun μ8 => if q7 = 124 then (if x2 = 0 then (fX1_readChoice_j70 μ8 p0 R g_readPiece x2 x3 q7) else (xbd (R iC_reader 2) fun a16 => xbd (fX0_emit a16 124 μ8) fun q17 => fX1_readChoice_j70 q17 p0 R g_readPiece x2 x3 q7)) else (fX1_readChoice_j70 μ8 p0 R g_readPiece x2 x3 q7)
def fX1_readChoice_b9 (x2 : Int32) (x3 : Int32) (μ4 : xm) (p0 : Int32) (R : xr) (g_readPiece : Int32 → xm → xr → Option xm) : Option ((Int32 × Int32 × xm) ⊕ (Int32 × xm)) := if 200 ≤ x3 then (some (.inr (x2, μ4))) else (xbd (fX1_sign μ4) fun q6 => if q6 = 124 then (fX1_readChoice_j34 p0 R g_readPiece x2 x3 μ4) else (xbd (fX1_sign μ4) fun q18 => if q18 = 38 then (fX1_readChoice_j34 p0 R g_readPiece x2 x3 μ4) else (some (.inr (x2, μ4)))))
def fX1_readChoice (g_readPiece : Int32 → xm → xr → Option xm) (p0 : Int32) (μ : xm) (R : xr) : Option (xm) := xbd (g_readPiece p0 μ R) fun q1 => xbd (xloop xfu (fun v => fX1_readChoice_b9 v.1 v.2.1 v.2.2 p0 R g_readPiece) (0, 0, q1)) fun q19 => if q19.1 = 0 then (some q19.2) else (xbd (R iC_reader 2) fun a20 => xbd (fX0_emit a20 124 q19.2) fun q21 => some q21)
set_option maxHeartbeats 4000000 in
set_option maxRecDepth 100000 in
theorem kX1_readChoice {E : xE} {d : Nat} {QQ : xP} (hd : 1 ≤ d) {p0 : Int32} {μ : xm} {R : xr} {n : Nat} (hF : xFin R n) {dd : Nat} (hdd : dd + 1 ≤ d) {g_readPiece : Int32 → xm → xr → Option xm} (G_readPiece : ∀ (p : Int32) (μ res : xm) (QQ : xP), g_readPiece p μ R = some res → QQ none (xσ res R) n → xCon E dd Y_X1_readPiece 0 0 [.ref (E.2.2.2 + iC_reader), .int p] (xσ μ R) n QQ)  {res : xm} (h : fX1_readChoice g_readPiece p0 μ R = some res) (hQ : QQ none (xσ res R) n) : xCon E d Y_X1_readChoice 0 0 [.ref (E.2.2.2 + iC_reader), .int p0] (xσ μ R) n QQ := by
  refine xCon_of pn_RX1 (Nat.le_of_ble_eq_true rfl) (L0 := [(0, .ref (E.2.2.2 + iC_reader)), (1, .int p0)]) rfl ?_
  unfold fX1_readChoice at h
  refine ev_iconst (v := 0) dX1_readChoice_0 (by decide) ?_
  refine xv_istore_n (L' := [(2, .int 0), (0, .ref (E.2.2.2 + iC_reader)), (1, .int p0)]) rfl dX1_readChoice_1 rfl (Nat.le_of_ble_eq_true rfl) rfl ?_
  refine ev_aload_n 1 dX1_readChoice_2 rfl rfl ?_
  refine ev_iload_n 2 dX1_readChoice_3 rfl rfl ?_
  obtain ⟨q1, hq1, h⟩ := xbd_some h
  refine ev_callV (ci := 1) (rest := []) 1 (G_readPiece p0 μ q1 (fun v τ n' => v = none ∧ τ = xσ q1 R ∧ n = n') hq1 (⟨rfl, rfl, rfl⟩)) my_X1_readPiece ⟨m_601, m_603, m_8⟩ cl_1 kd_3 (xl hF rfl) rfl rfl (Nat.le_of_ble_eq_true rfl) hdd (xlo (by decide) hdd) (Nat.zero_le _) (Nat.zero_le _) dX1_readChoice_4 (fun v τ n' hv => ?_)
  obtain ⟨rfl, rfl, rfl⟩ := hv
  show Ev E (xcm E d 0 0 QQ) Y_X1_readChoice 7 [(2, .int 0), (0, .ref (E.2.2.2 + iC_reader)), (1, .int p0)] [] (xσ q1 R) n 0 0
  refine ev_iconst (v := 0) dX1_readChoice_7 (by decide) ?_
  refine xv_istore_n (L' := [(3, .int 0), (2, .int 0), (0, .ref (E.2.2.2 + iC_reader)), (1, .int p0)]) rfl dX1_readChoice_8 rfl (Nat.le_of_ble_eq_true rfl) rfl ?_
  obtain ⟨q19, hq19, h⟩ := xbd_some h
  refine ev_sub (L' := [(0, .ref (E.2.2.2 + iC_reader)), (1, .int p0), (2, .int 0), (3, .int 0)]) [2, 3, 1, 0] rfl ?_
  refine xloop_run (fun v => Ev E (xcm E d 0 0 QQ) Y_X1_readChoice 9 [(0, .ref (E.2.2.2 + iC_reader)), (1, .int p0), (2, .int v.1), (3, .int v.2.1)] [] (xσ v.2.2 R) n 0 0) (fun v => Ev E (xcm E d 0 0 QQ) Y_X1_readChoice 106 [(0, .ref (E.2.2.2 + iC_reader)), (2, .int v.1)] [] (xσ v.2 R) n 0 0) ?_ _ _ _ hq19 ?_
  · rintro ⟨x2, x3, μ4⟩ y5 h hk
    replace h : fX1_readChoice_b9 x2 x3 μ4 p0 R g_readPiece = some y5 := h
    show Ev E (xcm E d 0 0 QQ) Y_X1_readChoice 9 [(0, .ref (E.2.2.2 + iC_reader)), (1, .int p0), (2, .int x2), (3, .int x3)] [] (xσ μ4 R) n 0 0
    unfold fX1_readChoice_b9 at h
    refine ev_iload_n 3 dX1_readChoice_9 rfl rfl ?_
    refine ev_sipush (v := 200) dX1_readChoice_10 (by decide) ?_
    refine ev_icmp_ge (tgt := 106) dX1_readChoice_13 (by decide) (fun c13 => ?_) (fun c13 => ?_)
    · replace h := xif_t c13 h
      cases h
      replace hk := xel_r hk
      exact ev_sub [0, 2] rfl (hk)
    · replace h := xif_f c13 h
      refine ev_aload_n 0 dX1_readChoice_16 rfl rfl ?_
      obtain ⟨q6, hq6, h⟩ := xbd_some h
      refine ev_callV (ci := 1) (rest := []) 0 (kX1_sign (E := E) (d := 0) (QQ := (fun v τ n' => v = some (.int q6) ∧ τ = xσ μ4 R ∧ n = n')) (Nat.le_refl _) hF hq6 (⟨rfl, rfl, rfl⟩)) my_X1_sign ⟨m_548, m_550, m_1⟩ cl_1 kd_3 (xl hF rfl) rfl rfl (Nat.le_of_ble_eq_true rfl) (Nat.le_trans (by decide) hd) (xlo (by decide) (Nat.le_trans (by decide) hd)) (Nat.zero_le _) (Nat.zero_le _) dX1_readChoice_17 (fun v τ n' hv => ?_)
      obtain ⟨rfl, rfl, rfl⟩ := hv
      show Ev E (xcm E d 0 0 QQ) Y_X1_readChoice 20 [(0, .ref (E.2.2.2 + iC_reader)), (1, .int p0), (2, .int x2), (3, .int x3)] [.int q6] (xσ μ4 R) n 0 0
      refine ev_bipush (v := 124) dX1_readChoice_20 (by decide) ?_
      have j34 : fX1_readChoice_j34 p0 R g_readPiece x2 x3 μ4 = some y5 → Ev E (xcm E d 0 0 QQ) Y_X1_readChoice 34 [(0, .ref (E.2.2.2 + iC_reader)), (1, .int p0), (2, .int x2), (3, .int x3)] [] (xσ μ4 R) n 0 0 := by
        intro h
        unfold fX1_readChoice_j34 at h
        refine ev_aload_n 0 dX1_readChoice_34 rfl rfl ?_
        obtain ⟨q7, hq7, h⟩ := xbd_some h
        refine ev_callV (ci := 1) (rest := []) 0 (kX1_sign (E := E) (d := 0) (QQ := (fun v τ n' => v = some (.int q7) ∧ τ = xσ μ4 R ∧ n = n')) (Nat.le_refl _) hF hq7 (⟨rfl, rfl, rfl⟩)) my_X1_sign ⟨m_548, m_550, m_1⟩ cl_1 kd_3 (xl hF rfl) rfl rfl (Nat.le_of_ble_eq_true rfl) (Nat.le_trans (by decide) hd) (xlo (by decide) (Nat.le_trans (by decide) hd)) (Nat.zero_le _) (Nat.zero_le _) dX1_readChoice_35 (fun v τ n' hv => ?_)
        obtain ⟨rfl, rfl, rfl⟩ := hv
        show Ev E (xcm E d 0 0 QQ) Y_X1_readChoice 38 [(0, .ref (E.2.2.2 + iC_reader)), (1, .int p0), (2, .int x2), (3, .int x3)] [.int q7] (xσ μ4 R) n 0 0
        refine xv_istore (L' := [(4, .int q7), (0, .ref (E.2.2.2 + iC_reader)), (1, .int p0), (2, .int x2), (3, .int x3)]) rfl dX1_readChoice_38 (Nat.le_of_ble_eq_true rfl) rfl ?_
        refine ev_aload_n 1 dX1_readChoice_40 rfl rfl ?_
        refine ev_dup dX1_readChoice_41 rfl ?_
        refine xv_getI cl_1 lk_RX1_42 kd_3 (xl hF rfl) (fun _ => rfl) dX1_readChoice_42 ?_
        refine ev_iconst (v := 1) dX1_readChoice_45 (by decide) ?_
        refine ev_iadd dX1_readChoice_46 ?_
        obtain ⟨μ8, hμ8, h⟩ := xlt_some h
        refine xv_putI cl_1 lk_RX1_42 rfl kd_3 (xl hF rfl) rfl rfl (fun _ => rfl) hμ8 dX1_readChoice_47 ?_
        refine ev_iload 0 dX1_readChoice_50 rfl ?_
        refine ev_bipush (v := 124) dX1_readChoice_52 (by decide) ?_
        have j70 : ∀ (μ9 : xm), fX1_readChoice_j70 μ9 p0 R g_readPiece x2 x3 q7 = some y5 → Ev E (xcm E d 0 0 QQ) Y_X1_readChoice 70 [(0, .ref (E.2.2.2 + iC_reader)), (1, .int p0), (2, .int x2), (3, .int x3), (4, .int q7)] [] (xσ μ9 R) n 0 0 := by
          intro μ9 h
          unfold fX1_readChoice_j70 at h
          refine ev_iload 4 dX1_readChoice_70 rfl ?_
          refine ev_bipush (v := 124) dX1_readChoice_72 (by decide) ?_
          have j79 : ∀ (x10 : Int32), fX1_readChoice_j79 x10 p0 R g_readPiece x3 q7 μ9 = some y5 → Ev E (xcm E d 0 0 QQ) Y_X1_readChoice 79 [(0, .ref (E.2.2.2 + iC_reader)), (1, .int p0), (2, .int x10), (3, .int x3), (4, .int q7)] [] (xσ μ9 R) n 0 0 := by
            intro x10 h
            unfold fX1_readChoice_j79 at h
            refine ev_aload_n 0 dX1_readChoice_79 rfl rfl ?_
            refine ev_iload_n 1 dX1_readChoice_80 rfl rfl ?_
            obtain ⟨q11, hq11, h⟩ := xbd_some h
            refine ev_callV (ci := 1) (rest := []) 1 (G_readPiece p0 μ9 q11 (fun v τ n' => v = none ∧ τ = xσ q11 R ∧ n = n') hq11 (⟨rfl, rfl, rfl⟩)) my_X1_readPiece ⟨m_601, m_603, m_8⟩ cl_1 kd_3 (xl hF rfl) rfl rfl (Nat.le_of_ble_eq_true rfl) hdd (xlo (by decide) hdd) (Nat.zero_le _) (Nat.zero_le _) dX1_readChoice_81 (fun v τ n' hv => ?_)
            obtain ⟨rfl, rfl, rfl⟩ := hv
            show Ev E (xcm E d 0 0 QQ) Y_X1_readChoice 84 [(0, .ref (E.2.2.2 + iC_reader)), (1, .int p0), (2, .int x10), (3, .int x3), (4, .int q7)] [] (xσ q11 R) n 0 0
            refine ev_iload 4 dX1_readChoice_84 rfl ?_
            refine ev_bipush (v := 38) dX1_readChoice_86 (by decide) ?_
            refine ev_icmp_ne (tgt := 100) dX1_readChoice_88 (by decide) (fun c88 => ?_) (fun c88 => ?_)
            · replace h := xif_f c88 h
              obtain ⟨x12, hx12, h⟩ := xlt_some h
              refine ev_iinc (L' := [(3, .int x12), (0, .ref (E.2.2.2 + iC_reader)), (1, .int p0), (2, .int x10), (4, .int q7)]) 3 dX1_readChoice_100 rfl ((by rfl : x3 + Int32.ofInt 1 = x3 + 1).trans hx12) (Nat.le_of_ble_eq_true rfl) rfl ?_
              refine ev_goto (tgt := 9) dX1_readChoice_103 (by decide) ?_
              cases h
              replace hk := xel_l hk
              exact ev_sub [1, 2, 3, 0] rfl (hk)
            · replace h := xif_t c88 h
              refine ev_aload_n 0 dX1_readChoice_91 rfl rfl ?_
              refine xv_getR cl_1 lk_RX1_22 kd_3 (xl hF rfl) (fun _ => rfl) dX1_readChoice_92 ?_
              obtain ⟨a13, ha13, h⟩ := xbd_some h
              refine xv_nn ha13 ?_
              replace ha13 := dy_3_2 hF _ ha13
              refine ev_bipush (v := 38) dX1_readChoice_95 (by decide) ?_
              obtain ⟨q14, hq14, h⟩ := xbd_some h
              refine ev_callV (ci := 0) (rest := []) 1 (kX0_emit (E := E) (d := 0) (QQ := (fun v τ n' => v = none ∧ τ = xσ q14 R ∧ n = n')) (Nat.le_refl _) hF ha13 hq14 (⟨rfl, rfl, rfl⟩)) my_X0_emit ⟨m_583, m_584, m_585⟩ cl_0 (xIs0_kd ha13) (xIs0_lt ha13) rfl rfl (Nat.le_of_ble_eq_true rfl) (Nat.le_trans (by decide) hd) (xlo (by decide) (Nat.le_trans (by decide) hd)) (Nat.zero_le _) (Nat.zero_le _) dX1_readChoice_97 (fun v τ n' hv => ?_)
              obtain ⟨rfl, rfl, rfl⟩ := hv
              show Ev E (xcm E d 0 0 QQ) Y_X1_readChoice 100 [(0, .ref (E.2.2.2 + iC_reader)), (1, .int p0), (2, .int x10), (3, .int x3), (4, .int q7)] [] (xσ q14 R) n 0 0
              obtain ⟨x15, hx15, h⟩ := xlt_some h
              refine ev_iinc (L' := [(3, .int x15), (0, .ref (E.2.2.2 + iC_reader)), (1, .int p0), (2, .int x10), (4, .int q7)]) 3 dX1_readChoice_100 rfl ((by rfl : x3 + Int32.ofInt 1 = x3 + 1).trans hx15) (Nat.le_of_ble_eq_true rfl) rfl ?_
              refine ev_goto (tgt := 9) dX1_readChoice_103 (by decide) ?_
              cases h
              replace hk := xel_l hk
              exact ev_sub [1, 2, 3, 0] rfl (hk)
          refine ev_icmp_ne (tgt := 79) dX1_readChoice_74 (by decide) (fun c74 => ?_) (fun c74 => ?_)
          · replace h := xif_f c74 h
            exact ev_sub [0, 1, 2, 3, 4] rfl (j79 _ h)
          · replace h := xif_t c74 h
            refine ev_iconst (v := 1) dX1_readChoice_77 (by decide) ?_
            refine xv_istore_n (L' := [(2, .int 1), (0, .ref (E.2.2.2 + iC_reader)), (1, .int p0), (3, .int x3), (4, .int q7)]) rfl dX1_readChoice_78 rfl (Nat.le_of_ble_eq_true rfl) rfl ?_
            exact ev_sub [1, 2, 0, 3, 4] rfl (j79 _ h)
        refine ev_icmp_ne (tgt := 70) dX1_readChoice_54 (by decide) (fun c54 => ?_) (fun c54 => ?_)
        · replace h := xif_f c54 h
          exact ev_sub [1, 2, 3, 4, 0] rfl (j70 _ h)
        · replace h := xif_t c54 h
          refine ev_iload_n 3 dX1_readChoice_57 rfl rfl ?_
          refine ev_if_eq (tgt := 70) dX1_readChoice_58 (by decide) (fun c58 => ?_) (fun c58 => ?_)
          · replace h := xif_t c58 h
            exact ev_sub [1, 2, 3, 4, 0] rfl (j70 _ h)
          · replace h := xif_f c58 h
            refine ev_aload_n 1 dX1_readChoice_61 rfl rfl ?_
            refine xv_getR cl_1 lk_RX1_22 kd_3 (xl hF rfl) (fun _ => rfl) dX1_readChoice_62 ?_
            obtain ⟨a16, ha16, h⟩ := xbd_some h
            refine xv_nn ha16 ?_
            replace ha16 := dy_3_2 hF _ ha16
            refine ev_bipush (v := 124) dX1_readChoice_65 (by decide) ?_
            obtain ⟨q17, hq17, h⟩ := xbd_some h
            refine ev_callV (ci := 0) (rest := []) 1 (kX0_emit (E := E) (d := 0) (QQ := (fun v τ n' => v = none ∧ τ = xσ q17 R ∧ n = n')) (Nat.le_refl _) hF ha16 hq17 (⟨rfl, rfl, rfl⟩)) my_X0_emit ⟨m_583, m_584, m_585⟩ cl_0 (xIs0_kd ha16) (xIs0_lt ha16) rfl rfl (Nat.le_of_ble_eq_true rfl) (Nat.le_trans (by decide) hd) (xlo (by decide) (Nat.le_trans (by decide) hd)) (Nat.zero_le _) (Nat.zero_le _) dX1_readChoice_67 (fun v τ n' hv => ?_)
            obtain ⟨rfl, rfl, rfl⟩ := hv
            show Ev E (xcm E d 0 0 QQ) Y_X1_readChoice 70 [(4, .int q7), (0, .ref (E.2.2.2 + iC_reader)), (1, .int p0), (2, .int x2), (3, .int x3)] [] (xσ q17 R) n 0 0
            exact ev_sub [1, 2, 3, 4, 0] rfl (j70 _ h)
      refine ev_icmp_eq (tgt := 34) dX1_readChoice_22 (by decide) (fun c22 => ?_) (fun c22 => ?_)
      · replace h := xif_t c22 h
        exact ev_sub [0, 1, 2, 3] rfl (j34 h)
      · replace h := xif_f c22 h
        refine ev_aload_n 0 dX1_readChoice_25 rfl rfl ?_
        obtain ⟨q18, hq18, h⟩ := xbd_some h
        refine ev_callV (ci := 1) (rest := []) 0 (kX1_sign (E := E) (d := 0) (QQ := (fun v τ n' => v = some (.int q18) ∧ τ = xσ μ4 R ∧ n = n')) (Nat.le_refl _) hF hq18 (⟨rfl, rfl, rfl⟩)) my_X1_sign ⟨m_548, m_550, m_1⟩ cl_1 kd_3 (xl hF rfl) rfl rfl (Nat.le_of_ble_eq_true rfl) (Nat.le_trans (by decide) hd) (xlo (by decide) (Nat.le_trans (by decide) hd)) (Nat.zero_le _) (Nat.zero_le _) dX1_readChoice_26 (fun v τ n' hv => ?_)
        obtain ⟨rfl, rfl, rfl⟩ := hv
        show Ev E (xcm E d 0 0 QQ) Y_X1_readChoice 29 [(0, .ref (E.2.2.2 + iC_reader)), (1, .int p0), (2, .int x2), (3, .int x3)] [.int q18] (xσ μ4 R) n 0 0
        refine ev_bipush (v := 38) dX1_readChoice_29 (by decide) ?_
        refine ev_icmp_ne (tgt := 106) dX1_readChoice_31 (by decide) (fun c31 => ?_) (fun c31 => ?_)
        · replace h := xif_f c31 h
          cases h
          replace hk := xel_r hk
          exact ev_sub [0, 2] rfl (hk)
        · replace h := xif_t c31 h
          exact ev_sub [0, 1, 2, 3] rfl (j34 h)
  · show Ev E (xcm E d 0 0 QQ) Y_X1_readChoice 106 [(0, .ref (E.2.2.2 + iC_reader)), (2, .int q19.1)] [] (xσ q19.2 R) n 0 0
    refine ev_iload_n 1 dX1_readChoice_106 rfl rfl ?_
    refine ev_if_eq (tgt := 119) dX1_readChoice_107 (by decide) (fun c107 => ?_) (fun c107 => ?_)
    · replace h := xif_t c107 h
      cases h
      exact ev_vret rfl (hQ) dX1_readChoice_119 (Nat.zero_le _) (Nat.zero_le _)
    · replace h := xif_f c107 h
      refine ev_aload_n 0 dX1_readChoice_110 rfl rfl ?_
      refine xv_getR cl_1 lk_RX1_22 kd_3 (xl hF rfl) (fun _ => rfl) dX1_readChoice_111 ?_
      obtain ⟨a20, ha20, h⟩ := xbd_some h
      refine xv_nn ha20 ?_
      replace ha20 := dy_3_2 hF _ ha20
      refine ev_bipush (v := 124) dX1_readChoice_114 (by decide) ?_
      obtain ⟨q21, hq21, h⟩ := xbd_some h
      refine ev_callV (ci := 0) (rest := []) 1 (kX0_emit (E := E) (d := 0) (QQ := (fun v τ n' => v = none ∧ τ = xσ q21 R ∧ n = n')) (Nat.le_refl _) hF ha20 hq21 (⟨rfl, rfl, rfl⟩)) my_X0_emit ⟨m_583, m_584, m_585⟩ cl_0 (xIs0_kd ha20) (xIs0_lt ha20) rfl rfl (Nat.le_of_ble_eq_true rfl) (Nat.le_trans (by decide) hd) (xlo (by decide) (Nat.le_trans (by decide) hd)) (Nat.zero_le _) (Nat.zero_le _) dX1_readChoice_116 (fun v τ n' hv => ?_)
      obtain ⟨rfl, rfl, rfl⟩ := hv
      show Ev E (xcm E d 0 0 QQ) Y_X1_readChoice 119 [(0, .ref (E.2.2.2 + iC_reader)), (2, .int q19.1)] [] (xσ q21 R) n 0 0
      cases h
      exact ev_vret rfl (hQ) dX1_readChoice_119 (Nat.zero_le _) (Nat.zero_le _)
def fX1_readDenied (g_readPiece : Int32 → xm → xr → Option xm) (p0 : Int32) (μ : xm) (R : xr) : Option (xm) := xbd (fX1_opens p0 μ) fun q1 => if q1.1 = 0 then (some q1.2) else (xbd (g_readPiece (p0 + 1) q1.2 R) fun q2 => xbd (R iC_reader 2) fun a3 => xbd (fX0_emit a3 33 q2) fun q4 => some q4)
set_option maxHeartbeats 4000000 in
set_option maxRecDepth 100000 in
theorem kX1_readDenied {E : xE} {d : Nat} {QQ : xP} (hd : 2 ≤ d) {p0 : Int32} {μ : xm} {R : xr} {n : Nat} (hF : xFin R n) {dd : Nat} (hdd : dd + 1 ≤ d) {g_readPiece : Int32 → xm → xr → Option xm} (G_readPiece : ∀ (p : Int32) (μ res : xm) (QQ : xP), g_readPiece p μ R = some res → QQ none (xσ res R) n → xCon E dd Y_X1_readPiece 0 0 [.ref (E.2.2.2 + iC_reader), .int p] (xσ μ R) n QQ)  {res : xm} (h : fX1_readDenied g_readPiece p0 μ R = some res) (hQ : QQ none (xσ res R) n) : xCon E d Y_X1_readDenied 0 0 [.ref (E.2.2.2 + iC_reader), .int p0] (xσ μ R) n QQ := by
  refine xCon_of pn_RX1 (Nat.le_of_ble_eq_true rfl) (L0 := [(0, .ref (E.2.2.2 + iC_reader)), (1, .int p0)]) rfl ?_
  unfold fX1_readDenied at h
  refine ev_aload_n 0 dX1_readDenied_0 rfl rfl ?_
  refine ev_iload_n 1 dX1_readDenied_1 rfl rfl ?_
  obtain ⟨q1, hq1, h⟩ := xbd_some h
  refine ev_callV (ci := 1) (rest := []) 1 (kX1_opens (E := E) (d := 1) (QQ := (fun v τ n' => v = some (.int q1.1) ∧ τ = xσ q1.2 R ∧ n = n')) (Nat.le_refl _) hF hq1 (⟨rfl, rfl, rfl⟩)) my_X1_opens ⟨m_572, m_574, m_5⟩ cl_1 kd_3 (xl hF rfl) rfl rfl (Nat.le_of_ble_eq_true rfl) (Nat.le_trans (by decide) hd) (xlo (by decide) (Nat.le_trans (by decide) hd)) (Nat.zero_le _) (Nat.zero_le _) dX1_readDenied_2 (fun v τ n' hv => ?_)
  obtain ⟨rfl, rfl, rfl⟩ := hv
  show Ev E (xcm E d 0 0 QQ) Y_X1_readDenied 5 [(0, .ref (E.2.2.2 + iC_reader)), (1, .int p0)] [.int q1.1] (xσ q1.2 R) n 0 0
  refine ev_if_ne (tgt := 9) dX1_readDenied_5 (by decide) (fun c5 => ?_) (fun c5 => ?_)
  · replace h := xif_f c5 h
    refine ev_aload_n 0 dX1_readDenied_9 rfl rfl ?_
    refine ev_iload_n 1 dX1_readDenied_10 rfl rfl ?_
    refine ev_iconst (v := 1) dX1_readDenied_11 (by decide) ?_
    refine ev_iadd dX1_readDenied_12 ?_
    obtain ⟨q2, hq2, h⟩ := xbd_some h
    refine ev_callV (ci := 1) (rest := []) 1 (G_readPiece (p0 + 1) q1.2 q2 (fun v τ n' => v = none ∧ τ = xσ q2 R ∧ n = n') hq2 (⟨rfl, rfl, rfl⟩)) my_X1_readPiece ⟨m_601, m_603, m_8⟩ cl_1 kd_3 (xl hF rfl) rfl rfl (Nat.le_of_ble_eq_true rfl) hdd (xlo (by decide) hdd) (Nat.zero_le _) (Nat.zero_le _) dX1_readDenied_13 (fun v τ n' hv => ?_)
    obtain ⟨rfl, rfl, rfl⟩ := hv
    show Ev E (xcm E d 0 0 QQ) Y_X1_readDenied 16 [(0, .ref (E.2.2.2 + iC_reader)), (1, .int p0)] [] (xσ q2 R) n 0 0
    refine ev_aload_n 0 dX1_readDenied_16 rfl rfl ?_
    refine xv_getR cl_1 lk_RX1_22 kd_3 (xl hF rfl) (fun _ => rfl) dX1_readDenied_17 ?_
    obtain ⟨a3, ha3, h⟩ := xbd_some h
    refine xv_nn ha3 ?_
    replace ha3 := dy_3_2 hF _ ha3
    refine ev_bipush (v := 33) dX1_readDenied_20 (by decide) ?_
    obtain ⟨q4, hq4, h⟩ := xbd_some h
    refine ev_callV (ci := 0) (rest := []) 1 (kX0_emit (E := E) (d := 0) (QQ := (fun v τ n' => v = none ∧ τ = xσ q4 R ∧ n = n')) (Nat.le_refl _) hF ha3 hq4 (⟨rfl, rfl, rfl⟩)) my_X0_emit ⟨m_583, m_584, m_585⟩ cl_0 (xIs0_kd ha3) (xIs0_lt ha3) rfl rfl (Nat.le_of_ble_eq_true rfl) (Nat.le_trans (by decide) hd) (xlo (by decide) (Nat.le_trans (by decide) hd)) (Nat.zero_le _) (Nat.zero_le _) dX1_readDenied_22 (fun v τ n' hv => ?_)
    obtain ⟨rfl, rfl, rfl⟩ := hv
    show Ev E (xcm E d 0 0 QQ) Y_X1_readDenied 25 [(0, .ref (E.2.2.2 + iC_reader)), (1, .int p0)] [] (xσ q4 R) n 0 0
    cases h
    exact ev_vret rfl (hQ) dX1_readDenied_25 (Nat.zero_le _) (Nat.zero_le _)
  · replace h := xif_t c5 h
    cases h
    exact ev_vret rfl (hQ) dX1_readDenied_8 (Nat.zero_le _) (Nat.zero_le _)
