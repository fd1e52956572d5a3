def fX10_weightsOf (p0 : Int32) (μ : xm) : Option (Int32) := xbd (fX11_isPerson p0) fun q1 => if q1 = 0 then (some 0) else (xbd (xgI μ iC_ways_allWeights 8 p0) fun v2 => some v2)
set_option maxHeartbeats 4000000 in
set_option maxRecDepth 100000 in
theorem kX10_weightsOf {E : xE} {d : Nat} {QQ : xP} (hd : 1 ≤ d) {p0 : Int32} {μ : xm} {R : xr} {n : Nat} (hF : xFin R n)  {res : Int32} (h : fX10_weightsOf p0 μ = some res) (hQ : QQ (some (.int res)) (xσ μ R) n) : xCon E d Y_X10_weightsOf 0 0 [.ref (E.2.2.2 + iC_ways), .int p0] (xσ μ R) n QQ := by
  refine xCon_of pn_RX10 (Nat.le_of_ble_eq_true rfl) (L0 := [(0, .ref (E.2.2.2 + iC_ways)), (1, .int p0)]) rfl ?_
  unfold fX10_weightsOf at h
  refine ev_iload_n 1 dX10_weightsOf_0 rfl rfl ?_
  obtain ⟨q1, hq1, h⟩ := xbd_some h
  refine ev_callSN (As := [.int p0]) (rest := []) 1 (kX11_isPerson (E := E) (d := 0) (QQ := (fun v τ n' => v = some (.int q1) ∧ τ = xσ μ R ∧ n = n')) (Nat.le_refl _)  hq1 (⟨rfl, rfl, rfl⟩)) my_X11_isPerson ⟨⟨_, xnm_10⟩, m_436⟩ rfl rfl (Nat.le_of_ble_eq_true rfl) (Nat.le_trans (by decide) hd) (xlo (by decide) (Nat.le_trans (by decide) hd)) (Nat.zero_le _) (Nat.zero_le _) dX10_weightsOf_1 (fun v τ n' hv => ?_)
  obtain ⟨rfl, rfl, rfl⟩ := hv
  show Ev E (xcm E d 0 0 QQ) Y_X10_weightsOf 4 [(0, .ref (E.2.2.2 + iC_ways)), (1, .int p0)] [.int q1] (xσ μ R) n 0 0
  refine ev_if_eq (tgt := 16) dX10_weightsOf_4 (by decide) (fun c4 => ?_) (fun c4 => ?_)
  · replace h := xif_t c4 h
    refine ev_iconst (v := 0) dX10_weightsOf_16 (by decide) ?_
    cases h
    exact ev_iret rfl (hQ) dX10_weightsOf_17 (Nat.zero_le _) (Nat.zero_le _)
  · replace h := xif_f c4 h
    refine ev_aload_n 0 dX10_weightsOf_7 rfl rfl ?_
    refine xv_getF (a := iC_ways_allWeights) cl_10 lk_RX10_21 kd_42 (xl hF rfl) (fun _ => rfl) (fr_42_4 hF) dX10_weightsOf_8 ?_
    refine ev_iload_n 1 dX10_weightsOf_11 rfl rfl ?_
    obtain ⟨v2, hv2, h⟩ := xbd_some h
    refine xv_iald kd_46 (xl hF rfl) hv2 dX10_weightsOf_12 ?_
    refine ev_goto (tgt := 17) dX10_weightsOf_13 (by decide) ?_
    cases h
    exact ev_iret rfl (hQ) dX10_weightsOf_17 (Nat.zero_le _) (Nat.zero_le _)
def fX11_bridge (p0 : Int32) (p1 : Int32) (p2 : Int32) (μ : xm) : Option (Int32 × xm) := xbd (fX11_within p1 1 100) fun q1 => if q1 = 0 then (some (0, μ)) else (xbd (fX11_within p0 0 p1) fun q2 => if q2 = 0 then (some (0, μ)) else (xbd (fX11_within p2 0 600) fun q3 => if q3 = 0 then (some (0, μ)) else (xbd (fX10_setBridge p0 p1 p2 μ) fun q4 => some (1, q4))))
set_option maxHeartbeats 4000000 in
set_option maxRecDepth 100000 in
theorem kX11_bridge {E : xE} {d : Nat} {QQ : xP} (hd : 1 ≤ d) {p0 : Int32} {p1 : Int32} {p2 : Int32} {μ : xm} {R : xr} {n : Nat} (hF : xFin R n)  {res : Int32 × xm} (h : fX11_bridge p0 p1 p2 μ = some res) (hQ : QQ (some (.int res.1)) (xσ res.2 R) n) : xCon E d Y_X11_bridge 0 0 [.ref (E.2.2.2 + iC), .int p0, .int p1, .int p2] (xσ μ R) n QQ := by
  refine xCon_of pn_RX11 (Nat.le_of_ble_eq_true rfl) (L0 := [(0, .ref (E.2.2.2 + iC)), (1, .int p0), (2, .int p1), (3, .int p2)]) rfl ?_
  unfold fX11_bridge at h
  refine ev_iload_n 2 dX11_bridge_0 rfl rfl ?_
  refine ev_iconst (v := 1) dX11_bridge_1 (by decide) ?_
  refine ev_bipush (v := 100) dX11_bridge_2 (by decide) ?_
  obtain ⟨q1, hq1, h⟩ := xbd_some h
  refine ev_callS (As := [.int p1, .int 1, .int 100]) (rest := []) 3 (kX11_within (E := E) (d := 0) (QQ := (fun v τ n' => v = some (.int q1) ∧ τ = xσ μ R ∧ n = n')) (Nat.le_refl _)  hq1 (⟨rfl, rfl, rfl⟩)) my_X11_within ⟨m_424, m_425⟩ rfl rfl (Nat.le_of_ble_eq_true rfl) (Nat.le_trans (by decide) hd) (xlo (by decide) (Nat.le_trans (by decide) hd)) (Nat.zero_le _) (Nat.zero_le _) dX11_bridge_4 (fun v τ n' hv => ?_)
  obtain ⟨rfl, rfl, rfl⟩ := hv
  show Ev E (xcm E d 0 0 QQ) Y_X11_bridge 7 [(0, .ref (E.2.2.2 + iC)), (1, .int p0), (2, .int p1), (3, .int p2)] [.int q1] (xσ μ R) n 0 0
  refine ev_if_eq (tgt := 30) dX11_bridge_7 (by decide) (fun c7 => ?_) (fun c7 => ?_)
  · replace h := xif_t c7 h
    refine ev_iconst (v := 0) dX11_bridge_30 (by decide) ?_
    cases h
    exact ev_zret rfl (Or.inl rfl) (hQ) dX11_bridge_31 (Nat.zero_le _) (Nat.zero_le _)
  · replace h := xif_f c7 h
    refine ev_iload_n 1 dX11_bridge_10 rfl rfl ?_
    refine ev_iconst (v := 0) dX11_bridge_11 (by decide) ?_
    refine ev_iload_n 2 dX11_bridge_12 rfl rfl ?_
    obtain ⟨q2, hq2, h⟩ := xbd_some h
    refine ev_callS (As := [.int p0, .int 0, .int p1]) (rest := []) 3 (kX11_within (E := E) (d := 0) (QQ := (fun v τ n' => v = some (.int q2) ∧ τ = xσ μ R ∧ n = n')) (Nat.le_refl _)  hq2 (⟨rfl, rfl, rfl⟩)) my_X11_within ⟨m_424, m_425⟩ rfl rfl (Nat.le_of_ble_eq_true rfl) (Nat.le_trans (by decide) hd) (xlo (by decide) (Nat.le_trans (by decide) hd)) (Nat.zero_le _) (Nat.zero_le _) dX11_bridge_13 (fun v τ n' hv => ?_)
    obtain ⟨rfl, rfl, rfl⟩ := hv
    show Ev E (xcm E d 0 0 QQ) Y_X11_bridge 16 [(0, .ref (E.2.2.2 + iC)), (1, .int p0), (2, .int p1), (3, .int p2)] [.int q2] (xσ μ R) n 0 0
    refine ev_if_eq (tgt := 30) dX11_bridge_16 (by decide) (fun c16 => ?_) (fun c16 => ?_)
    · replace h := xif_t c16 h
      refine ev_iconst (v := 0) dX11_bridge_30 (by decide) ?_
      cases h
      exact ev_zret rfl (Or.inl rfl) (hQ) dX11_bridge_31 (Nat.zero_le _) (Nat.zero_le _)
    · replace h := xif_f c16 h
      refine ev_iload_n 3 dX11_bridge_19 rfl rfl ?_
      refine ev_iconst (v := 0) dX11_bridge_20 (by decide) ?_
      refine ev_sipush (v := 600) dX11_bridge_21 (by decide) ?_
      obtain ⟨q3, hq3, h⟩ := xbd_some h
      refine ev_callS (As := [.int p2, .int 0, .int 600]) (rest := []) 3 (kX11_within (E := E) (d := 0) (QQ := (fun v τ n' => v = some (.int q3) ∧ τ = xσ μ R ∧ n = n')) (Nat.le_refl _)  hq3 (⟨rfl, rfl, rfl⟩)) my_X11_within ⟨m_424, m_425⟩ rfl rfl (Nat.le_of_ble_eq_true rfl) (Nat.le_trans (by decide) hd) (xlo (by decide) (Nat.le_trans (by decide) hd)) (Nat.zero_le _) (Nat.zero_le _) dX11_bridge_24 (fun v τ n' hv => ?_)
      obtain ⟨rfl, rfl, rfl⟩ := hv
      show Ev E (xcm E d 0 0 QQ) Y_X11_bridge 27 [(0, .ref (E.2.2.2 + iC)), (1, .int p0), (2, .int p1), (3, .int p2)] [.int q3] (xσ μ R) n 0 0
      refine ev_if_ne (tgt := 32) dX11_bridge_27 (by decide) (fun c27 => ?_) (fun c27 => ?_)
      · replace h := xif_f c27 h
        refine ev_aload_n 0 dX11_bridge_32 rfl rfl ?_
        refine xv_getF (a := iC_ways) cl_11 lk_RX11_56 kd_0 (xl hF rfl) (fun _ => rfl) (fr_0_6 hF) dX11_bridge_33 ?_
        refine ev_iload_n 1 dX11_bridge_36 rfl rfl ?_
        refine ev_iload_n 2 dX11_bridge_37 rfl rfl ?_
        refine ev_iload_n 3 dX11_bridge_38 rfl rfl ?_
        obtain ⟨q4, hq4, h⟩ := xbd_some h
        refine ev_callV (ci := 10) (rest := []) 3 (kX10_setBridge (E := E) (d := 0) (QQ := (fun v τ n' => v = none ∧ τ = xσ q4 R ∧ n = n')) (Nat.le_refl _) hF hq4 (⟨rfl, rfl, rfl⟩)) my_X10_setBridge ⟨m_967, m_968, m_969⟩ cl_10 kd_42 (xl hF rfl) rfl rfl (Nat.le_of_ble_eq_true rfl) (Nat.le_trans (by decide) hd) (xlo (by decide) (Nat.le_trans (by decide) hd)) (Nat.zero_le _) (Nat.zero_le _) dX11_bridge_39 (fun v τ n' hv => ?_)
        obtain ⟨rfl, rfl, rfl⟩ := hv
        show Ev E (xcm E d 0 0 QQ) Y_X11_bridge 42 [(0, .ref (E.2.2.2 + iC)), (1, .int p0), (2, .int p1), (3, .int p2)] [] (xσ q4 R) n 0 0
        refine ev_iconst (v := 1) dX11_bridge_42 (by decide) ?_
        cases h
        exact ev_zret rfl (Or.inr rfl) (hQ) dX11_bridge_43 (Nat.zero_le _) (Nat.zero_le _)
      · replace h := xif_t c27 h
        refine ev_iconst (v := 0) dX11_bridge_30 (by decide) ?_
        cases h
        exact ev_zret rfl (Or.inl rfl) (hQ) dX11_bridge_31 (Nat.zero_le _) (Nat.zero_le _)
def fX11_came (p0 : Int32) (p1 : Int32) (p2 : Int32) (μ : xm) (R : xr) : Option (Int32 × xm) := xbd (fX3_find p0 μ R) fun q1 => xop q1 (some (0, μ)) (fun a2 => xbd (fX2_isSettled a2 μ) fun q3 => if q3 = 0 then (xbd (fX2_includes a2 p1 μ) fun q4 => if q4 = 0 then (some (0, μ)) else (xbd (fX11_within p2 0 1439) fun q5 => if q5 = 0 then (some (0, μ)) else (xbd (fX2_tell a2 p1 p2 μ) fun q6 => some (1, q6)))) else (some (0, μ)))
set_option maxHeartbeats 4000000 in
set_option maxRecDepth 100000 in
theorem kX11_came {E : xE} {d : Nat} {QQ : xP} (hd : 1 ≤ d) {p0 : Int32} {p1 : Int32} {p2 : Int32} {μ : xm} {R : xr} {n : Nat} (hF : xFin R n)  {res : Int32 × xm} (h : fX11_came p0 p1 p2 μ R = some res) (hQ : QQ (some (.int res.1)) (xσ res.2 R) n) : xCon E d Y_X11_came 0 0 [.ref (E.2.2.2 + iC), .int p0, .int p1, .int p2] (xσ μ R) n QQ := by
  refine xCon_of pn_RX11 (Nat.le_of_ble_eq_true rfl) (L0 := [(0, .ref (E.2.2.2 + iC)), (1, .int p0), (2, .int p1), (3, .int p2)]) rfl ?_
  unfold fX11_came at h
  refine ev_aload_n 0 dX11_came_0 rfl rfl ?_
  refine xv_getF (a := iC_meetings) cl_11 lk_RX11_35 kd_0 (xl hF rfl) (fun _ => rfl) (fr_0_3 hF) dX11_came_1 ?_
  refine ev_iload_n 1 dX11_came_4 rfl rfl ?_
  obtain ⟨q1, hq1, h⟩ := xbd_some h
  refine ev_callV (ci := 3) (rest := []) 1 (kX3_find (E := E) (d := 0) (QQ := (fun v τ n' => v = some (xrf E.2.2.2 q1) ∧ τ = xσ μ R ∧ n = n' ∧ (∀ a, q1 = some a → xIs 2 a n))) (Nat.le_refl _) hF hq1 (fun z0 => ⟨rfl, rfl, rfl, z0⟩)) my_X3_find ⟨m_491, m_492, m_493⟩ cl_3 kd_23 (xl hF rfl) rfl rfl (Nat.le_of_ble_eq_true rfl) (Nat.le_trans (by decide) hd) (xlo (by decide) (Nat.le_trans (by decide) hd)) (Nat.zero_le _) (Nat.zero_le _) dX11_came_5 (fun v τ n' hv => ?_)
  obtain ⟨rfl, rfl, rfl, hvq1⟩ := hv
  show Ev E (xcm E d 0 0 QQ) Y_X11_came 8 [(0, .ref (E.2.2.2 + iC)), (1, .int p0), (2, .int p1), (3, .int p2)] [xrf E.2.2.2 q1] (xσ μ R) n 0 0
  refine xv_astore (r := q1) (L' := [(4, xrf E.2.2.2 q1), (0, .ref (E.2.2.2 + iC)), (1, .int p0), (2, .int p1), (3, .int p2)]) dX11_came_8 (Nat.le_of_ble_eq_true rfl) rfl ?_
  refine xv_aload (r := q1) 0 dX11_came_10 rfl ?_
  refine ev_ifnull (r := q1) (tgt := 32) dX11_came_12 (by decide) (fun hr => ?_) (fun a2 hr => ?_)
  · subst hr
    replace h := xop_n h
    refine ev_iconst (v := 0) dX11_came_32 (by decide) ?_
    cases h
    exact ev_zret rfl (Or.inl rfl) (hQ) dX11_came_33 (Nat.zero_le _) (Nat.zero_le _)
  · subst hr
    replace h := xop_s h
    have ha2 := hvq1 a2 rfl
    refine ev_aload 0 dX11_came_15 rfl ?_
    obtain ⟨q3, hq3, h⟩ := xbd_some h
    refine ev_callV (ci := 2) (rest := []) 0 (kX2_isSettled (E := E) (d := 0) (QQ := (fun v τ n' => v = some (.int q3) ∧ τ = xσ μ R ∧ n = n')) (Nat.le_refl _) hF ha2 hq3 (⟨rfl, rfl, rfl⟩)) my_X2_isSettled ⟨m_495, m_496, m_497⟩ cl_2 (xIs2_kd ha2) (xIs2_lt ha2) rfl rfl (Nat.le_of_ble_eq_true rfl) (Nat.le_trans (by decide) hd) (xlo (by decide) (Nat.le_trans (by decide) hd)) (Nat.zero_le _) (Nat.zero_le _) dX11_came_17 (fun v τ n' hv => ?_)
    obtain ⟨rfl, rfl, rfl⟩ := hv
    show Ev E (xcm E d 0 0 QQ) Y_X11_came 20 [(4, .ref (E.2.2.2 + a2)), (0, .ref (E.2.2.2 + iC)), (1, .int p0), (2, .int p1), (3, .int p2)] [.int q3] (xσ μ R) n 0 0
    refine ev_if_ne (tgt := 32) dX11_came_20 (by decide) (fun c20 => ?_) (fun c20 => ?_)
    · replace h := xif_f c20 h
      refine ev_iconst (v := 0) dX11_came_32 (by decide) ?_
      cases h
      exact ev_zret rfl (Or.inl rfl) (hQ) dX11_came_33 (Nat.zero_le _) (Nat.zero_le _)
    · replace h := xif_t c20 h
      refine ev_aload 0 dX11_came_23 rfl ?_
      refine ev_iload_n 3 dX11_came_25 rfl rfl ?_
      obtain ⟨q4, hq4, h⟩ := xbd_some h
      refine ev_callV (ci := 2) (rest := []) 1 (kX2_includes (E := E) (d := 0) (QQ := (fun v τ n' => v = some (.int q4) ∧ τ = xσ μ R ∧ n = n')) (Nat.le_refl _) hF ha2 hq4 (⟨rfl, rfl, rfl⟩)) my_X2_includes ⟨m_499, m_500, m_501⟩ cl_2 (xIs2_kd ha2) (xIs2_lt ha2) rfl rfl (Nat.le_of_ble_eq_true rfl) (Nat.le_trans (by decide) hd) (xlo (by decide) (Nat.le_trans (by decide) hd)) (Nat.zero_le _) (Nat.zero_le _) dX11_came_26 (fun v τ n' hv => ?_)
      obtain ⟨rfl, rfl, rfl⟩ := hv
      show Ev E (xcm E d 0 0 QQ) Y_X11_came 29 [(4, .ref (E.2.2.2 + a2)), (0, .ref (E.2.2.2 + iC)), (1, .int p0), (2, .int p1), (3, .int p2)] [.int q4] (xσ μ R) n 0 0
      refine ev_if_ne (tgt := 34) dX11_came_29 (by decide) (fun c29 => ?_) (fun c29 => ?_)
      · replace h := xif_f c29 h
        refine ev_iload_n 4 dX11_came_34 rfl rfl ?_
        refine ev_iconst (v := 0) dX11_came_35 (by decide) ?_
        refine ev_sipush (v := 1439) dX11_came_36 (by decide) ?_
        obtain ⟨q5, hq5, h⟩ := xbd_some h
        refine ev_callS (As := [.int p2, .int 0, .int 1439]) (rest := []) 3 (kX11_within (E := E) (d := 0) (QQ := (fun v τ n' => v = some (.int q5) ∧ τ = xσ μ R ∧ n = n')) (Nat.le_refl _)  hq5 (⟨rfl, rfl, rfl⟩)) my_X11_within ⟨m_424, m_425⟩ rfl rfl (Nat.le_of_ble_eq_true rfl) (Nat.le_trans (by decide) hd) (xlo (by decide) (Nat.le_trans (by decide) hd)) (Nat.zero_le _) (Nat.zero_le _) dX11_came_39 (fun v τ n' hv => ?_)
        obtain ⟨rfl, rfl, rfl⟩ := hv
        show Ev E (xcm E d 0 0 QQ) Y_X11_came 42 [(4, .ref (E.2.2.2 + a2)), (0, .ref (E.2.2.2 + iC)), (1, .int p0), (2, .int p1), (3, .int p2)] [.int q5] (xσ μ R) n 0 0
        refine ev_if_ne (tgt := 47) dX11_came_42 (by decide) (fun c42 => ?_) (fun c42 => ?_)
        · replace h := xif_f c42 h
          refine ev_aload 0 dX11_came_47 rfl ?_
          refine ev_iload_n 3 dX11_came_49 rfl rfl ?_
          refine ev_iload_n 4 dX11_came_50 rfl rfl ?_
          obtain ⟨q6, hq6, h⟩ := xbd_some h
          refine ev_callV (ci := 2) (rest := []) 2 (kX2_tell (E := E) (d := 0) (QQ := (fun v τ n' => v = none ∧ τ = xσ q6 R ∧ n = n')) (Nat.le_refl _) hF ha2 hq6 (⟨rfl, rfl, rfl⟩)) my_X2_tell ⟨m_503, m_504, m_505⟩ cl_2 (xIs2_kd ha2) (xIs2_lt ha2) rfl rfl (Nat.le_of_ble_eq_true rfl) (Nat.le_trans (by decide) hd) (xlo (by decide) (Nat.le_trans (by decide) hd)) (Nat.zero_le _) (Nat.zero_le _) dX11_came_51 (fun v τ n' hv => ?_)
          obtain ⟨rfl, rfl, rfl⟩ := hv
          show Ev E (xcm E d 0 0 QQ) Y_X11_came 54 [(4, .ref (E.2.2.2 + a2)), (0, .ref (E.2.2.2 + iC)), (1, .int p0), (2, .int p1), (3, .int p2)] [] (xσ q6 R) n 0 0
          refine ev_iconst (v := 1) dX11_came_54 (by decide) ?_
          cases h
          exact ev_zret rfl (Or.inr rfl) (hQ) dX11_came_55 (Nat.zero_le _) (Nat.zero_le _)
        · replace h := xif_t c42 h
          refine ev_iconst (v := 0) dX11_came_45 (by decide) ?_
          cases h
          exact ev_zret rfl (Or.inl rfl) (hQ) dX11_came_46 (Nat.zero_le _) (Nat.zero_le _)
      · replace h := xif_t c29 h
        refine ev_iconst (v := 0) dX11_came_32 (by decide) ?_
        cases h
        exact ev_zret rfl (Or.inl rfl) (hQ) dX11_came_33 (Nat.zero_le _) (Nat.zero_le _)
def fX11_commonDivisor_b7 (x1 : Int32) (x2 : Int32) (x3 : Int32) : Option ((Int32 × Int32 × Int32) ⊕ (Int32)) := if 64 ≤ x3 then (some (.inr x1)) else (if x2 = 0 then (some (.inr x1)) else (xbd (fX11_leftOver x1 x2) fun q5 => xlt (x3 + 1) fun x6 => some (.inl (x2, q5, x6))))
def fX11_commonDivisor (p0 : Int32) (p1 : Int32) : Option (Int32) := xbd (xloop xfu (fun v => fX11_commonDivisor_b7 v.1 v.2.1 v.2.2) (p0, p1, 0)) fun q7 => some q7
set_option maxHeartbeats 4000000 in
set_option maxRecDepth 100000 in
theorem kX11_commonDivisor {E : xE} {d : Nat} {QQ : xP} (hd : 1 ≤ d) {p0 : Int32} {p1 : Int32} {μ : xm} {R : xr} {n : Nat}  {res : Int32} (h : fX11_commonDivisor p0 p1 = some res) (hQ : QQ (some (.int res)) (xσ μ R) n) : xCon E d Y_X11_commonDivisor 0 0 [.int p0, .int p1] (xσ μ R) n QQ := by
  refine xCon_of pn_RX11 (Nat.le_of_ble_eq_true rfl) (L0 := [(0, .int p0), (1, .int p1)]) rfl ?_
  unfold fX11_commonDivisor at h
  refine ev_iload_n 0 dX11_commonDivisor_0 rfl rfl ?_
  refine xv_istore_n (L' := [(2, .int p0), (0, .int p0), (1, .int p1)]) rfl dX11_commonDivisor_1 rfl (Nat.le_of_ble_eq_true rfl) rfl ?_
  refine ev_iload_n 2 dX11_commonDivisor_2 rfl rfl ?_
  refine xv_istore_n (L' := [(3, .int p1), (2, .int p0), (0, .int p0), (1, .int p1)]) rfl dX11_commonDivisor_3 rfl (Nat.le_of_ble_eq_true rfl) rfl ?_
  refine ev_iconst (v := 0) dX11_commonDivisor_4 (by decide) ?_
  refine xv_istore (L' := [(4, .int 0), (3, .int p1), (2, .int p0), (0, .int p0), (1, .int p1)]) rfl dX11_commonDivisor_5 (Nat.le_of_ble_eq_true rfl) rfl ?_
  obtain ⟨q7, hq7, h⟩ := xbd_some h
  refine ev_sub (L' := [(2, .int p0), (3, .int p1), (4, .int 0)]) [2, 1, 0] rfl ?_
  refine xloop_run (fun v => Ev E (xcm E d 0 0 QQ) Y_X11_commonDivisor 7 [(2, .int v.1), (3, .int v.2.1), (4, .int v.2.2)] [] (xσ μ R) n 0 0) (fun v => Ev E (xcm E d 0 0 QQ) Y_X11_commonDivisor 36 [(2, .int v)] [] (xσ μ R) n 0 0) ?_ _ _ _ hq7 ?_
  · rintro ⟨x1, x2, x3⟩ y4 h hk
    replace h : fX11_commonDivisor_b7 x1 x2 x3 = some y4 := h
    show Ev E (xcm E d 0 0 QQ) Y_X11_commonDivisor 7 [(2, .int x1), (3, .int x2), (4, .int x3)] [] (xσ μ R) n 0 0
    unfold fX11_commonDivisor_b7 at h
    refine ev_iload 2 dX11_commonDivisor_7 rfl ?_
    refine ev_bipush (v := 64) dX11_commonDivisor_9 (by decide) ?_
    refine ev_icmp_ge (tgt := 36) dX11_commonDivisor_11 (by decide) (fun c11 => ?_) (fun c11 => ?_)
    · replace h := xif_t c11 h
      cases h
      replace hk := xel_r hk
      exact ev_sub [0] rfl (hk)
    · replace h := xif_f c11 h
      refine ev_iload_n 1 dX11_commonDivisor_14 rfl rfl ?_
      refine ev_if_eq (tgt := 36) dX11_commonDivisor_15 (by decide) (fun c15 => ?_) (fun c15 => ?_)
      · replace h := xif_t c15 h
        cases h
        replace hk := xel_r hk
        exact ev_sub [0] rfl (hk)
      · replace h := xif_f c15 h
        refine ev_iload_n 0 dX11_commonDivisor_18 rfl rfl ?_
        refine ev_iload_n 1 dX11_commonDivisor_19 rfl rfl ?_
        obtain ⟨q5, hq5, h⟩ := xbd_some h
        refine ev_callS (As := [.int x1, .int x2]) (rest := []) 2 (kX11_leftOver (E := E) (d := 0) (QQ := (fun v τ n' => v = some (.int q5) ∧ τ = xσ μ R ∧ n = n')) (Nat.le_refl _)  hq5 (⟨rfl, rfl, rfl⟩)) my_X11_leftOver ⟨m_1024, m_1025⟩ rfl rfl (Nat.le_of_ble_eq_true rfl) (Nat.le_trans (by decide) hd) (xlo (by decide) (Nat.le_trans (by decide) hd)) (Nat.zero_le _) (Nat.zero_le _) dX11_commonDivisor_20 (fun v τ n' hv => ?_)
        obtain ⟨rfl, rfl, rfl⟩ := hv
        show Ev E (xcm E d 0 0 QQ) Y_X11_commonDivisor 23 [(2, .int x1), (3, .int x2), (4, .int x3)] [.int q5] (xσ μ R) n 0 0
        refine xv_istore (L' := [(5, .int q5), (2, .int x1), (3, .int x2), (4, .int x3)]) rfl dX11_commonDivisor_23 (Nat.le_of_ble_eq_true rfl) rfl ?_
        refine ev_iload_n 2 dX11_commonDivisor_25 rfl rfl ?_
        refine xv_istore_n (L' := [(2, .int x2), (5, .int q5), (3, .int x2), (4, .int x3)]) rfl dX11_commonDivisor_26 rfl (Nat.le_of_ble_eq_true rfl) rfl ?_
        refine ev_iload 1 dX11_commonDivisor_27 rfl ?_
        refine xv_istore_n (L' := [(3, .int q5), (2, .int x2), (5, .int q5), (4, .int x3)]) rfl dX11_commonDivisor_29 rfl (Nat.le_of_ble_eq_true rfl) rfl ?_
        obtain ⟨x6, hx6, h⟩ := xlt_some h
        refine ev_iinc (L' := [(4, .int x6), (3, .int q5), (2, .int x2), (5, .int q5)]) 3 dX11_commonDivisor_30 rfl ((by rfl : x3 + Int32.ofInt 1 = x3 + 1).trans hx6) (Nat.le_of_ble_eq_true rfl) rfl ?_
        refine ev_goto (tgt := 7) dX11_commonDivisor_33 (by decide) ?_
        cases h
        replace hk := xel_l hk
        exact ev_sub [2, 1, 0] rfl (hk)
  · show Ev E (xcm E d 0 0 QQ) Y_X11_commonDivisor 36 [(2, .int q7)] [] (xσ μ R) n 0 0
    refine ev_iload_n 0 dX11_commonDivisor_36 rfl rfl ?_
    cases h
    exact ev_iret rfl (hQ) dX11_commonDivisor_37 (Nat.zero_le _) (Nat.zero_le _)
def fX11_feed (p0 : Int32) (p1 : Int32) (p2 : Int32) (p3 : Int32) (p4 : Int32) (μ : xm) : Option (Int32 × xm) := xbd (fX9_length μ) fun q1 => if (q1 + 20) ≤ 400 then (xbd (fX9_put p0 μ) fun q2 => xbd (fX9_put p1 q2) fun q3 => xbd (fX9_put p2 q3) fun q4 => xbd (fX9_put p3 q4) fun q5 => xbd (fX9_put p4 q5) fun q6 => xbd (fX9_length q6) fun q7 => some (q7, q6)) else (some ((-1), μ))
set_option maxHeartbeats 4000000 in
set_option maxRecDepth 100000 in
theorem kX11_feed {E : xE} {d : Nat} {QQ : xP} (hd : 1 ≤ d) {p0 : Int32} {p1 : Int32} {p2 : Int32} {p3 : Int32} {p4 : Int32} {μ : xm} {R : xr} {n : Nat} (hF : xFin R n)  {res : Int32 × xm} (h : fX11_feed p0 p1 p2 p3 p4 μ = some res) (hQ : QQ (some (.int res.1)) (xσ res.2 R) n) : xCon E d Y_X11_feed 0 0 [.ref (E.2.2.2 + iC), .int p0, .int p1, .int p2, .int p3, .int p4] (xσ μ R) n QQ := by
  refine xCon_of pn_RX11 (Nat.le_of_ble_eq_true rfl) (L0 := [(0, .ref (E.2.2.2 + iC)), (1, .int p0), (2, .int p1), (3, .int p2), (4, .int p3), (5, .int p4)]) rfl ?_
  unfold fX11_feed at h
  refine ev_aload_n 0 dX11_feed_0 rfl rfl ?_
  refine xv_getF (a := iC_tape) cl_11 lk_RX11_10 kd_0 (xl hF rfl) (fun _ => rfl) (fr_0_0 hF) dX11_feed_1 ?_
  obtain ⟨q1, hq1, h⟩ := xbd_some h
  refine ev_callV (ci := 9) (rest := []) 0 (kX9_length (E := E) (d := 0) (QQ := (fun v τ n' => v = some (.int q1) ∧ τ = xσ μ R ∧ n = n')) (Nat.le_refl _) hF hq1 (⟨rfl, rfl, rfl⟩)) my_X9_length ⟨m_511, m_512, m_513⟩ cl_9 kd_1 (xl hF rfl) rfl rfl (Nat.le_of_ble_eq_true rfl) (Nat.le_trans (by decide) hd) (xlo (by decide) (Nat.le_trans (by decide) hd)) (Nat.zero_le _) (Nat.zero_le _) dX11_feed_4 (fun v τ n' hv => ?_)
  obtain ⟨rfl, rfl, rfl⟩ := hv
  show Ev E (xcm E d 0 0 QQ) Y_X11_feed 7 [(0, .ref (E.2.2.2 + iC)), (1, .int p0), (2, .int p1), (3, .int p2), (4, .int p3), (5, .int p4)] [.int q1] (xσ μ R) n 0 0
  refine ev_bipush (v := 20) dX11_feed_7 (by decide) ?_
  refine ev_iadd dX11_feed_9 ?_
  refine ev_sipush (v := 400) dX11_feed_10 (by decide) ?_
  refine ev_icmp_le (tgt := 18) dX11_feed_13 (by decide) (fun c13 => ?_) (fun c13 => ?_)
  · replace h := xif_t c13 h
    refine ev_aload_n 0 dX11_feed_18 rfl rfl ?_
    refine xv_getF (a := iC_tape) cl_11 lk_RX11_10 kd_0 (xl hF rfl) (fun _ => rfl) (fr_0_0 hF) dX11_feed_19 ?_
    refine ev_iload_n 1 dX11_feed_22 rfl rfl ?_
    obtain ⟨q2, hq2, h⟩ := xbd_some h
    refine ev_callV (ci := 9) (rest := []) 1 (kX9_put (E := E) (d := 0) (QQ := (fun v τ n' => v = none ∧ τ = xσ q2 R ∧ n = n')) (Nat.le_refl _) hF hq2 (⟨rfl, rfl, rfl⟩)) my_X9_put ⟨m_515, m_516, m_517⟩ cl_9 kd_1 (xl hF rfl) rfl rfl (Nat.le_of_ble_eq_true rfl) (Nat.le_trans (by decide) hd) (xlo (by decide) (Nat.le_trans (by decide) hd)) (Nat.zero_le _) (Nat.zero_le _) dX11_feed_23 (fun v τ n' hv => ?_)
    obtain ⟨rfl, rfl, rfl⟩ := hv
    show Ev E (xcm E d 0 0 QQ) Y_X11_feed 26 [(0, .ref (E.2.2.2 + iC)), (1, .int p0), (2, .int p1), (3, .int p2), (4, .int p3), (5, .int p4)] [] (xσ q2 R) n 0 0
    refine ev_aload_n 0 dX11_feed_26 rfl rfl ?_
    refine xv_getF (a := iC_tape) cl_11 lk_RX11_10 kd_0 (xl hF rfl) (fun _ => rfl) (fr_0_0 hF) dX11_feed_27 ?_
    refine ev_iload_n 2 dX11_feed_30 rfl rfl ?_
    obtain ⟨q3, hq3, h⟩ := xbd_some h
    refine ev_callV (ci := 9) (rest := []) 1 (kX9_put (E := E) (d := 0) (QQ := (fun v τ n' => v = none ∧ τ = xσ q3 R ∧ n = n')) (Nat.le_refl _) hF hq3 (⟨rfl, rfl, rfl⟩)) my_X9_put ⟨m_515, m_516, m_517⟩ cl_9 kd_1 (xl hF rfl) rfl rfl (Nat.le_of_ble_eq_true rfl) (Nat.le_trans (by decide) hd) (xlo (by decide) (Nat.le_trans (by decide) hd)) (Nat.zero_le _) (Nat.zero_le _) dX11_feed_31 (fun v τ n' hv => ?_)
    obtain ⟨rfl, rfl, rfl⟩ := hv
    show Ev E (xcm E d 0 0 QQ) Y_X11_feed 34 [(0, .ref (E.2.2.2 + iC)), (1, .int p0), (2, .int p1), (3, .int p2), (4, .int p3), (5, .int p4)] [] (xσ q3 R) n 0 0
    refine ev_aload_n 0 dX11_feed_34 rfl rfl ?_
    refine xv_getF (a := iC_tape) cl_11 lk_RX11_10 kd_0 (xl hF rfl) (fun _ => rfl) (fr_0_0 hF) dX11_feed_35 ?_
    refine ev_iload_n 3 dX11_feed_38 rfl rfl ?_
    obtain ⟨q4, hq4, h⟩ := xbd_some h
    refine ev_callV (ci := 9) (rest := []) 1 (kX9_put (E := E) (d := 0) (QQ := (fun v τ n' => v = none ∧ τ = xσ q4 R ∧ n = n')) (Nat.le_refl _) hF hq4 (⟨rfl, rfl, rfl⟩)) my_X9_put ⟨m_515, m_516, m_517⟩ cl_9 kd_1 (xl hF rfl) rfl rfl (Nat.le_of_ble_eq_true rfl) (Nat.le_trans (by decide) hd) (xlo (by decide) (Nat.le_trans (by decide) hd)) (Nat.zero_le _) (Nat.zero_le _) dX11_feed_39 (fun v τ n' hv => ?_)
    obtain ⟨rfl, rfl, rfl⟩ := hv
    show Ev E (xcm E d 0 0 QQ) Y_X11_feed 42 [(0, .ref (E.2.2.2 + iC)), (1, .int p0), (2, .int p1), (3, .int p2), (4, .int p3), (5, .int p4)] [] (xσ q4 R) n 0 0
    refine ev_aload_n 0 dX11_feed_42 rfl rfl ?_
    refine xv_getF (a := iC_tape) cl_11 lk_RX11_10 kd_0 (xl hF rfl) (fun _ => rfl) (fr_0_0 hF) dX11_feed_43 ?_
    refine ev_iload 4 dX11_feed_46 rfl ?_
    obtain ⟨q5, hq5, h⟩ := xbd_some h
    refine ev_callV (ci := 9) (rest := []) 1 (kX9_put (E := E) (d := 0) (QQ := (fun v τ n' => v = none ∧ τ = xσ q5 R ∧ n = n')) (Nat.le_refl _) hF hq5 (⟨rfl, rfl, rfl⟩)) my_X9_put ⟨m_515, m_516, m_517⟩ cl_9 kd_1 (xl hF rfl) rfl rfl (Nat.le_of_ble_eq_true rfl) (Nat.le_trans (by decide) hd) (xlo (by decide) (Nat.le_trans (by decide) hd)) (Nat.zero_le _) (Nat.zero_le _) dX11_feed_48 (fun v τ n' hv => ?_)
    obtain ⟨rfl, rfl, rfl⟩ := hv
    show Ev E (xcm E d 0 0 QQ) Y_X11_feed 51 [(0, .ref (E.2.2.2 + iC)), (1, .int p0), (2, .int p1), (3, .int p2), (4, .int p3), (5, .int p4)] [] (xσ q5 R) n 0 0
    refine ev_aload_n 0 dX11_feed_51 rfl rfl ?_
    refine xv_getF (a := iC_tape) cl_11 lk_RX11_10 kd_0 (xl hF rfl) (fun _ => rfl) (fr_0_0 hF) dX11_feed_52 ?_
    refine ev_iload 5 dX11_feed_55 rfl ?_
    obtain ⟨q6, hq6, h⟩ := xbd_some h
    refine ev_callV (ci := 9) (rest := []) 1 (kX9_put (E := E) (d := 0) (QQ := (fun v τ n' => v = none ∧ τ = xσ q6 R ∧ n = n')) (Nat.le_refl _) hF hq6 (⟨rfl, rfl, rfl⟩)) my_X9_put ⟨m_515, m_516, m_517⟩ cl_9 kd_1 (xl hF rfl) rfl rfl (Nat.le_of_ble_eq_true rfl) (Nat.le_trans (by decide) hd) (xlo (by decide) (Nat.le_trans (by decide) hd)) (Nat.zero_le _) (Nat.zero_le _) dX11_feed_57 (fun v τ n' hv => ?_)
    obtain ⟨rfl, rfl, rfl⟩ := hv
    show Ev E (xcm E d 0 0 QQ) Y_X11_feed 60 [(0, .ref (E.2.2.2 + iC)), (1, .int p0), (2, .int p1), (3, .int p2), (4, .int p3), (5, .int p4)] [] (xσ q6 R) n 0 0
    refine ev_aload_n 0 dX11_feed_60 rfl rfl ?_
    refine xv_getF (a := iC_tape) cl_11 lk_RX11_10 kd_0 (xl hF rfl) (fun _ => rfl) (fr_0_0 hF) dX11_feed_61 ?_
    obtain ⟨q7, hq7, h⟩ := xbd_some h
    refine ev_callV (ci := 9) (rest := []) 0 (kX9_length (E := E) (d := 0) (QQ := (fun v τ n' => v = some (.int q7) ∧ τ = xσ q6 R ∧ n = n')) (Nat.le_refl _) hF hq7 (⟨rfl, rfl, rfl⟩)) my_X9_length ⟨m_511, m_512, m_513⟩ cl_9 kd_1 (xl hF rfl) rfl rfl (Nat.le_of_ble_eq_true rfl) (Nat.le_trans (by decide) hd) (xlo (by decide) (Nat.le_trans (by decide) hd)) (Nat.zero_le _) (Nat.zero_le _) dX11_feed_64 (fun v τ n' hv => ?_)
    obtain ⟨rfl, rfl, rfl⟩ := hv
    show Ev E (xcm E d 0 0 QQ) Y_X11_feed 67 [(0, .ref (E.2.2.2 + iC)), (1, .int p0), (2, .int p1), (3, .int p2), (4, .int p3), (5, .int p4)] [.int q7] (xσ q6 R) n 0 0
    cases h
    exact ev_iret rfl (hQ) dX11_feed_67 (Nat.zero_le _) (Nat.zero_le _)
  · replace h := xif_f c13 h
    refine ev_iconst (v := (-1)) dX11_feed_16 (by decide) ?_
    cases h
    exact ev_iret rfl (hQ) dX11_feed_17 (Nat.zero_le _) (Nat.zero_le _)
def fX11_held (p0 : Int32) (p1 : Int32) (p2 : Int32) : Option (Int32) := some (xmax p1 (xmin p2 p0))
set_option maxHeartbeats 4000000 in
set_option maxRecDepth 100000 in
theorem kX11_held {E : xE} {d : Nat} {QQ : xP} (hd : 1 ≤ d) {p0 : Int32} {p1 : Int32} {p2 : Int32} {μ : xm} {R : xr} {n : Nat}  {res : Int32} (h : fX11_held p0 p1 p2 = some res) (hQ : QQ (some (.int res)) (xσ μ R) n) : xCon E d Y_X11_held 0 0 [.int p0, .int p1, .int p2] (xσ μ R) n QQ := by
  refine xCon_of pn_RX11 (Nat.le_of_ble_eq_true rfl) (L0 := [(0, .int p0), (1, .int p1), (2, .int p2)]) rfl ?_
  unfold fX11_held at h
  refine ev_iload_n 1 dX11_held_0 rfl rfl ?_
  refine ev_iload_n 2 dX11_held_1 rfl rfl ?_
  refine ev_iload_n 0 dX11_held_2 rfl rfl ?_
  refine ev_mmin ⟨m_530, m_531, m_124, m_532⟩ (Nat.le_trans (by decide) hd) (xlo2 (Nat.le_trans (by decide) hd)) (Nat.le_of_ble_eq_true rfl) (Nat.zero_le _) (Nat.zero_le _) dX11_held_3 ?_
  refine ev_mmax ⟨m_533, m_534, m_124, m_535⟩ (Nat.le_trans (by decide) hd) (xlo2 (Nat.le_trans (by decide) hd)) (Nat.le_of_ble_eq_true rfl) (Nat.zero_le _) (Nat.zero_le _) dX11_held_6 ?_
  cases h
  exact ev_iret rfl (hQ) dX11_held_9 (Nat.zero_le _) (Nat.zero_le _)
def fX11_inRow (p0 : Nat) (p1 : Nat) (p2 : Int32) (μ : xm) : Option (Int32) := xbd (fX2_includes p0 p2 μ) fun q1 => if q1 = 0 then (some 0) else (xbd (fX2_includes p1 p2 μ) fun q2 => if q2 = 0 then (some 0) else (if (μ.1 p0 0) = (μ.1 p1 0) then (if (μ.1 p1 1) ≤ (μ.1 p0 1) then (some 0) else (some 1)) else (some 0)))
set_option maxHeartbeats 4000000 in
set_option maxRecDepth 100000 in
theorem kX11_inRow {E : xE} {d : Nat} {QQ : xP} (hd : 1 ≤ d) {p0 : Nat} {p1 : Nat} {p2 : Int32} {μ : xm} {R : xr} {n : Nat} (hF : xFin R n) (hp0 : xIs 2 p0 n) (hp1 : xIs 2 p1 n) {res : Int32} (h : fX11_inRow p0 p1 p2 μ = some res) (hQ : QQ (some (.int res)) (xσ μ R) n) : xCon E d Y_X11_inRow 0 0 [.ref (E.2.2.2 + p0), .ref (E.2.2.2 + p1), .int p2] (xσ μ R) n QQ := by
  refine xCon_of pn_RX11 (Nat.le_of_ble_eq_true rfl) (L0 := [(0, .ref (E.2.2.2 + p0)), (1, .ref (E.2.2.2 + p1)), (2, .int p2)]) rfl ?_
  unfold fX11_inRow at h
  refine ev_aload_n 0 dX11_inRow_0 rfl rfl ?_
  refine ev_iload_n 2 dX11_inRow_1 rfl rfl ?_
  obtain ⟨q1, hq1, h⟩ := xbd_some h
  refine ev_callV (ci := 2) (rest := []) 1 (kX2_includes (E := E) (d := 0) (QQ := (fun v τ n' => v = some (.int q1) ∧ τ = xσ μ R ∧ n = n')) (Nat.le_refl _) hF hp0 hq1 (⟨rfl, rfl, rfl⟩)) my_X2_includes ⟨m_499, m_500, m_501⟩ cl_2 (xIs2_kd hp0) (xIs2_lt hp0) rfl rfl (Nat.le_of_ble_eq_true rfl) (Nat.le_trans (by decide) hd) (xlo (by decide) (Nat.le_trans (by decide) hd)) (Nat.zero_le _) (Nat.zero_le _) dX11_inRow_2 (fun v τ n' hv => ?_)
  obtain ⟨rfl, rfl, rfl⟩ := hv
  show Ev E (xcm E d 0 0 QQ) Y_X11_inRow 5 [(0, .ref (E.2.2.2 + p0)), (1, .ref (E.2.2.2 + p1)), (2, .int p2)] [.int q1] (xσ μ R) n 0 0
  refine ev_if_eq (tgt := 16) dX11_inRow_5 (by decide) (fun c5 => ?_) (fun c5 => ?_)
  · replace h := xif_t c5 h
    refine ev_iconst (v := 0) dX11_inRow_16 (by decide) ?_
    cases h
    exact ev_zret rfl (Or.inl rfl) (hQ) dX11_inRow_17 (Nat.zero_le _) (Nat.zero_le _)
  · replace h := xif_f c5 h
    refine ev_aload_n 1 dX11_inRow_8 rfl rfl ?_
    refine ev_iload_n 2 dX11_inRow_9 rfl rfl ?_
    obtain ⟨q2, hq2, h⟩ := xbd_some h
    refine ev_callV (ci := 2) (rest := []) 1 (kX2_includes (E := E) (d := 0) (QQ := (fun v τ n' => v = some (.int q2) ∧ τ = xσ μ R ∧ n = n')) (Nat.le_refl _) hF hp1 hq2 (⟨rfl, rfl, rfl⟩)) my_X2_includes ⟨m_499, m_500, m_501⟩ cl_2 (xIs2_kd hp1) (xIs2_lt hp1) rfl rfl (Nat.le_of_ble_eq_true rfl) (Nat.le_trans (by decide) hd) (xlo (by decide) (Nat.le_trans (by decide) hd)) (Nat.zero_le _) (Nat.zero_le _) dX11_inRow_10 (fun v τ n' hv => ?_)
    obtain ⟨rfl, rfl, rfl⟩ := hv
    show Ev E (xcm E d 0 0 QQ) Y_X11_inRow 13 [(0, .ref (E.2.2.2 + p0)), (1, .ref (E.2.2.2 + p1)), (2, .int p2)] [.int q2] (xσ μ R) n 0 0
    refine ev_if_ne (tgt := 18) dX11_inRow_13 (by decide) (fun c13 => ?_) (fun c13 => ?_)
    · replace h := xif_f c13 h
      refine ev_aload_n 0 dX11_inRow_18 rfl rfl ?_
      refine xv_getIN cl_2 ln_RX11_175 (xIs2_kd hp0) (xIs2_lt hp0) (fun _ => rfl) dX11_inRow_19 ?_
      refine ev_aload_n 1 dX11_inRow_22 rfl rfl ?_
      refine xv_getIN cl_2 ln_RX11_175 (xIs2_kd hp1) (xIs2_lt hp1) (fun _ => rfl) dX11_inRow_23 ?_
      refine ev_icmp_ne (tgt := 44) dX11_inRow_26 (by decide) (fun c26 => ?_) (fun c26 => ?_)
      · replace h := xif_f c26 h
        refine ev_iconst (v := 0) dX11_inRow_44 (by decide) ?_
        cases h
        exact ev_zret rfl (Or.inl rfl) (hQ) dX11_inRow_45 (Nat.zero_le _) (Nat.zero_le _)
      · replace h := xif_t c26 h
        refine ev_aload_n 0 dX11_inRow_29 rfl rfl ?_
        refine xv_getIN cl_2 ln_RX11_329 (xIs2_kd hp0) (xIs2_lt hp0) (fun _ => rfl) dX11_inRow_30 ?_
        refine ev_aload_n 1 dX11_inRow_33 rfl rfl ?_
        refine xv_getIN cl_2 ln_RX11_329 (xIs2_kd hp1) (xIs2_lt hp1) (fun _ => rfl) dX11_inRow_34 ?_
        refine ev_icmp_ge (tgt := 44) dX11_inRow_37 (by decide) (fun c37 => ?_) (fun c37 => ?_)
        · replace h := xif_t c37 h
          refine ev_iconst (v := 0) dX11_inRow_44 (by decide) ?_
          cases h
          exact ev_zret rfl (Or.inl rfl) (hQ) dX11_inRow_45 (Nat.zero_le _) (Nat.zero_le _)
        · replace h := xif_f c37 h
          refine ev_iconst (v := 1) dX11_inRow_40 (by decide) ?_
          refine ev_goto (tgt := 45) dX11_inRow_41 (by decide) ?_
          cases h
          exact ev_zret rfl (Or.inr rfl) (hQ) dX11_inRow_45 (Nat.zero_le _) (Nat.zero_le _)
    · replace h := xif_t c13 h
      refine ev_iconst (v := 0) dX11_inRow_16 (by decide) ?_
      cases h
      exact ev_zret rfl (Or.inl rfl) (hQ) dX11_inRow_17 (Nat.zero_le _) (Nat.zero_le _)
def fX11_seed (p0 : Int32) (μ : xm) : Option (Int32 × xm) := xbd (fX11_within p0 0 65535) fun q1 => if q1 = 0 then (some (0, μ)) else (xbd (fX10_setDrawn p0 μ) fun q2 => some (1, q2))
set_option maxHeartbeats 4000000 in
set_option maxRecDepth 100000 in
theorem kX11_seed {E : xE} {d : Nat} {QQ : xP} (hd : 1 ≤ d) {p0 : Int32} {μ : xm} {R : xr} {n : Nat} (hF : xFin R n)  {res : Int32 × xm} (h : fX11_seed p0 μ = some res) (hQ : QQ (some (.int res.1)) (xσ res.2 R) n) : xCon E d Y_X11_seed 0 0 [.ref (E.2.2.2 + iC), .int p0] (xσ μ R) n QQ := by
  refine xCon_of pn_RX11 (Nat.le_of_ble_eq_true rfl) (L0 := [(0, .ref (E.2.2.2 + iC)), (1, .int p0)]) rfl ?_
  unfold fX11_seed at h
  refine ev_iload_n 1 dX11_seed_0 rfl rfl ?_
  refine ev_iconst (v := 0) dX11_seed_1 (by decide) ?_
  refine ev_ldcw (v := 65535) m_1178 dX11_seed_2 ?_
  obtain ⟨q1, hq1, h⟩ := xbd_some h
  refine ev_callS (As := [.int p0, .int 0, .int 65535]) (rest := []) 3 (kX11_within (E := E) (d := 0) (QQ := (fun v τ n' => v = some (.int q1) ∧ τ = xσ μ R ∧ n = n')) (Nat.le_refl _)  hq1 (⟨rfl, rfl, rfl⟩)) my_X11_within ⟨m_424, m_425⟩ rfl rfl (Nat.le_of_ble_eq_true rfl) (Nat.le_trans (by decide) hd) (xlo (by decide) (Nat.le_trans (by decide) hd)) (Nat.zero_le _) (Nat.zero_le _) dX11_seed_5 (fun v τ n' hv => ?_)
  obtain ⟨rfl, rfl, rfl⟩ := hv
  show Ev E (xcm E d 0 0 QQ) Y_X11_seed 8 [(0, .ref (E.2.2.2 + iC)), (1, .int p0)] [.int q1] (xσ μ R) n 0 0
  refine ev_if_ne (tgt := 13) dX11_seed_8 (by decide) (fun c8 => ?_) (fun c8 => ?_)
  · replace h := xif_f c8 h
    refine ev_aload_n 0 dX11_seed_13 rfl rfl ?_
    refine xv_getF (a := iC_ways) cl_11 lk_RX11_56 kd_0 (xl hF rfl) (fun _ => rfl) (fr_0_6 hF) dX11_seed_14 ?_
    refine ev_iload_n 1 dX11_seed_17 rfl rfl ?_
    obtain ⟨q2, hq2, h⟩ := xbd_some h
    refine ev_callV (ci := 10) (rest := []) 1 (kX10_setDrawn (E := E) (d := 0) (QQ := (fun v τ n' => v = none ∧ τ = xσ q2 R ∧ n = n')) (Nat.le_refl _) hF hq2 (⟨rfl, rfl, rfl⟩)) my_X10_setDrawn ⟨m_1179, m_1180, m_1181⟩ cl_10 kd_42 (xl hF rfl) rfl rfl (Nat.le_of_ble_eq_true rfl) (Nat.le_trans (by decide) hd) (xlo (by decide) (Nat.le_trans (by decide) hd)) (Nat.zero_le _) (Nat.zero_le _) dX11_seed_18 (fun v τ n' hv => ?_)
    obtain ⟨rfl, rfl, rfl⟩ := hv
    show Ev E (xcm E d 0 0 QQ) Y_X11_seed 21 [(0, .ref (E.2.2.2 + iC)), (1, .int p0)] [] (xσ q2 R) n 0 0
    refine ev_iconst (v := 1) dX11_seed_21 (by decide) ?_
    cases h
    exact ev_zret rfl (Or.inr rfl) (hQ) dX11_seed_22 (Nat.zero_le _) (Nat.zero_le _)
  · replace h := xif_t c8 h
    refine ev_iconst (v := 0) dX11_seed_11 (by decide) ?_
    cases h
    exact ev_zret rfl (Or.inl rfl) (hQ) dX11_seed_12 (Nat.zero_le _) (Nat.zero_le _)
def fX1_clauses (μ : xm) (R : xr) : Option (Int32) := xbd (R iC_reader 1) fun a1 => xbd (fX0_length a1 μ) fun q2 => some q2
set_option maxHeartbeats 4000000 in
set_option maxRecDepth 100000 in
theorem kX1_clauses {E : xE} {d : Nat} {QQ : xP} (hd : 1 ≤ d)  {μ : xm} {R : xr} {n : Nat} (hF : xFin R n)  {res : Int32} (h : fX1_clauses μ R = some res) (hQ : QQ (some (.int res)) (xσ μ R) n) : xCon E d Y_X1_clauses 0 0 [.ref (E.2.2.2 + iC_reader)] (xσ μ R) n QQ := by
  refine xCon_of pn_RX1 (Nat.le_of_ble_eq_true rfl) (L0 := [(0, .ref (E.2.2.2 + iC_reader))]) rfl ?_
  unfold fX1_clauses at h
  refine ev_aload_n 0 dX1_clauses_0 rfl rfl ?_
  refine xv_getR cl_1 lk_RX1_18 kd_3 (xl hF rfl) (fun _ => rfl) dX1_clauses_1 ?_
  obtain ⟨a1, ha1, h⟩ := xbd_some h
  refine xv_nn ha1 ?_
  replace ha1 := dy_3_1 hF _ ha1
  obtain ⟨q2, hq2, h⟩ := xbd_some h
  refine ev_callV (ci := 0) (rest := []) 0 (kX0_length (E := E) (d := 0) (QQ := (fun v τ n' => v = some (.int q2) ∧ τ = xσ μ R ∧ n = n')) (Nat.le_refl _) hF ha1 hq2 (⟨rfl, rfl, rfl⟩)) my_X0_length ⟨m_556, m_557, m_558⟩ cl_0 (xIs0_kd ha1) (xIs0_lt ha1) rfl rfl (Nat.le_of_ble_eq_true rfl) (Nat.le_trans (by decide) hd) (xlo (by decide) (Nat.le_trans (by decide) hd)) (Nat.zero_le _) (Nat.zero_le _) dX1_clauses_4 (fun v τ n' hv => ?_)
  obtain ⟨rfl, rfl, rfl⟩ := hv
  show Ev E (xcm E d 0 0 QQ) Y_X1_clauses 7 [(0, .ref (E.2.2.2 + iC_reader))] [.int q2] (xσ μ R) n 0 0
  cases h
  exact ev_iret rfl (hQ) dX1_clauses_7 (Nat.zero_le _) (Nat.zero_le _)
def fX1_opens (p0 : Int32) (μ : xm) : Option (Int32 × xm) := if p0 < 6 then (xlt (xpI μ iC_reader 4 ((μ.1 iC_reader 4) + 1)) fun μ1 => some (1, μ1)) else (xbd (fX1_stop 5 μ) fun q2 => some (0, q2))
set_option maxHeartbeats 4000000 in
set_option maxRecDepth 100000 in
theorem kX1_opens {E : xE} {d : Nat} {QQ : xP} (hd : 1 ≤ d) {p0 : Int32} {μ : xm} {R : xr} {n : Nat} (hF : xFin R n)  {res : Int32 × xm} (h : fX1_opens p0 μ = some res) (hQ : QQ (some (.int res.1)) (xσ res.2 R) n) : xCon E d Y_X1_opens 0 0 [.ref (E.2.2.2 + iC_reader), .int p0] (xσ μ R) n QQ := by
  refine xCon_of pn_RX1 (Nat.le_of_ble_eq_true rfl) (L0 := [(0, .ref (E.2.2.2 + iC_reader)), (1, .int p0)]) rfl ?_
  unfold fX1_opens at h
  refine ev_iload_n 1 dX1_opens_0 rfl rfl ?_
  refine ev_bipush (v := 6) dX1_opens_1 (by decide) ?_
  refine ev_icmp_lt (tgt := 13) dX1_opens_3 (by decide) (fun c3 => ?_) (fun c3 => ?_)
  · replace h := xif_t c3 h
    refine ev_aload_n 0 dX1_opens_13 rfl rfl ?_
    refine ev_dup dX1_opens_14 rfl ?_
    refine xv_getI cl_1 lk_RX1_42 kd_3 (xl hF rfl) (fun _ => rfl) dX1_opens_15 ?_
    refine ev_iconst (v := 1) dX1_opens_18 (by decide) ?_
    refine ev_iadd dX1_opens_19 ?_
    obtain ⟨μ1, hμ1, h⟩ := xlt_some h
    refine xv_putI cl_1 lk_RX1_42 rfl kd_3 (xl hF rfl) rfl rfl (fun _ => rfl) hμ1 dX1_opens_20 ?_
    refine ev_iconst (v := 1) dX1_opens_23 (by decide) ?_
    cases h
    exact ev_zret rfl (Or.inr rfl) (hQ) dX1_opens_24 (Nat.zero_le _) (Nat.zero_le _)
  · replace h := xif_f c3 h
    refine ev_aload_n 0 dX1_opens_6 rfl rfl ?_
    refine ev_iconst (v := 5) dX1_opens_7 (by decide) ?_
    obtain ⟨q2, hq2, h⟩ := xbd_some h
    refine ev_callV (ci := 1) (rest := []) 1 (kX1_stop (E := E) (d := 0) (QQ := (fun v τ n' => v = none ∧ τ = xσ q2 R ∧ n = n')) (Nat.le_refl _) hF hq2 (⟨rfl, rfl, rfl⟩)) my_X1_stop ⟨m_552, m_554, m_2⟩ cl_1 kd_3 (xl hF rfl) rfl rfl (Nat.le_of_ble_eq_true rfl) (Nat.le_trans (by decide) hd) (xlo (by decide) (Nat.le_trans (by decide) hd)) (Nat.zero_le _) (Nat.zero_le _) dX1_opens_8 (fun v τ n' hv => ?_)
    obtain ⟨rfl, rfl, rfl⟩ := hv
    show Ev E (xcm E d 0 0 QQ) Y_X1_opens 11 [(0, .ref (E.2.2.2 + iC_reader)), (1, .int p0)] [] (xσ q2 R) n 0 0
    refine ev_iconst (v := 0) dX1_opens_11 (by decide) ?_
    cases h
    exact ev_zret rfl (Or.inl rfl) (hQ) dX1_opens_12 (Nat.zero_le _) (Nat.zero_le _)
def fX1_pass (p0 : Int32) (μ : xm) : Option (xm) := xbd (fX1_sign μ) fun q1 => if q1 = p0 then (xlt (xpI μ iC_reader 4 ((μ.1 iC_reader 4) + 1)) fun μ3 => some μ3) else (xbd (fX1_stop 1 μ) fun q2 => some q2)
set_option maxHeartbeats 4000000 in
set_option maxRecDepth 100000 in
theorem kX1_pass {E : xE} {d : Nat} {QQ : xP} (hd : 1 ≤ d) {p0 : Int32} {μ : xm} {R : xr} {n : Nat} (hF : xFin R n)  {res : xm} (h : fX1_pass p0 μ = some res) (hQ : QQ none (xσ res R) n) : xCon E d Y_X1_pass 0 0 [.ref (E.2.2.2 + iC_reader), .int p0] (xσ μ R) n QQ := by
  refine xCon_of pn_RX1 (Nat.le_of_ble_eq_true rfl) (L0 := [(0, .ref (E.2.2.2 + iC_reader)), (1, .int p0)]) rfl ?_
  unfold fX1_pass at h
  refine ev_aload_n 0 dX1_pass_0 rfl rfl ?_
  obtain ⟨q1, hq1, h⟩ := xbd_some h
  refine ev_callV (ci := 1) (rest := []) 0 (kX1_sign (E := E) (d := 0) (QQ := (fun v τ n' => v = some (.int q1) ∧ τ = xσ μ R ∧ n = n')) (Nat.le_refl _) hF hq1 (⟨rfl, rfl, rfl⟩)) my_X1_sign ⟨m_548, m_550, m_1⟩ cl_1 kd_3 (xl hF rfl) rfl rfl (Nat.le_of_ble_eq_true rfl) (Nat.le_trans (by decide) hd) (xlo (by decide) (Nat.le_trans (by decide) hd)) (Nat.zero_le _) (Nat.zero_le _) dX1_pass_1 (fun v τ n' hv => ?_)
  obtain ⟨rfl, rfl, rfl⟩ := hv
  show Ev E (xcm E d 0 0 QQ) Y_X1_pass 4 [(0, .ref (E.2.2.2 + iC_reader)), (1, .int p0)] [.int q1] (xσ μ R) n 0 0
  refine ev_iload_n 1 dX1_pass_4 rfl rfl ?_
  refine ev_icmp_ne (tgt := 21) dX1_pass_5 (by decide) (fun c5 => ?_) (fun c5 => ?_)
  · replace h := xif_f c5 h
    refine ev_aload_n 0 dX1_pass_21 rfl rfl ?_
    refine ev_iconst (v := 1) dX1_pass_22 (by decide) ?_
    obtain ⟨q2, hq2, h⟩ := xbd_some h
    refine ev_callV (ci := 1) (rest := []) 1 (kX1_stop (E := E) (d := 0) (QQ := (fun v τ n' => v = none ∧ τ = xσ q2 R ∧ n = n')) (Nat.le_refl _) hF hq2 (⟨rfl, rfl, rfl⟩)) my_X1_stop ⟨m_552, m_554, m_2⟩ cl_1 kd_3 (xl hF rfl) rfl rfl (Nat.le_of_ble_eq_true rfl) (Nat.le_trans (by decide) hd) (xlo (by decide) (Nat.le_trans (by decide) hd)) (Nat.zero_le _) (Nat.zero_le _) dX1_pass_23 (fun v τ n' hv => ?_)
    obtain ⟨rfl, rfl, rfl⟩ := hv
    show Ev E (xcm E d 0 0 QQ) Y_X1_pass 26 [(0, .ref (E.2.2.2 + iC_reader)), (1, .int p0)] [] (xσ q2 R) n 0 0
    cases h
    exact ev_vret rfl (hQ) dX1_pass_26 (Nat.zero_le _) (Nat.zero_le _)
  · replace h := xif_t c5 h
    refine ev_aload_n 0 dX1_pass_8 rfl rfl ?_
    refine ev_dup dX1_pass_9 rfl ?_
    refine xv_getI cl_1 lk_RX1_42 kd_3 (xl hF rfl) (fun _ => rfl) dX1_pass_10 ?_
    refine ev_iconst (v := 1) dX1_pass_13 (by decide) ?_
    refine ev_iadd dX1_pass_14 ?_
    obtain ⟨μ3, hμ3, h⟩ := xlt_some h
    refine xv_putI cl_1 lk_RX1_42 rfl kd_3 (xl hF rfl) rfl rfl (fun _ => rfl) hμ3 dX1_pass_15 ?_
    refine ev_goto (tgt := 26) dX1_pass_18 (by decide) ?_
    cases h
    exact ev_vret rfl (hQ) dX1_pass_26 (Nat.zero_le _) (Nat.zero_le _)
def fX2_comingOf (o : Nat) (p0 : Int32) (μ : xm) : Option (Int32) := xbd (fX2_includes o p0 μ) fun q1 => if q1 = 0 then (some (-1)) else (if 8 ≤ p0 then (some (-1)) else (xbd (xgI μ (o + 1) 8 p0) fun v2 => some v2))
set_option maxHeartbeats 4000000 in
set_option maxRecDepth 100000 in
theorem kX2_comingOf {E : xE} {d : Nat} {QQ : xP} (hd : 1 ≤ d) {o : Nat} {p0 : Int32} {μ : xm} {R : xr} {n : Nat} (hF : xFin R n) (hI : xIs 2 o n) {res : Int32} (h : fX2_comingOf o p0 μ = some res) (hQ : QQ (some (.int res)) (xσ μ R) n) : xCon E d Y_X2_comingOf 0 0 [.ref (E.2.2.2 + o), .int p0] (xσ μ R) n QQ := by
  refine xCon_of pn_RX2 (Nat.le_of_ble_eq_true rfl) (L0 := [(0, .ref (E.2.2.2 + o)), (1, .int p0)]) rfl ?_
  unfold fX2_comingOf at h
  refine ev_aload_n 0 dX2_comingOf_0 rfl rfl ?_
  refine ev_iload_n 1 dX2_comingOf_1 rfl rfl ?_
  obtain ⟨q1, hq1, h⟩ := xbd_some h
  refine ev_callV (ci := 2) (rest := []) 1 (kX2_includes (E := E) (d := 0) (QQ := (fun v τ n' => v = some (.int q1) ∧ τ = xσ μ R ∧ n = n')) (Nat.le_refl _) hF hI hq1 (⟨rfl, rfl, rfl⟩)) my_X2_includes ⟨m_625, m_500, m_501⟩ cl_2 (xIs2_kd hI) (xIs2_lt hI) rfl rfl (Nat.le_of_ble_eq_true rfl) (Nat.le_trans (by decide) hd) (xlo (by decide) (Nat.le_trans (by decide) hd)) (Nat.zero_le _) (Nat.zero_le _) dX2_comingOf_2 (fun v τ n' hv => ?_)
  obtain ⟨rfl, rfl, rfl⟩ := hv
  show Ev E (xcm E d 0 0 QQ) Y_X2_comingOf 5 [(0, .ref (E.2.2.2 + o)), (1, .int p0)] [.int q1] (xσ μ R) n 0 0
  refine ev_if_eq (tgt := 26) dX2_comingOf_5 (by decide) (fun c5 => ?_) (fun c5 => ?_)
  · replace h := xif_t c5 h
    refine ev_iconst (v := (-1)) dX2_comingOf_26 (by decide) ?_
    cases h
    exact ev_iret rfl (hQ) dX2_comingOf_27 (Nat.zero_le _) (Nat.zero_le _)
  · replace h := xif_f c5 h
    refine ev_iload_n 1 dX2_comingOf_8 rfl rfl ?_
    refine ev_aload_n 0 dX2_comingOf_9 rfl rfl ?_
    refine xv_getF (a := (o + 1)) cl_2 lk_RX2_9 (xIs2_kd hI) (xIs2_lt hI) (fun _ => rfl) (xIs2_fr3 hF hI) dX2_comingOf_10 ?_
    refine ev_alen (v := 8) 0 (by decide) (xIs2_kd3 hI) (xIs2_lt3 hI) rfl dX2_comingOf_13 ?_
    refine ev_icmp_ge (tgt := 26) dX2_comingOf_14 (by decide) (fun c14 => ?_) (fun c14 => ?_)
    · replace h := xif_t c14 h
      refine ev_iconst (v := (-1)) dX2_comingOf_26 (by decide) ?_
      cases h
      exact ev_iret rfl (hQ) dX2_comingOf_27 (Nat.zero_le _) (Nat.zero_le _)
    · replace h := xif_f c14 h
      refine ev_aload_n 0 dX2_comingOf_17 rfl rfl ?_
      refine xv_getF (a := (o + 1)) cl_2 lk_RX2_9 (xIs2_kd hI) (xIs2_lt hI) (fun _ => rfl) (xIs2_fr3 hF hI) dX2_comingOf_18 ?_
      refine ev_iload_n 1 dX2_comingOf_21 rfl rfl ?_
      obtain ⟨v2, hv2, h⟩ := xbd_some h
      refine xv_iald (xIs2_kd3 hI) (xIs2_lt3 hI) hv2 dX2_comingOf_22 ?_
      refine ev_goto (tgt := 27) dX2_comingOf_23 (by decide) ?_
      cases h
      exact ev_iret rfl (hQ) dX2_comingOf_27 (Nat.zero_le _) (Nat.zero_le _)
def fX2_keeper_b6 (x1 : Int32) (x2 : Int32) (x3 : Int32) (o : Nat) (μ : xm) : Option ((Int32 × Int32 × Int32) ⊕ (Int32)) := if 8 ≤ x3 then (some (.inr x1)) else (xbd (fX2_includes o x3 μ) fun q5 => if q5 = 0 then (xlt (x3 + 1) fun x6 => some (.inl (x1, x2, x6))) else (xbd (xgI μ (o + 1) 8 x3) fun v7 => if v7 ≤ x2 then (xlt (x3 + 1) fun x8 => some (.inl (x1, x2, x8))) else (xbd (xgI μ (o + 1) 8 x3) fun v9 => xlt (x3 + 1) fun x10 => some (.inl (x3, v9, x10)))))
def fX2_keeper (o : Nat) (μ : xm) : Option (Int32) := xbd (xloop xfu (fun v => fX2_keeper_b6 v.1 v.2.1 v.2.2 o μ) ((-1), (-1), 0)) fun q11 => some q11
set_option maxHeartbeats 4000000 in
set_option maxRecDepth 100000 in
theorem kX2_keeper {E : xE} {d : Nat} {QQ : xP} (hd : 1 ≤ d) {o : Nat} {μ : xm} {R : xr} {n : Nat} (hF : xFin R n) (hI : xIs 2 o n) {res : Int32} (h : fX2_keeper o μ = some res) (hQ : QQ (some (.int res)) (xσ μ R) n) : xCon E d Y_X2_keeper 0 0 [.ref (E.2.2.2 + o)] (xσ μ R) n QQ := by
  refine xCon_of pn_RX2 (Nat.le_of_ble_eq_true rfl) (L0 := [(0, .ref (E.2.2.2 + o))]) rfl ?_
  unfold fX2_keeper at h
  refine ev_iconst (v := (-1)) dX2_keeper_0 (by decide) ?_
  refine xv_istore_n (L' := [(1, .int (-1)), (0, .ref (E.2.2.2 + o))]) rfl dX2_keeper_1 rfl (Nat.le_of_ble_eq_true rfl) rfl ?_
  refine ev_iconst (v := (-1)) dX2_keeper_2 (by decide) ?_
  refine xv_istore_n (L' := [(2, .int (-1)), (1, .int (-1)), (0, .ref (E.2.2.2 + o))]) rfl dX2_keeper_3 rfl (Nat.le_of_ble_eq_true rfl) rfl ?_
  refine ev_iconst (v := 0) dX2_keeper_4 (by decide) ?_
  refine xv_istore_n (L' := [(3, .int 0), (2, .int (-1)), (1, .int (-1)), (0, .ref (E.2.2.2 + o))]) rfl dX2_keeper_5 rfl (Nat.le_of_ble_eq_true rfl) rfl ?_
  obtain ⟨q11, hq11, h⟩ := xbd_some h
  refine ev_sub (L' := [(0, .ref (E.2.2.2 + o)), (1, .int (-1)), (2, .int (-1)), (3, .int 0)]) [3, 2, 1, 0] rfl ?_
  refine xloop_run (fun v => Ev E (xcm E d 0 0 QQ) Y_X2_keeper 6 [(0, .ref (E.2.2.2 + o)), (1, .int v.1), (2, .int v.2.1), (3, .int v.2.2)] [] (xσ μ R) n 0 0) (fun v => Ev E (xcm E d 0 0 QQ) Y_X2_keeper 48 [(1, .int v)] [] (xσ μ R) n 0 0) ?_ _ _ _ hq11 ?_
  · rintro ⟨x1, x2, x3⟩ y4 h hk
    replace h : fX2_keeper_b6 x1 x2 x3 o μ = some y4 := h
    show Ev E (xcm E d 0 0 QQ) Y_X2_keeper 6 [(0, .ref (E.2.2.2 + o)), (1, .int x1), (2, .int x2), (3, .int x3)] [] (xσ μ R) n 0 0
    unfold fX2_keeper_b6 at h
    refine ev_iload_n 3 dX2_keeper_6 rfl rfl ?_
    refine ev_aload_n 0 dX2_keeper_7 rfl rfl ?_
    refine xv_getF (a := (o + 1)) cl_2 lk_RX2_9 (xIs2_kd hI) (xIs2_lt hI) (fun _ => rfl) (xIs2_fr3 hF hI) dX2_keeper_8 ?_
    refine ev_alen (v := 8) 0 (by decide) (xIs2_kd3 hI) (xIs2_lt3 hI) rfl dX2_keeper_11 ?_
    refine ev_icmp_ge (tgt := 48) dX2_keeper_12 (by decide) (fun c12 => ?_) (fun c12 => ?_)
    · replace h := xif_t c12 h
      cases h
      replace hk := xel_r hk
      exact ev_sub [1] rfl (hk)
    · replace h := xif_f c12 h
      refine ev_aload_n 0 dX2_keeper_15 rfl rfl ?_
      refine ev_iload_n 3 dX2_keeper_16 rfl rfl ?_
      obtain ⟨q5, hq5, h⟩ := xbd_some h
      refine ev_callV (ci := 2) (rest := []) 1 (kX2_includes (E := E) (d := 0) (QQ := (fun v τ n' => v = some (.int q5) ∧ τ = xσ μ R ∧ n = n')) (Nat.le_refl _) hF hI hq5 (⟨rfl, rfl, rfl⟩)) my_X2_includes ⟨m_625, m_500, m_501⟩ cl_2 (xIs2_kd hI) (xIs2_lt hI) rfl rfl (Nat.le_of_ble_eq_true rfl) (Nat.le_trans (by decide) hd) (xlo (by decide) (Nat.le_trans (by decide) hd)) (Nat.zero_le _) (Nat.zero_le _) dX2_keeper_17 (fun v τ n' hv => ?_)
      obtain ⟨rfl, rfl, rfl⟩ := hv
      show Ev E (xcm E d 0 0 QQ) Y_X2_keeper 20 [(0, .ref (E.2.2.2 + o)), (1, .int x1), (2, .int x2), (3, .int x3)] [.int q5] (xσ μ R) n 0 0
      refine ev_if_eq (tgt := 42) dX2_keeper_20 (by decide) (fun c20 => ?_) (fun c20 => ?_)
      · replace h := xif_t c20 h
        obtain ⟨x6, hx6, h⟩ := xlt_some h
        refine ev_iinc (L' := [(3, .int x6), (0, .ref (E.2.2.2 + o)), (1, .int x1), (2, .int x2)]) 3 dX2_keeper_42 rfl ((by rfl : x3 + Int32.ofInt 1 = x3 + 1).trans hx6) (Nat.le_of_ble_eq_true rfl) rfl ?_
        refine ev_goto (tgt := 6) dX2_keeper_45 (by decide) ?_
        cases h
        replace hk := xel_l hk
        exact ev_sub [1, 2, 3, 0] rfl (hk)
      · replace h := xif_f c20 h
        refine ev_aload_n 0 dX2_keeper_23 rfl rfl ?_
        refine xv_getF (a := (o + 1)) cl_2 lk_RX2_9 (xIs2_kd hI) (xIs2_lt hI) (fun _ => rfl) (xIs2_fr3 hF hI) dX2_keeper_24 ?_
        refine ev_iload_n 3 dX2_keeper_27 rfl rfl ?_
        obtain ⟨v7, hv7, h⟩ := xbd_some h
        refine xv_iald (xIs2_kd3 hI) (xIs2_lt3 hI) hv7 dX2_keeper_28 ?_
        refine ev_iload_n 2 dX2_keeper_29 rfl rfl ?_
        refine ev_icmp_le (tgt := 42) dX2_keeper_30 (by decide) (fun c30 => ?_) (fun c30 => ?_)
        · replace h := xif_t c30 h
          obtain ⟨x8, hx8, h⟩ := xlt_some h
          refine ev_iinc (L' := [(3, .int x8), (0, .ref (E.2.2.2 + o)), (1, .int x1), (2, .int x2)]) 3 dX2_keeper_42 rfl ((by rfl : x3 + Int32.ofInt 1 = x3 + 1).trans hx8) (Nat.le_of_ble_eq_true rfl) rfl ?_
          refine ev_goto (tgt := 6) dX2_keeper_45 (by decide) ?_
          cases h
          replace hk := xel_l hk
          exact ev_sub [1, 2, 3, 0] rfl (hk)
        · replace h := xif_f c30 h
          refine ev_iload_n 3 dX2_keeper_33 rfl rfl ?_
          refine xv_istore_n (L' := [(1, .int x3), (0, .ref (E.2.2.2 + o)), (2, .int x2), (3, .int x3)]) rfl dX2_keeper_34 rfl (Nat.le_of_ble_eq_true rfl) rfl ?_
          refine ev_aload_n 1 dX2_keeper_35 rfl rfl ?_
          refine xv_getF (a := (o + 1)) cl_2 lk_RX2_9 (xIs2_kd hI) (xIs2_lt hI) (fun _ => rfl) (xIs2_fr3 hF hI) dX2_keeper_36 ?_
          refine ev_iload_n 3 dX2_keeper_39 rfl rfl ?_
          obtain ⟨v9, hv9, h⟩ := xbd_some h
          refine xv_iald (xIs2_kd3 hI) (xIs2_lt3 hI) hv9 dX2_keeper_40 ?_
          refine xv_istore_n (L' := [(2, .int v9), (1, .int x3), (0, .ref (E.2.2.2 + o)), (3, .int x3)]) rfl dX2_keeper_41 rfl (Nat.le_of_ble_eq_true rfl) rfl ?_
          obtain ⟨x10, hx10, h⟩ := xlt_some h
          refine ev_iinc (L' := [(3, .int x10), (2, .int v9), (1, .int x3), (0, .ref (E.2.2.2 + o))]) 3 dX2_keeper_42 rfl ((by rfl : x3 + Int32.ofInt 1 = x3 + 1).trans hx10) (Nat.le_of_ble_eq_true rfl) rfl ?_
          refine ev_goto (tgt := 6) dX2_keeper_45 (by decide) ?_
          cases h
          replace hk := xel_l hk
          exact ev_sub [3, 2, 1, 0] rfl (hk)
  · show Ev E (xcm E d 0 0 QQ) Y_X2_keeper 48 [(1, .int q11)] [] (xσ μ R) n 0 0
    refine ev_iload_n 0 dX2_keeper_48 rfl rfl ?_
    cases h
    exact ev_iret rfl (hQ) dX2_keeper_49 (Nat.zero_le _) (Nat.zero_le _)
def fX2_many (o : Nat) (μ : xm) : Option (Int32) := xbd (fJ6_bitCount_0f7a4 (μ.1 o 2)) fun q1 => some q1
set_option maxHeartbeats 4000000 in
set_option maxRecDepth 100000 in
theorem kX2_many {E : xE} {d : Nat} {QQ : xP} (hd : 1 ≤ d) {o : Nat} {μ : xm} {R : xr} {n : Nat} (hF : xFin R n) (hI : xIs 2 o n) {res : Int32} (h : fX2_many o μ = some res) (hQ : QQ (some (.int res)) (xσ μ R) n) : xCon E d Y_X2_many 0 0 [.ref (E.2.2.2 + o)] (xσ μ R) n QQ := by
  refine xCon_of pn_RX2 (Nat.le_of_ble_eq_true rfl) (L0 := [(0, .ref (E.2.2.2 + o))]) rfl ?_
  unfold fX2_many at h
  refine ev_aload_n 0 dX2_many_0 rfl rfl ?_
  refine xv_getI cl_2 lk_RX2_22 (xIs2_kd hI) (xIs2_lt hI) (fun _ => rfl) dX2_many_1 ?_
  obtain ⟨q1, hq1, h⟩ := xbd_some h
  refine ev_callS (As := [.int (μ.1 o 2)]) (rest := []) 1 (kJ6_bitCount_0f7a4 (E := E) (d := 0) (QQ := (fun v τ n' => v = some (.int q1) ∧ τ = xσ μ R ∧ n = n')) (Nat.le_refl _)  hq1 (⟨rfl, rfl, rfl⟩)) my_J6_bitCount_0f7a4 ⟨m_688, m_450⟩ rfl rfl (Nat.le_of_ble_eq_true rfl) (Nat.le_trans (by decide) hd) (xlo (by decide) (Nat.le_trans (by decide) hd)) (Nat.zero_le _) (Nat.zero_le _) dX2_many_4 (fun v τ n' hv => ?_)
  obtain ⟨rfl, rfl, rfl⟩ := hv
  show Ev E (xcm E d 0 0 QQ) Y_X2_many 7 [(0, .ref (E.2.2.2 + o))] [.int q1] (xσ μ R) n 0 0
  cases h
  exact ev_iret rfl (hQ) dX2_many_7 (Nat.zero_le _) (Nat.zero_le _)
def fX2_start_b7 (x2 : Int32) (x3 : Int32) (o : Nat) (μ : xm) : Option ((Int32 × Int32) ⊕ ((Int32) ⊕ (Int32))) := if 8 ≤ x3 then (some (.inr (.inl x2))) else (xbd (fX2_includes o x3 μ) fun q5 => if q5 = 0 then (xlt (x3 + 1) fun x10 => some (.inl (x2, x10))) else (xbd (xgI μ (o + 1) 8 x3) fun v6 => if v6 = (-1) then (some (.inr (.inr (-1)))) else (xbd (xgI μ (o + 1) 8 x3) fun v7 => xlt (xmax x2 v7) fun x8 => xlt (x3 + 1) fun x9 => some (.inl (x8, x9)))))
def fX2_start (o : Nat) (μ : xm) : Option (Int32) := xlt (μ.1 o 1) fun x1 => xbd (xloop xfu (fun v => fX2_start_b7 v.1 v.2 o μ) (x1, 0)) fun q11 => xsm q11 (fun q12 => some q12) (fun q13 => some q13)
set_option maxHeartbeats 4000000 in
set_option maxRecDepth 100000 in
theorem kX2_start {E : xE} {d : Nat} {QQ : xP} (hd : 1 ≤ d) {o : Nat} {μ : xm} {R : xr} {n : Nat} (hF : xFin R n) (hI : xIs 2 o n) {res : Int32} (h : fX2_start o μ = some res) (hQ : QQ (some (.int res)) (xσ μ R) n) : xCon E d Y_X2_start 0 0 [.ref (E.2.2.2 + o)] (xσ μ R) n QQ := by
  refine xCon_of pn_RX2 (Nat.le_of_ble_eq_true rfl) (L0 := [(0, .ref (E.2.2.2 + o))]) rfl ?_
  unfold fX2_start at h
  refine ev_aload_n 0 dX2_start_0 rfl rfl ?_
  refine xv_getI cl_2 lk_RX2_19 (xIs2_kd hI) (xIs2_lt hI) (fun _ => rfl) dX2_start_1 ?_
  obtain ⟨x1, hx1, h⟩ := xlt_some h
  refine xv_istore_n (L' := [(1, .int x1), (0, .ref (E.2.2.2 + o))]) hx1 dX2_start_4 rfl (Nat.le_of_ble_eq_true rfl) rfl ?_
  refine ev_iconst (v := 0) dX2_start_5 (by decide) ?_
  refine xv_istore_n (L' := [(2, .int 0), (1, .int x1), (0, .ref (E.2.2.2 + o))]) rfl dX2_start_6 rfl (Nat.le_of_ble_eq_true rfl) rfl ?_
  obtain ⟨q11, hq11, h⟩ := xbd_some h
  refine ev_sub (L' := [(0, .ref (E.2.2.2 + o)), (1, .int x1), (2, .int 0)]) [2, 1, 0] rfl ?_
  refine xloop_run (fun v => Ev E (xcm E d 0 0 QQ) Y_X2_start 7 [(0, .ref (E.2.2.2 + o)), (1, .int v.1), (2, .int v.2)] [] (xσ μ R) n 0 0) (xel (fun v => Ev E (xcm E d 0 0 QQ) Y_X2_start 56 [(1, .int v)] [] (xσ μ R) n 0 0) (fun v => QQ (some (.int v)) (xσ μ R) n)) ?_ _ _ _ hq11 ?_
  · rintro ⟨x2, x3⟩ y4 h hk
    replace h : fX2_start_b7 x2 x3 o μ = some y4 := h
    show Ev E (xcm E d 0 0 QQ) Y_X2_start 7 [(0, .ref (E.2.2.2 + o)), (1, .int x2), (2, .int x3)] [] (xσ μ R) n 0 0
    unfold fX2_start_b7 at h
    refine ev_iload_n 2 dX2_start_7 rfl rfl ?_
    refine ev_aload_n 0 dX2_start_8 rfl rfl ?_
    refine xv_getF (a := (o + 1)) cl_2 lk_RX2_9 (xIs2_kd hI) (xIs2_lt hI) (fun _ => rfl) (xIs2_fr3 hF hI) dX2_start_9 ?_
    refine ev_alen (v := 8) 0 (by decide) (xIs2_kd3 hI) (xIs2_lt3 hI) rfl dX2_start_12 ?_
    refine ev_icmp_ge (tgt := 56) dX2_start_13 (by decide) (fun c13 => ?_) (fun c13 => ?_)
    · replace h := xif_t c13 h
      cases h
      replace hk := xel_r hk
      replace hk := xel_l hk
      exact ev_sub [1] rfl (hk)
    · replace h := xif_f c13 h
      refine ev_aload_n 0 dX2_start_16 rfl rfl ?_
      refine ev_iload_n 2 dX2_start_17 rfl rfl ?_
      obtain ⟨q5, hq5, h⟩ := xbd_some h
      refine ev_callV (ci := 2) (rest := []) 1 (kX2_includes (E := E) (d := 0) (QQ := (fun v τ n' => v = some (.int q5) ∧ τ = xσ μ R ∧ n = n')) (Nat.le_refl _) hF hI hq5 (⟨rfl, rfl, rfl⟩)) my_X2_includes ⟨m_625, m_500, m_501⟩ cl_2 (xIs2_kd hI) (xIs2_lt hI) rfl rfl (Nat.le_of_ble_eq_true rfl) (Nat.le_trans (by decide) hd) (xlo (by decide) (Nat.le_trans (by decide) hd)) (Nat.zero_le _) (Nat.zero_le _) dX2_start_18 (fun v τ n' hv => ?_)
      obtain ⟨rfl, rfl, rfl⟩ := hv
      show Ev E (xcm E d 0 0 QQ) Y_X2_start 21 [(0, .ref (E.2.2.2 + o)), (1, .int x2), (2, .int x3)] [.int q5] (xσ μ R) n 0 0
      refine ev_if_ne (tgt := 27) dX2_start_21 (by decide) (fun c21 => ?_) (fun c21 => ?_)
      · replace h := xif_f c21 h
        refine ev_aload_n 0 dX2_start_27 rfl rfl ?_
        refine xv_getF (a := (o + 1)) cl_2 lk_RX2_9 (xIs2_kd hI) (xIs2_lt hI) (fun _ => rfl) (xIs2_fr3 hF hI) dX2_start_28 ?_
        refine ev_iload_n 2 dX2_start_31 rfl rfl ?_
        obtain ⟨v6, hv6, h⟩ := xbd_some h
        refine xv_iald (xIs2_kd3 hI) (xIs2_lt3 hI) hv6 dX2_start_32 ?_
        refine ev_iconst (v := (-1)) dX2_start_33 (by decide) ?_
        refine ev_icmp_ne (tgt := 39) dX2_start_34 (by decide) (fun c34 => ?_) (fun c34 => ?_)
        · replace h := xif_f c34 h
          refine ev_iload_n 1 dX2_start_39 rfl rfl ?_
          refine ev_aload_n 0 dX2_start_40 rfl rfl ?_
          refine xv_getF (a := (o + 1)) cl_2 lk_RX2_9 (xIs2_kd hI) (xIs2_lt hI) (fun _ => rfl) (xIs2_fr3 hF hI) dX2_start_41 ?_
          refine ev_iload_n 2 dX2_start_44 rfl rfl ?_
          obtain ⟨v7, hv7, h⟩ := xbd_some h
          refine xv_iald (xIs2_kd3 hI) (xIs2_lt3 hI) hv7 dX2_start_45 ?_
          refine ev_mmax ⟨m_626, m_534, m_124, m_535⟩ (Nat.le_trans (by decide) hd) (xlo2 (Nat.le_trans (by decide) hd)) (Nat.le_of_ble_eq_true rfl) (Nat.zero_le _) (Nat.zero_le _) dX2_start_46 ?_
          obtain ⟨x8, hx8, h⟩ := xlt_some h
          refine xv_istore_n (L' := [(1, .int x8), (0, .ref (E.2.2.2 + o)), (2, .int x3)]) hx8 dX2_start_49 rfl (Nat.le_of_ble_eq_true rfl) rfl ?_
          obtain ⟨x9, hx9, h⟩ := xlt_some h
          refine ev_iinc (L' := [(2, .int x9), (1, .int x8), (0, .ref (E.2.2.2 + o))]) 2 dX2_start_50 rfl ((by rfl : x3 + Int32.ofInt 1 = x3 + 1).trans hx9) (Nat.le_of_ble_eq_true rfl) rfl ?_
          refine ev_goto (tgt := 7) dX2_start_53 (by decide) ?_
          cases h
          replace hk := xel_l hk
          exact ev_sub [2, 1, 0] rfl (hk)
        · replace h := xif_t c34 h
          refine ev_iconst (v := (-1)) dX2_start_37 (by decide) ?_
          cases h
          replace hk := xel_r hk
          replace hk := xel_r hk
          exact ev_iret rfl (hk) dX2_start_38 (Nat.zero_le _) (Nat.zero_le _)
      · replace h := xif_t c21 h
        refine ev_goto (tgt := 50) dX2_start_24 (by decide) ?_
        obtain ⟨x10, hx10, h⟩ := xlt_some h
        refine ev_iinc (L' := [(2, .int x10), (0, .ref (E.2.2.2 + o)), (1, .int x2)]) 2 dX2_start_50 rfl ((by rfl : x3 + Int32.ofInt 1 = x3 + 1).trans hx10) (Nat.le_of_ble_eq_true rfl) rfl ?_
        refine ev_goto (tgt := 7) dX2_start_53 (by decide) ?_
        cases h
        replace hk := xel_l hk
        exact ev_sub [1, 2, 0] rfl (hk)
  · rcases q11 with q12 | q13
    · replace h := xsm_l h
      show Ev E (xcm E d 0 0 QQ) Y_X2_start 56 [(1, .int q12)] [] (xσ μ R) n 0 0
      refine ev_iload_n 0 dX2_start_56 rfl rfl ?_
      cases h
      exact ev_iret rfl (hQ) dX2_start_57 (Nat.zero_le _) (Nat.zero_le _)
    · replace h := xsm_r h
      cases h
      exact hQ
def fX3_settledOnes_b4 (x1 : Int32) (x2 : Int32) (μ : xm) (R : xr) : Option ((Int32 × Int32) ⊕ (Int32)) := if 24 ≤ x2 then (some (.inr x1)) else (xbd (fX3_find x2 μ R) fun q4 => xop q4 (xlt (x2 + 1) fun x6 => some (.inl (x1, x6))) (fun a5 => xbd (fX2_isSettled a5 μ) fun q7 => if q7 = 0 then (xlt (x2 + 1) fun x8 => some (.inl (x1, x8))) else (xlt (x1 + 1) fun x9 => xlt (x2 + 1) fun x10 => some (.inl (x9, x10)))))
def fX3_settledOnes (μ : xm) (R : xr) : Option (Int32) := xbd (xloop xfu (fun v => fX3_settledOnes_b4 v.1 v.2 μ R) (0, 0)) fun q11 => some q11
set_option maxHeartbeats 4000000 in
set_option maxRecDepth 100000 in
theorem kX3_settledOnes {E : xE} {d : Nat} {QQ : xP} (hd : 1 ≤ d)  {μ : xm} {R : xr} {n : Nat} (hF : xFin R n)  {res : Int32} (h : fX3_settledOnes μ R = some res) (hQ : QQ (some (.int res)) (xσ μ R) n) : xCon E d Y_X3_settledOnes 0 0 [.ref (E.2.2.2 + iC_meetings)] (xσ μ R) n QQ := by
  refine xCon_of pn_RX3 (Nat.le_of_ble_eq_true rfl) (L0 := [(0, .ref (E.2.2.2 + iC_meetings))]) rfl ?_
  unfold fX3_settledOnes at h
  refine ev_iconst (v := 0) dX3_settledOnes_0 (by decide) ?_
  refine xv_istore_n (L' := [(1, .int 0), (0, .ref (E.2.2.2 + iC_meetings))]) rfl dX3_settledOnes_1 rfl (Nat.le_of_ble_eq_true rfl) rfl ?_
  refine ev_iconst (v := 0) dX3_settledOnes_2 (by decide) ?_
  refine xv_istore_n (L' := [(2, .int 0), (1, .int 0), (0, .ref (E.2.2.2 + iC_meetings))]) rfl dX3_settledOnes_3 rfl (Nat.le_of_ble_eq_true rfl) rfl ?_
  obtain ⟨q11, hq11, h⟩ := xbd_some h
  refine ev_sub (L' := [(0, .ref (E.2.2.2 + iC_meetings)), (1, .int 0), (2, .int 0)]) [2, 1, 0] rfl ?_
  refine xloop_run (fun v => Ev E (xcm E d 0 0 QQ) Y_X3_settledOnes 4 [(0, .ref (E.2.2.2 + iC_meetings)), (1, .int v.1), (2, .int v.2)] [] (xσ μ R) n 0 0) (fun v => Ev E (xcm E d 0 0 QQ) Y_X3_settledOnes 39 [(1, .int v)] [] (xσ μ R) n 0 0) ?_ _ _ _ hq11 ?_
  · rintro ⟨x1, x2⟩ y3 h hk
    replace h : fX3_settledOnes_b4 x1 x2 μ R = some y3 := h
    show Ev E (xcm E d 0 0 QQ) Y_X3_settledOnes 4 [(0, .ref (E.2.2.2 + iC_meetings)), (1, .int x1), (2, .int x2)] [] (xσ μ R) n 0 0
    unfold fX3_settledOnes_b4 at h
    refine ev_iload_n 2 dX3_settledOnes_4 rfl rfl ?_
    refine ev_aload_n 0 dX3_settledOnes_5 rfl rfl ?_
    refine xv_getF (a := iC_meetings_list) cl_3 lk_RX3_11 kd_23 (xl hF rfl) (fun _ => rfl) (fr_23_1 hF) dX3_settledOnes_6 ?_
    refine ev_alen (v := 24) 4 (by decide) kd_24 (xl hF rfl) rfl dX3_settledOnes_9 ?_
    refine ev_icmp_ge (tgt := 39) dX3_settledOnes_10 (by decide) (fun c10 => ?_) (fun c10 => ?_)
    · replace h := xif_t c10 h
      cases h
      replace hk := xel_r hk
      exact ev_sub [1] rfl (hk)
    · replace h := xif_f c10 h
      refine ev_aload_n 0 dX3_settledOnes_13 rfl rfl ?_
      refine ev_iload_n 2 dX3_settledOnes_14 rfl rfl ?_
      obtain ⟨q4, hq4, h⟩ := xbd_some h
      refine ev_callV (ci := 3) (rest := []) 1 (kX3_find (E := E) (d := 0) (QQ := (fun v τ n' => v = some (xrf E.2.2.2 q4) ∧ τ = xσ μ R ∧ n = n' ∧ (∀ a, q4 = some a → xIs 2 a n))) (Nat.le_refl _) hF hq4 (fun z0 => ⟨rfl, rfl, rfl, z0⟩)) my_X3_find ⟨m_648, m_492, m_493⟩ cl_3 kd_23 (xl hF rfl) rfl rfl (Nat.le_of_ble_eq_true rfl) (Nat.le_trans (by decide) hd) (xlo (by decide) (Nat.le_trans (by decide) hd)) (Nat.zero_le _) (Nat.zero_le _) dX3_settledOnes_15 (fun v τ n' hv => ?_)
      obtain ⟨rfl, rfl, rfl, hvq4⟩ := hv
      show Ev E (xcm E d 0 0 QQ) Y_X3_settledOnes 18 [(0, .ref (E.2.2.2 + iC_meetings)), (1, .int x1), (2, .int x2)] [xrf E.2.2.2 q4] (xσ μ R) n 0 0
      refine xv_astore_n (r := q4) (L' := [(3, xrf E.2.2.2 q4), (0, .ref (E.2.2.2 + iC_meetings)), (1, .int x1), (2, .int x2)]) dX3_settledOnes_18 rfl (Nat.le_of_ble_eq_true rfl) rfl ?_
      refine xv_aload_n (r := q4) 0 dX3_settledOnes_19 rfl rfl ?_
      refine ev_ifnull (r := q4) (tgt := 33) dX3_settledOnes_20 (by decide) (fun hr => ?_) (fun a5 hr => ?_)
      · subst hr
        replace h := xop_n h
        obtain ⟨x6, hx6, h⟩ := xlt_some h
        refine ev_iinc (L' := [(2, .int x6), (3, .null), (0, .ref (E.2.2.2 + iC_meetings)), (1, .int x1)]) 3 dX3_settledOnes_33 rfl ((by rfl : x2 + Int32.ofInt 1 = x2 + 1).trans hx6) (Nat.le_of_ble_eq_true rfl) rfl ?_
        refine ev_goto (tgt := 4) dX3_settledOnes_36 (by decide) ?_
        cases h
        replace hk := xel_l hk
        exact ev_sub [2, 3, 0] rfl (hk)
      · subst hr
        replace h := xop_s h
        have ha5 := hvq4 a5 rfl
        refine ev_aload_n 0 dX3_settledOnes_23 rfl rfl ?_
        obtain ⟨q7, hq7, h⟩ := xbd_some h
        refine ev_callV (ci := 2) (rest := []) 0 (kX2_isSettled (E := E) (d := 0) (QQ := (fun v τ n' => v = some (.int q7) ∧ τ = xσ μ R ∧ n = n')) (Nat.le_refl _) hF ha5 hq7 (⟨rfl, rfl, rfl⟩)) my_X2_isSettled ⟨m_1168, m_496, m_497⟩ cl_2 (xIs2_kd ha5) (xIs2_lt ha5) rfl rfl (Nat.le_of_ble_eq_true rfl) (Nat.le_trans (by decide) hd) (xlo (by decide) (Nat.le_trans (by decide) hd)) (Nat.zero_le _) (Nat.zero_le _) dX3_settledOnes_24 (fun v τ n' hv => ?_)
        obtain ⟨rfl, rfl, rfl⟩ := hv
        show Ev E (xcm E d 0 0 QQ) Y_X3_settledOnes 27 [(3, .ref (E.2.2.2 + a5)), (0, .ref (E.2.2.2 + iC_meetings)), (1, .int x1), (2, .int x2)] [.int q7] (xσ μ R) n 0 0
        refine ev_if_eq (tgt := 33) dX3_settledOnes_27 (by decide) (fun c27 => ?_) (fun c27 => ?_)
        · replace h := xif_t c27 h
          obtain ⟨x8, hx8, h⟩ := xlt_some h
          refine ev_iinc (L' := [(2, .int x8), (3, .ref (E.2.2.2 + a5)), (0, .ref (E.2.2.2 + iC_meetings)), (1, .int x1)]) 3 dX3_settledOnes_33 rfl ((by rfl : x2 + Int32.ofInt 1 = x2 + 1).trans hx8) (Nat.le_of_ble_eq_true rfl) rfl ?_
          refine ev_goto (tgt := 4) dX3_settledOnes_36 (by decide) ?_
          cases h
          replace hk := xel_l hk
          exact ev_sub [2, 3, 0] rfl (hk)
        · replace h := xif_f c27 h
          obtain ⟨x9, hx9, h⟩ := xlt_some h
          refine ev_iinc (L' := [(1, .int x9), (3, .ref (E.2.2.2 + a5)), (0, .ref (E.2.2.2 + iC_meetings)), (2, .int x2)]) 2 dX3_settledOnes_30 rfl ((by rfl : x1 + Int32.ofInt 1 = x1 + 1).trans hx9) (Nat.le_of_ble_eq_true rfl) rfl ?_
          obtain ⟨x10, hx10, h⟩ := xlt_some h
          refine ev_iinc (L' := [(2, .int x10), (1, .int x9), (3, .ref (E.2.2.2 + a5)), (0, .ref (E.2.2.2 + iC_meetings))]) 3 dX3_settledOnes_33 rfl ((by rfl : x2 + Int32.ofInt 1 = x2 + 1).trans hx10) (Nat.le_of_ble_eq_true rfl) rfl ?_
          refine ev_goto (tgt := 4) dX3_settledOnes_36 (by decide) ?_
          cases h
          replace hk := xel_l hk
          exact ev_sub [3, 1, 0] rfl (hk)
  · show Ev E (xcm E d 0 0 QQ) Y_X3_settledOnes 39 [(1, .int q11)] [] (xσ μ R) n 0 0
    refine ev_iload_n 0 dX3_settledOnes_39 rfl rfl ?_
    cases h
    exact ev_iret rfl (hQ) dX3_settledOnes_40 (Nat.zero_le _) (Nat.zero_le _)
def fX4_handTo (p0 : Int32) (p1 : Int32) (μ : xm) : Option (xm) := xbd (fX4_holds p0 μ) fun q1 => if q1 = 0 then (some μ) else (xbd (xsI μ iC_notes_holders 60 p0 p1) fun μ2 => xbd (xgI μ2 iC_notes_owers 60 p0) fun v3 => if v3 = p1 then (xbd (xsI μ2 iC_notes_minutes 60 p0 0) fun μ4 => some μ4) else (some μ2))
set_option maxHeartbeats 4000000 in
set_option maxRecDepth 100000 in
theorem kX4_handTo {E : xE} {d : Nat} {QQ : xP} (hd : 1 ≤ d) {p0 : Int32} {p1 : Int32} {μ : xm} {R : xr} {n : Nat} (hF : xFin R n)  {res : xm} (h : fX4_handTo p0 p1 μ = some res) (hQ : QQ none (xσ res R) n) : xCon E d Y_X4_handTo 0 0 [.ref (E.2.2.2 + iC_notes), .int p0, .int p1] (xσ μ R) n QQ := by
  refine xCon_of pn_RX4 (Nat.le_of_ble_eq_true rfl) (L0 := [(0, .ref (E.2.2.2 + iC_notes)), (1, .int p0), (2, .int p1)]) rfl ?_
  unfold fX4_handTo at h
  refine ev_aload_n 0 dX4_handTo_0 rfl rfl ?_
  refine ev_iload_n 1 dX4_handTo_1 rfl rfl ?_
  obtain ⟨q1, hq1, h⟩ := xbd_some h
  refine ev_callV (ci := 4) (rest := []) 1 (kX4_holds (E := E) (d := 0) (QQ := (fun v τ n' => v = some (.int q1) ∧ τ = xσ μ R ∧ n = n')) (Nat.le_refl _) hF hq1 (⟨rfl, rfl, rfl⟩)) my_X4_holds ⟨m_801, m_794, m_795⟩ cl_4 kd_28 (xl hF rfl) rfl rfl (Nat.le_of_ble_eq_true rfl) (Nat.le_trans (by decide) hd) (xlo (by decide) (Nat.le_trans (by decide) hd)) (Nat.zero_le _) (Nat.zero_le _) dX4_handTo_2 (fun v τ n' hv => ?_)
  obtain ⟨rfl, rfl, rfl⟩ := hv
  show Ev E (xcm E d 0 0 QQ) Y_X4_handTo 5 [(0, .ref (E.2.2.2 + iC_notes)), (1, .int p0), (2, .int p1)] [.int q1] (xσ μ R) n 0 0
  refine ev_if_ne (tgt := 9) dX4_handTo_5 (by decide) (fun c5 => ?_) (fun c5 => ?_)
  · replace h := xif_f c5 h
    refine ev_aload_n 0 dX4_handTo_9 rfl rfl ?_
    refine xv_getF (a := iC_notes_holders) cl_4 lk_RX4_15 kd_28 (xl hF rfl) (fun _ => rfl) (fr_28_1 hF) dX4_handTo_10 ?_
    refine ev_iload_n 1 dX4_handTo_13 rfl rfl ?_
    refine ev_iload_n 2 dX4_handTo_14 rfl rfl ?_
    obtain ⟨μ2, hμ2, h⟩ := xbd_some h
    refine xv_iast kd_30 (xl hF rfl) hμ2 dX4_handTo_15 ?_
    refine ev_aload_n 0 dX4_handTo_16 rfl rfl ?_
    refine xv_getF (a := iC_notes_owers) cl_4 lk_RX4_9 kd_28 (xl hF rfl) (fun _ => rfl) (fr_28_0 hF) dX4_handTo_17 ?_
    refine ev_iload_n 1 dX4_handTo_20 rfl rfl ?_
    obtain ⟨v3, hv3, h⟩ := xbd_some h
    refine xv_iald kd_29 (xl hF rfl) hv3 dX4_handTo_21 ?_
    refine ev_iload_n 2 dX4_handTo_22 rfl rfl ?_
    refine ev_icmp_ne (tgt := 33) dX4_handTo_23 (by decide) (fun c23 => ?_) (fun c23 => ?_)
    · replace h := xif_f c23 h
      cases h
      exact ev_vret rfl (hQ) dX4_handTo_33 (Nat.zero_le _) (Nat.zero_le _)
    · replace h := xif_t c23 h
      refine ev_aload_n 0 dX4_handTo_26 rfl rfl ?_
      refine xv_getF (a := iC_notes_minutes) cl_4 lk_RX4_18 kd_28 (xl hF rfl) (fun _ => rfl) (fr_28_2 hF) dX4_handTo_27 ?_
      refine ev_iload_n 1 dX4_handTo_30 rfl rfl ?_
      refine ev_iconst (v := 0) dX4_handTo_31 (by decide) ?_
      obtain ⟨μ4, hμ4, h⟩ := xbd_some h
      refine xv_iast kd_31 (xl hF rfl) hμ4 dX4_handTo_32 ?_
      cases h
      exact ev_vret rfl (hQ) dX4_handTo_33 (Nat.zero_le _) (Nat.zero_le _)
  · replace h := xif_t c5 h
    cases h
    exact ev_vret rfl (hQ) dX4_handTo_8 (Nat.zero_le _) (Nat.zero_le _)
def fX4_holderOf (p0 : Int32) (μ : xm) : Option (Int32) := xbd (fX4_holds p0 μ) fun q1 => if q1 = 0 then (some (-1)) else (xbd (xgI μ iC_notes_holders 60 p0) fun v2 => some v2)
set_option maxHeartbeats 4000000 in
set_option maxRecDepth 100000 in
theorem kX4_holderOf {E : xE} {d : Nat} {QQ : xP} (hd : 1 ≤ d) {p0 : Int32} {μ : xm} {R : xr} {n : Nat} (hF : xFin R n)  {res : Int32} (h : fX4_holderOf p0 μ = some res) (hQ : QQ (some (.int res)) (xσ μ R) n) : xCon E d Y_X4_holderOf 0 0 [.ref (E.2.2.2 + iC_notes), .int p0] (xσ μ R) n QQ := by
  refine xCon_of pn_RX4 (Nat.le_of_ble_eq_true rfl) (L0 := [(0, .ref (E.2.2.2 + iC_notes)), (1, .int p0)]) rfl ?_
  unfold fX4_holderOf at h
  refine ev_aload_n 0 dX4_holderOf_0 rfl rfl ?_
  refine ev_iload_n 1 dX4_holderOf_1 rfl rfl ?_
  obtain ⟨q1, hq1, h⟩ := xbd_some h
  refine ev_callV (ci := 4) (rest := []) 1 (kX4_holds (E := E) (d := 0) (QQ := (fun v τ n' => v = some (.int q1) ∧ τ = xσ μ R ∧ n = n')) (Nat.le_refl _) hF hq1 (⟨rfl, rfl, rfl⟩)) my_X4_holds ⟨m_801, m_794, m_795⟩ cl_4 kd_28 (xl hF rfl) rfl rfl (Nat.le_of_ble_eq_true rfl) (Nat.le_trans (by decide) hd) (xlo (by decide) (Nat.le_trans (by decide) hd)) (Nat.zero_le _) (Nat.zero_le _) dX4_holderOf_2 (fun v τ n' hv => ?_)
  obtain ⟨rfl, rfl, rfl⟩ := hv
  show Ev E (xcm E d 0 0 QQ) Y_X4_holderOf 5 [(0, .ref (E.2.2.2 + iC_notes)), (1, .int p0)] [.int q1] (xσ μ R) n 0 0
  refine ev_if_eq (tgt := 17) dX4_holderOf_5 (by decide) (fun c5 => ?_) (fun c5 => ?_)
  · replace h := xif_t c5 h
    refine ev_iconst (v := (-1)) dX4_holderOf_17 (by decide) ?_
    cases h
    exact ev_iret rfl (hQ) dX4_holderOf_18 (Nat.zero_le _) (Nat.zero_le _)
  · replace h := xif_f c5 h
    refine ev_aload_n 0 dX4_holderOf_8 rfl rfl ?_
    refine xv_getF (a := iC_notes_holders) cl_4 lk_RX4_15 kd_28 (xl hF rfl) (fun _ => rfl) (fr_28_1 hF) dX4_holderOf_9 ?_
    refine ev_iload_n 1 dX4_holderOf_12 rfl rfl ?_
    obtain ⟨v2, hv2, h⟩ := xbd_some h
    refine xv_iald kd_30 (xl hF rfl) hv2 dX4_holderOf_13 ?_
    refine ev_goto (tgt := 18) dX4_holderOf_14 (by decide) ?_
    cases h
    exact ev_iret rfl (hQ) dX4_holderOf_18 (Nat.zero_le _) (Nat.zero_le _)
def fX4_isLive (p0 : Int32) (p1 : Int32) (μ : xm) : Option (Int32) := xbd (fX4_holds p0 μ) fun q1 => if q1 = 0 then (some 0) else (xbd (xgI μ iC_notes_minutes 60 p0) fun v2 => if v2 ≤ 0 then (some 0) else (xbd (xgI μ iC_notes_lapses 60 p0) fun v3 => if v3 = (-1) then (some 1) else (xbd (xgI μ iC_notes_lapses 60 p0) fun v4 => if v4 ≤ p1 then (some 0) else (some 1))))
set_option maxHeartbeats 4000000 in
set_option maxRecDepth 100000 in
theorem kX4_isLive {E : xE} {d : Nat} {QQ : xP} (hd : 1 ≤ d) {p0 : Int32} {p1 : Int32} {μ : xm} {R : xr} {n : Nat} (hF : xFin R n)  {res : Int32} (h : fX4_isLive p0 p1 μ = some res) (hQ : QQ (some (.int res)) (xσ μ R) n) : xCon E d Y_X4_isLive 0 0 [.ref (E.2.2.2 + iC_notes), .int p0, .int p1] (xσ μ R) n QQ := by
  refine xCon_of pn_RX4 (Nat.le_of_ble_eq_true rfl) (L0 := [(0, .ref (E.2.2.2 + iC_notes)), (1, .int p0), (2, .int p1)]) rfl ?_
  unfold fX4_isLive at h
  refine ev_aload_n 0 dX4_isLive_0 rfl rfl ?_
  refine ev_iload_n 1 dX4_isLive_1 rfl rfl ?_
  obtain ⟨q1, hq1, h⟩ := xbd_some h
  refine ev_callV (ci := 4) (rest := []) 1 (kX4_holds (E := E) (d := 0) (QQ := (fun v τ n' => v = some (.int q1) ∧ τ = xσ μ R ∧ n = n')) (Nat.le_refl _) hF hq1 (⟨rfl, rfl, rfl⟩)) my_X4_holds ⟨m_801, m_794, m_795⟩ cl_4 kd_28 (xl hF rfl) rfl rfl (Nat.le_of_ble_eq_true rfl) (Nat.le_trans (by decide) hd) (xlo (by decide) (Nat.le_trans (by decide) hd)) (Nat.zero_le _) (Nat.zero_le _) dX4_isLive_2 (fun v τ n' hv => ?_)
  obtain ⟨rfl, rfl, rfl⟩ := hv
  show Ev E (xcm E d 0 0 QQ) Y_X4_isLive 5 [(0, .ref (E.2.2.2 + iC_notes)), (1, .int p0), (2, .int p1)] [.int q1] (xσ μ R) n 0 0
  refine ev_if_eq (tgt := 41) dX4_isLive_5 (by decide) (fun c5 => ?_) (fun c5 => ?_)
  · replace h := xif_t c5 h
    refine ev_iconst (v := 0) dX4_isLive_41 (by decide) ?_
    cases h
    exact ev_zret rfl (Or.inl rfl) (hQ) dX4_isLive_42 (Nat.zero_le _) (Nat.zero_le _)
  · replace h := xif_f c5 h
    refine ev_aload_n 0 dX4_isLive_8 rfl rfl ?_
    refine xv_getF (a := iC_notes_minutes) cl_4 lk_RX4_18 kd_28 (xl hF rfl) (fun _ => rfl) (fr_28_2 hF) dX4_isLive_9 ?_
    refine ev_iload_n 1 dX4_isLive_12 rfl rfl ?_
    obtain ⟨v2, hv2, h⟩ := xbd_some h
    refine xv_iald kd_31 (xl hF rfl) hv2 dX4_isLive_13 ?_
    refine ev_if_le (tgt := 41) dX4_isLive_14 (by decide) (fun c14 => ?_) (fun c14 => ?_)
    · replace h := xif_t c14 h
      refine ev_iconst (v := 0) dX4_isLive_41 (by decide) ?_
      cases h
      exact ev_zret rfl (Or.inl rfl) (hQ) dX4_isLive_42 (Nat.zero_le _) (Nat.zero_le _)
    · replace h := xif_f c14 h
      refine ev_aload_n 0 dX4_isLive_17 rfl rfl ?_
      refine xv_getF (a := iC_notes_lapses) cl_4 lk_RX4_24 kd_28 (xl hF rfl) (fun _ => rfl) (fr_28_4 hF) dX4_isLive_18 ?_
      refine ev_iload_n 1 dX4_isLive_21 rfl rfl ?_
      obtain ⟨v3, hv3, h⟩ := xbd_some h
      refine xv_iald kd_33 (xl hF rfl) hv3 dX4_isLive_22 ?_
      refine ev_iconst (v := (-1)) dX4_isLive_23 (by decide) ?_
      refine ev_icmp_eq (tgt := 37) dX4_isLive_24 (by decide) (fun c24 => ?_) (fun c24 => ?_)
      · replace h := xif_t c24 h
        refine ev_iconst (v := 1) dX4_isLive_37 (by decide) ?_
        refine ev_goto (tgt := 42) dX4_isLive_38 (by decide) ?_
        cases h
        exact ev_zret rfl (Or.inr rfl) (hQ) dX4_isLive_42 (Nat.zero_le _) (Nat.zero_le _)
      · replace h := xif_f c24 h
        refine ev_iload_n 2 dX4_isLive_27 rfl rfl ?_
        refine ev_aload_n 0 dX4_isLive_28 rfl rfl ?_
        refine xv_getF (a := iC_notes_lapses) cl_4 lk_RX4_24 kd_28 (xl hF rfl) (fun _ => rfl) (fr_28_4 hF) dX4_isLive_29 ?_
        refine ev_iload_n 1 dX4_isLive_32 rfl rfl ?_
        obtain ⟨v4, hv4, h⟩ := xbd_some h
        refine xv_iald kd_33 (xl hF rfl) hv4 dX4_isLive_33 ?_
        refine ev_icmp_ge (tgt := 41) dX4_isLive_34 (by decide) (fun c34 => ?_) (fun c34 => ?_)
        · replace h := xif_t c34 h
          refine ev_iconst (v := 0) dX4_isLive_41 (by decide) ?_
          cases h
          exact ev_zret rfl (Or.inl rfl) (hQ) dX4_isLive_42 (Nat.zero_le _) (Nat.zero_le _)
        · replace h := xif_f c34 h
          refine ev_iconst (v := 1) dX4_isLive_37 (by decide) ?_
          refine ev_goto (tgt := 42) dX4_isLive_38 (by decide) ?_
          cases h
          exact ev_zret rfl (Or.inr rfl) (hQ) dX4_isLive_42 (Nat.zero_le _) (Nat.zero_le _)
def fX4_lapsesOn (p0 : Int32) (μ : xm) : Option (Int32) := xbd (fX4_holds p0 μ) fun q1 => if q1 = 0 then (some (-1)) else (xbd (xgI μ iC_notes_lapses 60 p0) fun v2 => some v2)
set_option maxHeartbeats 4000000 in
set_option maxRecDepth 100000 in
theorem kX4_lapsesOn {E : xE} {d : Nat} {QQ : xP} (hd : 1 ≤ d) {p0 : Int32} {μ : xm} {R : xr} {n : Nat} (hF : xFin R n)  {res : Int32} (h : fX4_lapsesOn p0 μ = some res) (hQ : QQ (some (.int res)) (xσ μ R) n) : xCon E d Y_X4_lapsesOn 0 0 [.ref (E.2.2.2 + iC_notes), .int p0] (xσ μ R) n QQ := by
  refine xCon_of pn_RX4 (Nat.le_of_ble_eq_true rfl) (L0 := [(0, .ref (E.2.2.2 + iC_notes)), (1, .int p0)]) rfl ?_
  unfold fX4_lapsesOn at h
  refine ev_aload_n 0 dX4_lapsesOn_0 rfl rfl ?_
  refine ev_iload_n 1 dX4_lapsesOn_1 rfl rfl ?_
  obtain ⟨q1, hq1, h⟩ := xbd_some h
  refine ev_callV (ci := 4) (rest := []) 1 (kX4_holds (E := E) (d := 0) (QQ := (fun v τ n' => v = some (.int q1) ∧ τ = xσ μ R ∧ n = n')) (Nat.le_refl _) hF hq1 (⟨rfl, rfl, rfl⟩)) my_X4_holds ⟨m_801, m_794, m_795⟩ cl_4 kd_28 (xl hF rfl) rfl rfl (Nat.le_of_ble_eq_true rfl) (Nat.le_trans (by decide) hd) (xlo (by decide) (Nat.le_trans (by decide) hd)) (Nat.zero_le _) (Nat.zero_le _) dX4_lapsesOn_2 (fun v τ n' hv => ?_)
  obtain ⟨rfl, rfl, rfl⟩ := hv
  show Ev E (xcm E d 0 0 QQ) Y_X4_lapsesOn 5 [(0, .ref (E.2.2.2 + iC_notes)), (1, .int p0)] [.int q1] (xσ μ R) n 0 0
  refine ev_if_eq (tgt := 17) dX4_lapsesOn_5 (by decide) (fun c5 => ?_) (fun c5 => ?_)
  · replace h := xif_t c5 h
    refine ev_iconst (v := (-1)) dX4_lapsesOn_17 (by decide) ?_
    cases h
    exact ev_iret rfl (hQ) dX4_lapsesOn_18 (Nat.zero_le _) (Nat.zero_le _)
  · replace h := xif_f c5 h
    refine ev_aload_n 0 dX4_lapsesOn_8 rfl rfl ?_
    refine xv_getF (a := iC_notes_lapses) cl_4 lk_RX4_24 kd_28 (xl hF rfl) (fun _ => rfl) (fr_28_4 hF) dX4_lapsesOn_9 ?_
    refine ev_iload_n 1 dX4_lapsesOn_12 rfl rfl ?_
    obtain ⟨v2, hv2, h⟩ := xbd_some h
    refine xv_iald kd_33 (xl hF rfl) hv2 dX4_lapsesOn_13 ?_
    refine ev_goto (tgt := 18) dX4_lapsesOn_14 (by decide) ?_
    cases h
    exact ev_iret rfl (hQ) dX4_lapsesOn_18 (Nat.zero_le _) (Nat.zero_le _)
def fX4_lessen (p0 : Int32) (p1 : Int32) (μ : xm) : Option (xm) := xbd (fX4_holds p0 μ) fun q1 => if q1 = 0 then (some μ) else (xbd (xgI μ iC_notes_minutes 60 p0) fun v2 => xbd (xsI μ iC_notes_minutes 60 p0 (v2 - p1)) fun μ3 => some μ3)
set_option maxHeartbeats 4000000 in
set_option maxRecDepth 100000 in
theorem kX4_lessen {E : xE} {d : Nat} {QQ : xP} (hd : 1 ≤ d) {p0 : Int32} {p1 : Int32} {μ : xm} {R : xr} {n : Nat} (hF : xFin R n)  {res : xm} (h : fX4_lessen p0 p1 μ = some res) (hQ : QQ none (xσ res R) n) : xCon E d Y_X4_lessen 0 0 [.ref (E.2.2.2 + iC_notes), .int p0, .int p1] (xσ μ R) n QQ := by
  refine xCon_of pn_RX4 (Nat.le_of_ble_eq_true rfl) (L0 := [(0, .ref (E.2.2.2 + iC_notes)), (1, .int p0), (2, .int p1)]) rfl ?_
  unfold fX4_lessen at h
  refine ev_aload_n 0 dX4_lessen_0 rfl rfl ?_
  refine ev_iload_n 1 dX4_lessen_1 rfl rfl ?_
  obtain ⟨q1, hq1, h⟩ := xbd_some h
  refine ev_callV (ci := 4) (rest := []) 1 (kX4_holds (E := E) (d := 0) (QQ := (fun v τ n' => v = some (.int q1) ∧ τ = xσ μ R ∧ n = n')) (Nat.le_refl _) hF hq1 (⟨rfl, rfl, rfl⟩)) my_X4_holds ⟨m_801, m_794, m_795⟩ cl_4 kd_28 (xl hF rfl) rfl rfl (Nat.le_of_ble_eq_true rfl) (Nat.le_trans (by decide) hd) (xlo (by decide) (Nat.le_trans (by decide) hd)) (Nat.zero_le _) (Nat.zero_le _) dX4_lessen_2 (fun v τ n' hv => ?_)
  obtain ⟨rfl, rfl, rfl⟩ := hv
  show Ev E (xcm E d 0 0 QQ) Y_X4_lessen 5 [(0, .ref (E.2.2.2 + iC_notes)), (1, .int p0), (2, .int p1)] [.int q1] (xσ μ R) n 0 0
  refine ev_if_eq (tgt := 18) dX4_lessen_5 (by decide) (fun c5 => ?_) (fun c5 => ?_)
  · replace h := xif_t c5 h
    cases h
    exact ev_vret rfl (hQ) dX4_lessen_18 (Nat.zero_le _) (Nat.zero_le _)
  · replace h := xif_f c5 h
    refine ev_aload_n 0 dX4_lessen_8 rfl rfl ?_
    refine xv_getF (a := iC_notes_minutes) cl_4 lk_RX4_18 kd_28 (xl hF rfl) (fun _ => rfl) (fr_28_2 hF) dX4_lessen_9 ?_
    refine ev_iload_n 1 dX4_lessen_12 rfl rfl ?_
    refine ev_dup2 dX4_lessen_13 rfl rfl ?_
    obtain ⟨v2, hv2, h⟩ := xbd_some h
    refine xv_iald kd_31 (xl hF rfl) hv2 dX4_lessen_14 ?_
    refine ev_iload_n 2 dX4_lessen_15 rfl rfl ?_
    refine ev_isub dX4_lessen_16 ?_
    obtain ⟨μ3, hμ3, h⟩ := xbd_some h
    refine xv_iast kd_31 (xl hF rfl) hμ3 dX4_lessen_17 ?_
    cases h
    exact ev_vret rfl (hQ) dX4_lessen_18 (Nat.zero_le _) (Nat.zero_le _)
def fX4_madeOn (p0 : Int32) (μ : xm) : Option (Int32) := xbd (fX4_holds p0 μ) fun q1 => if q1 = 0 then (some (-1)) else (xbd (xgI μ iC_notes_made 60 p0) fun v2 => some v2)
set_option maxHeartbeats 4000000 in
set_option maxRecDepth 100000 in
theorem kX4_madeOn {E : xE} {d : Nat} {QQ : xP} (hd : 1 ≤ d) {p0 : Int32} {μ : xm} {R : xr} {n : Nat} (hF : xFin R n)  {res : Int32} (h : fX4_madeOn p0 μ = some res) (hQ : QQ (some (.int res)) (xσ μ R) n) : xCon E d Y_X4_madeOn 0 0 [.ref (E.2.2.2 + iC_notes), .int p0] (xσ μ R) n QQ := by
  refine xCon_of pn_RX4 (Nat.le_of_ble_eq_true rfl) (L0 := [(0, .ref (E.2.2.2 + iC_notes)), (1, .int p0)]) rfl ?_
  unfold fX4_madeOn at h
  refine ev_aload_n 0 dX4_madeOn_0 rfl rfl ?_
  refine ev_iload_n 1 dX4_madeOn_1 rfl rfl ?_
  obtain ⟨q1, hq1, h⟩ := xbd_some h
  refine ev_callV (ci := 4) (rest := []) 1 (kX4_holds (E := E) (d := 0) (QQ := (fun v τ n' => v = some (.int q1) ∧ τ = xσ μ R ∧ n = n')) (Nat.le_refl _) hF hq1 (⟨rfl, rfl, rfl⟩)) my_X4_holds ⟨m_801, m_794, m_795⟩ cl_4 kd_28 (xl hF rfl) rfl rfl (Nat.le_of_ble_eq_true rfl) (Nat.le_trans (by decide) hd) (xlo (by decide) (Nat.le_trans (by decide) hd)) (Nat.zero_le _) (Nat.zero_le _) dX4_madeOn_2 (fun v τ n' hv => ?_)
  obtain ⟨rfl, rfl, rfl⟩ := hv
  show Ev E (xcm E d 0 0 QQ) Y_X4_madeOn 5 [(0, .ref (E.2.2.2 + iC_notes)), (1, .int p0)] [.int q1] (xσ μ R) n 0 0
  refine ev_if_eq (tgt := 17) dX4_madeOn_5 (by decide) (fun c5 => ?_) (fun c5 => ?_)
  · replace h := xif_t c5 h
    refine ev_iconst (v := (-1)) dX4_madeOn_17 (by decide) ?_
    cases h
    exact ev_iret rfl (hQ) dX4_madeOn_18 (Nat.zero_le _) (Nat.zero_le _)
  · replace h := xif_f c5 h
    refine ev_aload_n 0 dX4_madeOn_8 rfl rfl ?_
    refine xv_getF (a := iC_notes_made) cl_4 lk_RX4_21 kd_28 (xl hF rfl) (fun _ => rfl) (fr_28_3 hF) dX4_madeOn_9 ?_
    refine ev_iload_n 1 dX4_madeOn_12 rfl rfl ?_
    obtain ⟨v2, hv2, h⟩ := xbd_some h
    refine xv_iald kd_32 (xl hF rfl) hv2 dX4_madeOn_13 ?_
    refine ev_goto (tgt := 18) dX4_madeOn_14 (by decide) ?_
    cases h
    exact ev_iret rfl (hQ) dX4_madeOn_18 (Nat.zero_le _) (Nat.zero_le _)
def fX4_minutesOf (p0 : Int32) (μ : xm) : Option (Int32) := xbd (fX4_holds p0 μ) fun q1 => if q1 = 0 then (some 0) else (xbd (xgI μ iC_notes_minutes 60 p0) fun v2 => some v2)
set_option maxHeartbeats 4000000 in
set_option maxRecDepth 100000 in
theorem kX4_minutesOf {E : xE} {d : Nat} {QQ : xP} (hd : 1 ≤ d) {p0 : Int32} {μ : xm} {R : xr} {n : Nat} (hF : xFin R n)  {res : Int32} (h : fX4_minutesOf p0 μ = some res) (hQ : QQ (some (.int res)) (xσ μ R) n) : xCon E d Y_X4_minutesOf 0 0 [.ref (E.2.2.2 + iC_notes), .int p0] (xσ μ R) n QQ := by
  refine xCon_of pn_RX4 (Nat.le_of_ble_eq_true rfl) (L0 := [(0, .ref (E.2.2.2 + iC_notes)), (1, .int p0)]) rfl ?_
  unfold fX4_minutesOf at h
  refine ev_aload_n 0 dX4_minutesOf_0 rfl rfl ?_
  refine ev_iload_n 1 dX4_minutesOf_1 rfl rfl ?_
  obtain ⟨q1, hq1, h⟩ := xbd_some h
  refine ev_callV (ci := 4) (rest := []) 1 (kX4_holds (E := E) (d := 0) (QQ := (fun v τ n' => v = some (.int q1) ∧ τ = xσ μ R ∧ n = n')) (Nat.le_refl _) hF hq1 (⟨rfl, rfl, rfl⟩)) my_X4_holds ⟨m_801, m_794, m_795⟩ cl_4 kd_28 (xl hF rfl) rfl rfl (Nat.le_of_ble_eq_true rfl) (Nat.le_trans (by decide) hd) (xlo (by decide) (Nat.le_trans (by decide) hd)) (Nat.zero_le _) (Nat.zero_le _) dX4_minutesOf_2 (fun v τ n' hv => ?_)
  obtain ⟨rfl, rfl, rfl⟩ := hv
  show Ev E (xcm E d 0 0 QQ) Y_X4_minutesOf 5 [(0, .ref (E.2.2.2 + iC_notes)), (1, .int p0)] [.int q1] (xσ μ R) n 0 0
  refine ev_if_eq (tgt := 17) dX4_minutesOf_5 (by decide) (fun c5 => ?_) (fun c5 => ?_)
  · replace h := xif_t c5 h
    refine ev_iconst (v := 0) dX4_minutesOf_17 (by decide) ?_
    cases h
    exact ev_iret rfl (hQ) dX4_minutesOf_18 (Nat.zero_le _) (Nat.zero_le _)
  · replace h := xif_f c5 h
    refine ev_aload_n 0 dX4_minutesOf_8 rfl rfl ?_
    refine xv_getF (a := iC_notes_minutes) cl_4 lk_RX4_18 kd_28 (xl hF rfl) (fun _ => rfl) (fr_28_2 hF) dX4_minutesOf_9 ?_
    refine ev_iload_n 1 dX4_minutesOf_12 rfl rfl ?_
    obtain ⟨v2, hv2, h⟩ := xbd_some h
    refine xv_iald kd_31 (xl hF rfl) hv2 dX4_minutesOf_13 ?_
    refine ev_goto (tgt := 18) dX4_minutesOf_14 (by decide) ?_
    cases h
    exact ev_iret rfl (hQ) dX4_minutesOf_18 (Nat.zero_le _) (Nat.zero_le _)
def fX4_owerOf (p0 : Int32) (μ : xm) : Option (Int32) := xbd (fX4_holds p0 μ) fun q1 => if q1 = 0 then (some (-1)) else (xbd (xgI μ iC_notes_owers 60 p0) fun v2 => some v2)
set_option maxHeartbeats 4000000 in
set_option maxRecDepth 100000 in
theorem kX4_owerOf {E : xE} {d : Nat} {QQ : xP} (hd : 1 ≤ d) {p0 : Int32} {μ : xm} {R : xr} {n : Nat} (hF : xFin R n)  {res : Int32} (h : fX4_owerOf p0 μ = some res) (hQ : QQ (some (.int res)) (xσ μ R) n) : xCon E d Y_X4_owerOf 0 0 [.ref (E.2.2.2 + iC_notes), .int p0] (xσ μ R) n QQ := by
  refine xCon_of pn_RX4 (Nat.le_of_ble_eq_true rfl) (L0 := [(0, .ref (E.2.2.2 + iC_notes)), (1, .int p0)]) rfl ?_
  unfold fX4_owerOf at h
  refine ev_aload_n 0 dX4_owerOf_0 rfl rfl ?_
  refine ev_iload_n 1 dX4_owerOf_1 rfl rfl ?_
  obtain ⟨q1, hq1, h⟩ := xbd_some h
  refine ev_callV (ci := 4) (rest := []) 1 (kX4_holds (E := E) (d := 0) (QQ := (fun v τ n' => v = some (.int q1) ∧ τ = xσ μ R ∧ n = n')) (Nat.le_refl _) hF hq1 (⟨rfl, rfl, rfl⟩)) my_X4_holds ⟨m_801, m_794, m_795⟩ cl_4 kd_28 (xl hF rfl) rfl rfl (Nat.le_of_ble_eq_true rfl) (Nat.le_trans (by decide) hd) (xlo (by decide) (Nat.le_trans (by decide) hd)) (Nat.zero_le _) (Nat.zero_le _) dX4_owerOf_2 (fun v τ n' hv => ?_)
  obtain ⟨rfl, rfl, rfl⟩ := hv
  show Ev E (xcm E d 0 0 QQ) Y_X4_owerOf 5 [(0, .ref (E.2.2.2 + iC_notes)), (1, .int p0)] [.int q1] (xσ μ R) n 0 0
  refine ev_if_eq (tgt := 17) dX4_owerOf_5 (by decide) (fun c5 => ?_) (fun c5 => ?_)
  · replace h := xif_t c5 h
    refine ev_iconst (v := (-1)) dX4_owerOf_17 (by decide) ?_
    cases h
    exact ev_iret rfl (hQ) dX4_owerOf_18 (Nat.zero_le _) (Nat.zero_le _)
  · replace h := xif_f c5 h
    refine ev_aload_n 0 dX4_owerOf_8 rfl rfl ?_
    refine xv_getF (a := iC_notes_owers) cl_4 lk_RX4_9 kd_28 (xl hF rfl) (fun _ => rfl) (fr_28_0 hF) dX4_owerOf_9 ?_
    refine ev_iload_n 1 dX4_owerOf_12 rfl rfl ?_
    obtain ⟨v2, hv2, h⟩ := xbd_some h
    refine xv_iald kd_29 (xl hF rfl) hv2 dX4_owerOf_13 ?_
    refine ev_goto (tgt := 18) dX4_owerOf_14 (by decide) ?_
    cases h
    exact ev_iret rfl (hQ) dX4_owerOf_18 (Nat.zero_le _) (Nat.zero_le _)
