def fX11_minutesOwed (p0 : Nat) (μ : xm) (R : xr) : Option (Int32 × xm) := xbd (fX1_current μ R) fun q1 => xbd (q1) fun a2 => xbd (fX0_amount a2 111 1440 p0 μ) fun q3 => some (q3.1, q3.2)
set_option maxHeartbeats 4000000 in
set_option maxRecDepth 100000 in
theorem kX11_minutesOwed {E : xE} {d : Nat} {QQ : xP} (hd : 3 ≤ d) {p0 : Nat} {μ : xm} {R : xr} {n : Nat} (hF : xFin R n) (hp0 : xIsA 1 p0 n) {res : Int32 × xm} (h : fX11_minutesOwed p0 μ R = some res) (hQ : QQ (some (.int res.1)) (xσ res.2 R) n) : xCon E d Y_X11_minutesOwed 0 0 [.ref (E.2.2.2 + iC), .ref (E.2.2.2 + p0)] (xσ μ R) n QQ := by
  refine xCon_of pn_RX11 (Nat.le_of_ble_eq_true rfl) (L0 := [(0, .ref (E.2.2.2 + iC)), (1, .ref (E.2.2.2 + p0))]) rfl ?_
  unfold fX11_minutesOwed at h
  refine ev_aload_n 0 dX11_minutesOwed_0 rfl rfl ?_
  refine xv_getF (a := iC_reader) cl_11 lk_RX11_19 kd_0 (xl hF rfl) (fun _ => rfl) (fr_0_1 hF) dX11_minutesOwed_1 ?_
  obtain ⟨q1, hq1, h⟩ := xbd_some h
  refine ev_callV (ci := 1) (rest := []) 0 (kX1_current (E := E) (d := 0) (QQ := (fun v τ n' => v = some (xrf E.2.2.2 q1) ∧ τ = xσ μ R ∧ n = n' ∧ (∀ a, q1 = some a → xIs 0 a n))) (Nat.le_refl _) hF hq1 (fun z0 => ⟨rfl, rfl, rfl, z0⟩)) my_X1_current ⟨m_706, m_707, m_708⟩ cl_1 kd_3 (xl hF rfl) rfl rfl (Nat.le_of_ble_eq_true rfl) (Nat.le_trans (by decide) hd) (xlo (by decide) (Nat.le_trans (by decide) hd)) (Nat.zero_le _) (Nat.zero_le _) dX11_minutesOwed_4 (fun v τ n' hv => ?_)
  obtain ⟨rfl, rfl, rfl, hvq1⟩ := hv
  show Ev E (xcm E d 0 0 QQ) Y_X11_minutesOwed 7 [(0, .ref (E.2.2.2 + iC)), (1, .ref (E.2.2.2 + p0))] [xrf E.2.2.2 q1] (xσ μ R) n 0 0
  obtain ⟨a2, ha2, h⟩ := xbd_some h
  refine xv_nn ha2 ?_
  replace ha2 := hvq1 _ ha2
  refine ev_bipush (v := 111) dX11_minutesOwed_7 (by decide) ?_
  refine ev_sipush (v := 1440) dX11_minutesOwed_9 (by decide) ?_
  refine ev_aload_n 1 dX11_minutesOwed_12 rfl rfl ?_
  obtain ⟨q3, hq3, h⟩ := xbd_some h
  refine ev_callV (ci := 0) (rest := []) 3 (kX0_amount (E := E) (d := 2) (QQ := (fun v τ n' => v = some (.int q3.1) ∧ τ = xσ q3.2 R ∧ n = n')) (Nat.le_refl _) hF ha2 hp0 hq3 (⟨rfl, rfl, rfl⟩)) my_X0_amount ⟨m_710, m_711, m_712⟩ cl_0 (xIs0_kd ha2) (xIs0_lt ha2) rfl rfl (Nat.le_of_ble_eq_true rfl) (Nat.le_trans (by decide) hd) (xlo (by decide) (Nat.le_trans (by decide) hd)) (Nat.zero_le _) (Nat.zero_le _) dX11_minutesOwed_13 (fun v τ n' hv => ?_)
  obtain ⟨rfl, rfl, rfl⟩ := hv
  show Ev E (xcm E d 0 0 QQ) Y_X11_minutesOwed 16 [(0, .ref (E.2.2.2 + iC)), (1, .ref (E.2.2.2 + p0))] [.int q3.1] (xσ q3.2 R) n 0 0
  cases h
  exact ev_iret rfl (hQ) dX11_minutesOwed_16 (Nat.zero_le _) (Nat.zero_le _)
def fX11_owed_j34 (p0 : Int32) (p1 : Int32) (μ : xm) : Option (Int32) := xbd (fX4_sumOf p0 p1 (μ.1 iC 8) μ) fun q3 => some q3
def fX11_owed (p0 : Int32) (p1 : Int32) (μ : xm) : Option (Int32) := xbd (fX11_within p0 (-1) 7) fun q1 => if q1 = 0 then (some (-1)) else (xbd (fX11_within p1 (-1) 7) fun q2 => if q2 = 0 then (some (-1)) else (if p0 = p1 then (if p0 = (-1) then (fX11_owed_j34 p0 p1 μ) else (some (-1))) else (fX11_owed_j34 p0 p1 μ)))
set_option maxHeartbeats 4000000 in
set_option maxRecDepth 100000 in
theorem kX11_owed {E : xE} {d : Nat} {QQ : xP} (hd : 3 ≤ d) {p0 : Int32} {p1 : Int32} {μ : xm} {R : xr} {n : Nat} (hF : xFin R n)  {res : Int32} (h : fX11_owed p0 p1 μ = some res) (hQ : QQ (some (.int res)) (xσ μ R) n) : xCon E d Y_X11_owed 0 0 [.ref (E.2.2.2 + iC), .int p0, .int p1] (xσ μ R) n QQ := by
  refine xCon_of pn_RX11 (Nat.le_of_ble_eq_true rfl) (L0 := [(0, .ref (E.2.2.2 + iC)), (1, .int p0), (2, .int p1)]) rfl ?_
  unfold fX11_owed at h
  refine ev_iload_n 1 dX11_owed_0 rfl rfl ?_
  refine ev_iconst (v := (-1)) dX11_owed_1 (by decide) ?_
  refine ev_bipush (v := 7) dX11_owed_2 (by decide) ?_
  obtain ⟨q1, hq1, h⟩ := xbd_some h
  refine ev_callS (As := [.int p0, .int (-1), .int 7]) (rest := []) 3 (kX11_within (E := E) (d := 0) (QQ := (fun v τ n' => v = some (.int q1) ∧ τ = xσ μ R ∧ n = n')) (Nat.le_refl _)  hq1 (⟨rfl, rfl, rfl⟩)) my_X11_within ⟨m_424, m_425⟩ rfl rfl (Nat.le_of_ble_eq_true rfl) (Nat.le_trans (by decide) hd) (xlo (by decide) (Nat.le_trans (by decide) hd)) (Nat.zero_le _) (Nat.zero_le _) dX11_owed_4 (fun v τ n' hv => ?_)
  obtain ⟨rfl, rfl, rfl⟩ := hv
  show Ev E (xcm E d 0 0 QQ) Y_X11_owed 7 [(0, .ref (E.2.2.2 + iC)), (1, .int p0), (2, .int p1)] [.int q1] (xσ μ R) n 0 0
  refine ev_if_eq (tgt := 20) dX11_owed_7 (by decide) (fun c7 => ?_) (fun c7 => ?_)
  · replace h := xif_t c7 h
    refine ev_iconst (v := (-1)) dX11_owed_20 (by decide) ?_
    cases h
    exact ev_iret rfl (hQ) dX11_owed_21 (Nat.zero_le _) (Nat.zero_le _)
  · replace h := xif_f c7 h
    refine ev_iload_n 2 dX11_owed_10 rfl rfl ?_
    refine ev_iconst (v := (-1)) dX11_owed_11 (by decide) ?_
    refine ev_bipush (v := 7) dX11_owed_12 (by decide) ?_
    obtain ⟨q2, hq2, h⟩ := xbd_some h
    refine ev_callS (As := [.int p1, .int (-1), .int 7]) (rest := []) 3 (kX11_within (E := E) (d := 0) (QQ := (fun v τ n' => v = some (.int q2) ∧ τ = xσ μ R ∧ n = n')) (Nat.le_refl _)  hq2 (⟨rfl, rfl, rfl⟩)) my_X11_within ⟨m_424, m_425⟩ rfl rfl (Nat.le_of_ble_eq_true rfl) (Nat.le_trans (by decide) hd) (xlo (by decide) (Nat.le_trans (by decide) hd)) (Nat.zero_le _) (Nat.zero_le _) dX11_owed_14 (fun v τ n' hv => ?_)
    obtain ⟨rfl, rfl, rfl⟩ := hv
    show Ev E (xcm E d 0 0 QQ) Y_X11_owed 17 [(0, .ref (E.2.2.2 + iC)), (1, .int p0), (2, .int p1)] [.int q2] (xσ μ R) n 0 0
    refine ev_if_ne (tgt := 22) dX11_owed_17 (by decide) (fun c17 => ?_) (fun c17 => ?_)
    · replace h := xif_f c17 h
      refine ev_iload_n 1 dX11_owed_22 rfl rfl ?_
      refine ev_iload_n 2 dX11_owed_23 rfl rfl ?_
      have j34 : fX11_owed_j34 p0 p1 μ = some res → Ev E (xcm E d 0 0 QQ) Y_X11_owed 34 [(0, .ref (E.2.2.2 + iC)), (1, .int p0), (2, .int p1)] [] (xσ μ R) n 0 0 := by
        intro h
        unfold fX11_owed_j34 at h
        refine ev_aload_n 0 dX11_owed_34 rfl rfl ?_
        refine xv_getF (a := iC_notes) cl_11 lk_RX11_42 kd_0 (xl hF rfl) (fun _ => rfl) (fr_0_4 hF) dX11_owed_35 ?_
        refine ev_iload_n 1 dX11_owed_38 rfl rfl ?_
        refine ev_iload_n 2 dX11_owed_39 rfl rfl ?_
        refine ev_aload_n 0 dX11_owed_40 rfl rfl ?_
        refine xv_getI cl_11 lk_RX11_69 kd_0 (xl hF rfl) (fun _ => rfl) dX11_owed_41 ?_
        obtain ⟨q3, hq3, h⟩ := xbd_some h
        refine ev_callV (ci := 4) (rest := []) 3 (kX4_sumOf (E := E) (d := 2) (QQ := (fun v τ n' => v = some (.int q3) ∧ τ = xσ μ R ∧ n = n')) (Nat.le_refl _) hF hq3 (⟨rfl, rfl, rfl⟩)) my_X4_sumOf ⟨m_866, m_867, m_868⟩ cl_4 kd_28 (xl hF rfl) rfl rfl (Nat.le_of_ble_eq_true rfl) (Nat.le_trans (by decide) hd) (xlo (by decide) (Nat.le_trans (by decide) hd)) (Nat.zero_le _) (Nat.zero_le _) dX11_owed_44 (fun v τ n' hv => ?_)
        obtain ⟨rfl, rfl, rfl⟩ := hv
        show Ev E (xcm E d 0 0 QQ) Y_X11_owed 47 [(0, .ref (E.2.2.2 + iC)), (1, .int p0), (2, .int p1)] [.int q3] (xσ μ R) n 0 0
        cases h
        exact ev_iret rfl (hQ) dX11_owed_47 (Nat.zero_le _) (Nat.zero_le _)
      refine ev_icmp_ne (tgt := 34) dX11_owed_24 (by decide) (fun c24 => ?_) (fun c24 => ?_)
      · replace h := xif_f c24 h
        exact ev_sub [0, 1, 2] rfl (j34 h)
      · replace h := xif_t c24 h
        refine ev_iload_n 1 dX11_owed_27 rfl rfl ?_
        refine ev_iconst (v := (-1)) dX11_owed_28 (by decide) ?_
        refine ev_icmp_eq (tgt := 34) dX11_owed_29 (by decide) (fun c29 => ?_) (fun c29 => ?_)
        · replace h := xif_t c29 h
          exact ev_sub [0, 1, 2] rfl (j34 h)
        · replace h := xif_f c29 h
          refine ev_iconst (v := (-1)) dX11_owed_32 (by decide) ?_
          cases h
          exact ev_iret rfl (hQ) dX11_owed_33 (Nat.zero_le _) (Nat.zero_le _)
    · replace h := xif_t c17 h
      refine ev_iconst (v := (-1)) dX11_owed_20 (by decide) ?_
      cases h
      exact ev_iret rfl (hQ) dX11_owed_21 (Nat.zero_le _) (Nat.zero_le _)
def fX11_takings (μ : xm) : Option (Int32 × xm) := xbd (fX7_load (μ.1 iC 8) μ) fun q1 => xbd (fX7_fewestPayments q1) fun q2 => some (q2.1, q2.2)
set_option maxHeartbeats 4000000 in
set_option maxRecDepth 100000 in
theorem kX11_takings {E : xE} {d : Nat} {QQ : xP} (hd : 3 ≤ d)  {μ : xm} {R : xr} {n : Nat} (hF : xFin R n)  {res : Int32 × xm} (h : fX11_takings μ = some res) (hQ : QQ (some (.int res.1)) (xσ res.2 R) n) : xCon E d Y_X11_takings 0 0 [.ref (E.2.2.2 + iC)] (xσ μ R) n QQ := by
  refine xCon_of pn_RX11 (Nat.le_of_ble_eq_true rfl) (L0 := [(0, .ref (E.2.2.2 + iC))]) rfl ?_
  unfold fX11_takings at h
  refine ev_aload_n 0 dX11_takings_0 rfl rfl ?_
  refine xv_getF (a := iC_striking) cl_11 lk_RX11_49 kd_0 (xl hF rfl) (fun _ => rfl) (fr_0_5 hF) dX11_takings_1 ?_
  refine ev_aload_n 0 dX11_takings_4 rfl rfl ?_
  refine xv_getF (a := iC_notes) cl_11 lk_RX11_42 kd_0 (xl hF rfl) (fun _ => rfl) (fr_0_4 hF) dX11_takings_5 ?_
  refine ev_aload_n 0 dX11_takings_8 rfl rfl ?_
  refine xv_getI cl_11 lk_RX11_69 kd_0 (xl hF rfl) (fun _ => rfl) dX11_takings_9 ?_
  obtain ⟨q1, hq1, h⟩ := xbd_some h
  refine ev_callV (ci := 7) (rest := []) 2 (kX7_load (E := E) (d := 2) (QQ := (fun v τ n' => v = none ∧ τ = xσ q1 R ∧ n = n')) (Nat.le_refl _) hF hq1 (⟨rfl, rfl, rfl⟩)) my_X7_load ⟨m_892, m_893, m_894⟩ cl_7 kd_35 (xl hF rfl) rfl rfl (Nat.le_of_ble_eq_true rfl) (Nat.le_trans (by decide) hd) (xlo (by decide) (Nat.le_trans (by decide) hd)) (Nat.zero_le _) (Nat.zero_le _) dX11_takings_12 (fun v τ n' hv => ?_)
  obtain ⟨rfl, rfl, rfl⟩ := hv
  show Ev E (xcm E d 0 0 QQ) Y_X11_takings 15 [(0, .ref (E.2.2.2 + iC))] [] (xσ q1 R) n 0 0
  refine ev_aload_n 0 dX11_takings_15 rfl rfl ?_
  refine xv_getF (a := iC_striking) cl_11 lk_RX11_49 kd_0 (xl hF rfl) (fun _ => rfl) (fr_0_5 hF) dX11_takings_16 ?_
  obtain ⟨q2, hq2, h⟩ := xbd_some h
  refine ev_callV (ci := 7) (rest := []) 0 (kX7_fewestPayments (E := E) (d := 1) (QQ := (fun v τ n' => v = some (.int q2.1) ∧ τ = xσ q2.2 R ∧ n = n')) (Nat.le_refl _) hF hq2 (⟨rfl, rfl, rfl⟩)) my_X7_fewestPayments ⟨m_949, m_950, m_951⟩ cl_7 kd_35 (xl hF rfl) rfl rfl (Nat.le_of_ble_eq_true rfl) (Nat.le_trans (by decide) hd) (xlo (by decide) (Nat.le_trans (by decide) hd)) (Nat.zero_le _) (Nat.zero_le _) dX11_takings_19 (fun v τ n' hv => ?_)
  obtain ⟨rfl, rfl, rfl⟩ := hv
  show Ev E (xcm E d 0 0 QQ) Y_X11_takings 22 [(0, .ref (E.2.2.2 + iC))] [.int q2.1] (xσ q2.2 R) n 0 0
  cases h
  exact ev_iret rfl (hQ) dX11_takings_22 (Nat.zero_le _) (Nat.zero_le _)
def fX3_keptBy_b29 (x4 : Int32) (x5 : Int32) (x6 : Int32) (p1 : Int32) (μ : xm) (R : xr) (a2 : Nat) : Option ((Int32 × Int32 × Int32) ⊕ (Int32)) := if 24 ≤ x6 then (some (.inr x4)) else (xbd (fX3_find x6 μ R) fun q8 => xop q8 (xlt (x6 + 1) fun x10 => some (.inl (x4, x5, x10))) (fun a9 => if (μ.1 a9 1) < x5 then (xlt (x6 + 1) fun x11 => some (.inl (x4, x5, x11))) else (xbd (fX3_didKeep a9 a2 p1 μ) fun q12 => if q12 = 0 then (xlt (x6 + 1) fun x13 => some (.inl (x4, x5, x13))) else (xlt (μ.1 a9 1) fun x14 => xlt (x6 + 1) fun x15 => some (.inl (x6, x14, x15))))))
def fX3_keptBy (p0 : Int32) (p1 : Int32) (μ : xm) (R : xr) : Option (Int32) := xbd (fX3_find p0 μ R) fun q1 => xop q1 (some (-1)) (fun a2 => xbd (fX2_lateness a2 p1 μ) fun q3 => if q3 = 0 then (some (-1)) else (xbd (xloop xfu (fun v => fX3_keptBy_b29 v.1 v.2.1 v.2.2 p1 μ R a2) ((-1), (-1), 0)) fun q16 => some q16))
set_option maxHeartbeats 4000000 in
set_option maxRecDepth 100000 in
theorem kX3_keptBy {E : xE} {d : Nat} {QQ : xP} (hd : 3 ≤ d) {p0 : Int32} {p1 : Int32} {μ : xm} {R : xr} {n : Nat} (hF : xFin R n)  {res : Int32} (h : fX3_keptBy p0 p1 μ R = some res) (hQ : QQ (some (.int res)) (xσ μ R) n) : xCon E d Y_X3_keptBy 0 0 [.ref (E.2.2.2 + iC_meetings), .int p0, .int p1] (xσ μ R) n QQ := by
  refine xCon_of pn_RX3 (Nat.le_of_ble_eq_true rfl) (L0 := [(0, .ref (E.2.2.2 + iC_meetings)), (1, .int p0), (2, .int p1)]) rfl ?_
  unfold fX3_keptBy at h
  refine ev_aload_n 0 dX3_keptBy_0 rfl rfl ?_
  refine ev_iload_n 1 dX3_keptBy_1 rfl rfl ?_
  obtain ⟨q1, hq1, h⟩ := xbd_some h
  refine ev_callV (ci := 3) (rest := []) 1 (kX3_find (E := E) (d := 0) (QQ := (fun v τ n' => v = some (xrf E.2.2.2 q1) ∧ τ = xσ μ R ∧ n = n' ∧ (∀ a, q1 = some a → xIs 2 a n))) (Nat.le_refl _) hF hq1 (fun z0 => ⟨rfl, rfl, rfl, z0⟩)) my_X3_find ⟨m_648, m_492, m_493⟩ cl_3 kd_23 (xl hF rfl) rfl rfl (Nat.le_of_ble_eq_true rfl) (Nat.le_trans (by decide) hd) (xlo (by decide) (Nat.le_trans (by decide) hd)) (Nat.zero_le _) (Nat.zero_le _) dX3_keptBy_2 (fun v τ n' hv => ?_)
  obtain ⟨rfl, rfl, rfl, hvq1⟩ := hv
  show Ev E (xcm E d 0 0 QQ) Y_X3_keptBy 5 [(0, .ref (E.2.2.2 + iC_meetings)), (1, .int p0), (2, .int p1)] [xrf E.2.2.2 q1] (xσ μ R) n 0 0
  refine xv_astore_n (r := q1) (L' := [(3, xrf E.2.2.2 q1), (0, .ref (E.2.2.2 + iC_meetings)), (1, .int p0), (2, .int p1)]) dX3_keptBy_5 rfl (Nat.le_of_ble_eq_true rfl) rfl ?_
  refine xv_aload_n (r := q1) 0 dX3_keptBy_6 rfl rfl ?_
  refine ev_ifnull (r := q1) (tgt := 18) dX3_keptBy_7 (by decide) (fun hr => ?_) (fun a2 hr => ?_)
  · subst hr
    replace h := xop_n h
    refine ev_iconst (v := (-1)) dX3_keptBy_18 (by decide) ?_
    cases h
    exact ev_iret rfl (hQ) dX3_keptBy_19 (Nat.zero_le _) (Nat.zero_le _)
  · subst hr
    replace h := xop_s h
    have ha2 := hvq1 a2 rfl
    refine ev_aload_n 0 dX3_keptBy_10 rfl rfl ?_
    refine ev_iload_n 3 dX3_keptBy_11 rfl rfl ?_
    obtain ⟨q3, hq3, h⟩ := xbd_some h
    refine ev_callV (ci := 2) (rest := []) 1 (kX2_lateness (E := E) (d := 2) (QQ := (fun v τ n' => v = some (.int q3) ∧ τ = xσ μ R ∧ n = n')) (Nat.le_refl _) hF ha2 hq3 (⟨rfl, rfl, rfl⟩)) my_X2_lateness ⟨m_649, m_650, m_651⟩ cl_2 (xIs2_kd ha2) (xIs2_lt ha2) rfl rfl (Nat.le_of_ble_eq_true rfl) (Nat.le_trans (by decide) hd) (xlo (by decide) (Nat.le_trans (by decide) hd)) (Nat.zero_le _) (Nat.zero_le _) dX3_keptBy_12 (fun v τ n' hv => ?_)
    obtain ⟨rfl, rfl, rfl⟩ := hv
    show Ev E (xcm E d 0 0 QQ) Y_X3_keptBy 15 [(3, .ref (E.2.2.2 + a2)), (0, .ref (E.2.2.2 + iC_meetings)), (1, .int p0), (2, .int p1)] [.int q3] (xσ μ R) n 0 0
    refine ev_if_ne (tgt := 20) dX3_keptBy_15 (by decide) (fun c15 => ?_) (fun c15 => ?_)
    · replace h := xif_f c15 h
      refine ev_iconst (v := (-1)) dX3_keptBy_20 (by decide) ?_
      refine xv_istore (L' := [(4, .int (-1)), (3, .ref (E.2.2.2 + a2)), (0, .ref (E.2.2.2 + iC_meetings)), (1, .int p0), (2, .int p1)]) rfl dX3_keptBy_21 (Nat.le_of_ble_eq_true rfl) rfl ?_
      refine ev_iconst (v := (-1)) dX3_keptBy_23 (by decide) ?_
      refine xv_istore (L' := [(5, .int (-1)), (4, .int (-1)), (3, .ref (E.2.2.2 + a2)), (0, .ref (E.2.2.2 + iC_meetings)), (1, .int p0), (2, .int p1)]) rfl dX3_keptBy_24 (Nat.le_of_ble_eq_true rfl) rfl ?_
      refine ev_iconst (v := 0) dX3_keptBy_26 (by decide) ?_
      refine xv_istore (L' := [(6, .int 0), (5, .int (-1)), (4, .int (-1)), (3, .ref (E.2.2.2 + a2)), (0, .ref (E.2.2.2 + iC_meetings)), (1, .int p0), (2, .int p1)]) rfl dX3_keptBy_27 (Nat.le_of_ble_eq_true rfl) rfl ?_
      obtain ⟨q16, hq16, h⟩ := xbd_some h
      refine ev_sub (L' := [(0, .ref (E.2.2.2 + iC_meetings)), (2, .int p1), (3, .ref (E.2.2.2 + a2)), (4, .int (-1)), (5, .int (-1)), (6, .int 0)]) [4, 6, 3, 2, 1, 0] rfl ?_
      refine xloop_run (fun v => Ev E (xcm E d 0 0 QQ) Y_X3_keptBy 29 [(0, .ref (E.2.2.2 + iC_meetings)), (2, .int p1), (3, .ref (E.2.2.2 + a2)), (4, .int v.1), (5, .int v.2.1), (6, .int v.2.2)] [] (xσ μ R) n 0 0) (fun v => Ev E (xcm E d 0 0 QQ) Y_X3_keptBy 89 [(4, .int v)] [] (xσ μ R) n 0 0) ?_ _ _ _ hq16 ?_
      · rintro ⟨x4, x5, x6⟩ y7 h hk
        replace h : fX3_keptBy_b29 x4 x5 x6 p1 μ R a2 = some y7 := h
        show Ev E (xcm E d 0 0 QQ) Y_X3_keptBy 29 [(0, .ref (E.2.2.2 + iC_meetings)), (2, .int p1), (3, .ref (E.2.2.2 + a2)), (4, .int x4), (5, .int x5), (6, .int x6)] [] (xσ μ R) n 0 0
        unfold fX3_keptBy_b29 at h
        refine ev_iload 5 dX3_keptBy_29 rfl ?_
        refine ev_aload_n 0 dX3_keptBy_31 rfl rfl ?_
        refine xv_getF (a := iC_meetings_list) cl_3 lk_RX3_11 kd_23 (xl hF rfl) (fun _ => rfl) (fr_23_1 hF) dX3_keptBy_32 ?_
        refine ev_alen (v := 24) 4 (by decide) kd_24 (xl hF rfl) rfl dX3_keptBy_35 ?_
        refine ev_icmp_ge (tgt := 89) dX3_keptBy_36 (by decide) (fun c36 => ?_) (fun c36 => ?_)
        · replace h := xif_t c36 h
          cases h
          replace hk := xel_r hk
          exact ev_sub [3] rfl (hk)
        · replace h := xif_f c36 h
          refine ev_aload_n 0 dX3_keptBy_39 rfl rfl ?_
          refine ev_iload 5 dX3_keptBy_40 rfl ?_
          obtain ⟨q8, hq8, h⟩ := xbd_some h
          refine ev_callV (ci := 3) (rest := []) 1 (kX3_find (E := E) (d := 0) (QQ := (fun v τ n' => v = some (xrf E.2.2.2 q8) ∧ τ = xσ μ R ∧ n = n' ∧ (∀ a, q8 = some a → xIs 2 a n))) (Nat.le_refl _) hF hq8 (fun z0 => ⟨rfl, rfl, rfl, z0⟩)) my_X3_find ⟨m_648, m_492, m_493⟩ cl_3 kd_23 (xl hF rfl) rfl rfl (Nat.le_of_ble_eq_true rfl) (Nat.le_trans (by decide) hd) (xlo (by decide) (Nat.le_trans (by decide) hd)) (Nat.zero_le _) (Nat.zero_le _) dX3_keptBy_42 (fun v τ n' hv => ?_)
          obtain ⟨rfl, rfl, rfl, hvq8⟩ := hv
          show Ev E (xcm E d 0 0 QQ) Y_X3_keptBy 45 [(0, .ref (E.2.2.2 + iC_meetings)), (2, .int p1), (3, .ref (E.2.2.2 + a2)), (4, .int x4), (5, .int x5), (6, .int x6)] [xrf E.2.2.2 q8] (xσ μ R) n 0 0
          refine xv_astore (r := q8) (L' := [(7, xrf E.2.2.2 q8), (0, .ref (E.2.2.2 + iC_meetings)), (2, .int p1), (3, .ref (E.2.2.2 + a2)), (4, .int x4), (5, .int x5), (6, .int x6)]) dX3_keptBy_45 (Nat.le_of_ble_eq_true rfl) rfl ?_
          refine xv_aload (r := q8) 0 dX3_keptBy_47 rfl ?_
          refine ev_ifnull (r := q8) (tgt := 83) dX3_keptBy_49 (by decide) (fun hr => ?_) (fun a9 hr => ?_)
          · subst hr
            replace h := xop_n h
            obtain ⟨x10, hx10, h⟩ := xlt_some h
            refine ev_iinc (L' := [(6, .int x10), (7, .null), (0, .ref (E.2.2.2 + iC_meetings)), (2, .int p1), (3, .ref (E.2.2.2 + a2)), (4, .int x4), (5, .int x5)]) 6 dX3_keptBy_83 rfl ((by rfl : x6 + Int32.ofInt 1 = x6 + 1).trans hx10) (Nat.le_of_ble_eq_true rfl) rfl ?_
            refine ev_goto (tgt := 29) dX3_keptBy_86 (by decide) ?_
            cases h
            replace hk := xel_l hk
            exact ev_sub [2, 3, 4, 5, 6, 0] rfl (hk)
          · subst hr
            replace h := xop_s h
            have ha9 := hvq8 a9 rfl
            refine ev_aload 0 dX3_keptBy_52 rfl ?_
            refine xv_getIN cl_2 ln_RX3_57 (xIs2_kd ha9) (xIs2_lt ha9) (fun _ => rfl) dX3_keptBy_54 ?_
            refine ev_iload 5 dX3_keptBy_57 rfl ?_
            refine ev_icmp_lt (tgt := 83) dX3_keptBy_59 (by decide) (fun c59 => ?_) (fun c59 => ?_)
            · replace h := xif_t c59 h
              obtain ⟨x11, hx11, h⟩ := xlt_some h
              refine ev_iinc (L' := [(6, .int x11), (7, .ref (E.2.2.2 + a9)), (0, .ref (E.2.2.2 + iC_meetings)), (2, .int p1), (3, .ref (E.2.2.2 + a2)), (4, .int x4), (5, .int x5)]) 6 dX3_keptBy_83 rfl ((by rfl : x6 + Int32.ofInt 1 = x6 + 1).trans hx11) (Nat.le_of_ble_eq_true rfl) rfl ?_
              refine ev_goto (tgt := 29) dX3_keptBy_86 (by decide) ?_
              cases h
              replace hk := xel_l hk
              exact ev_sub [2, 3, 4, 5, 6, 0] rfl (hk)
            · replace h := xif_f c59 h
              refine ev_aload 0 dX3_keptBy_62 rfl ?_
              refine ev_aload_n 3 dX3_keptBy_64 rfl rfl ?_
              refine ev_iload_n 2 dX3_keptBy_65 rfl rfl ?_
              obtain ⟨q12, hq12, h⟩ := xbd_some h
              refine ev_callS (As := [.ref (E.2.2.2 + a9), .ref (E.2.2.2 + a2), .int p1]) (rest := []) 3 (kX3_didKeep (E := E) (d := 2) (QQ := (fun v τ n' => v = some (.int q12) ∧ τ = xσ μ R ∧ n = n')) (Nat.le_refl _) hF ha9 ha2 hq12 (⟨rfl, rfl, rfl⟩)) my_X3_didKeep ⟨m_653, m_654⟩ rfl rfl (Nat.le_of_ble_eq_true rfl) (Nat.le_trans (by decide) hd) (xlo (by decide) (Nat.le_trans (by decide) hd)) (Nat.zero_le _) (Nat.zero_le _) dX3_keptBy_66 (fun v τ n' hv => ?_)
              obtain ⟨rfl, rfl, rfl⟩ := hv
              show Ev E (xcm E d 0 0 QQ) Y_X3_keptBy 69 [(7, .ref (E.2.2.2 + a9)), (0, .ref (E.2.2.2 + iC_meetings)), (2, .int p1), (3, .ref (E.2.2.2 + a2)), (4, .int x4), (5, .int x5), (6, .int x6)] [.int q12] (xσ μ R) n 0 0
              refine ev_if_eq (tgt := 83) dX3_keptBy_69 (by decide) (fun c69 => ?_) (fun c69 => ?_)
              · replace h := xif_t c69 h
                obtain ⟨x13, hx13, h⟩ := xlt_some h
                refine ev_iinc (L' := [(6, .int x13), (7, .ref (E.2.2.2 + a9)), (0, .ref (E.2.2.2 + iC_meetings)), (2, .int p1), (3, .ref (E.2.2.2 + a2)), (4, .int x4), (5, .int x5)]) 6 dX3_keptBy_83 rfl ((by rfl : x6 + Int32.ofInt 1 = x6 + 1).trans hx13) (Nat.le_of_ble_eq_true rfl) rfl ?_
                refine ev_goto (tgt := 29) dX3_keptBy_86 (by decide) ?_
                cases h
                replace hk := xel_l hk
                exact ev_sub [2, 3, 4, 5, 6, 0] rfl (hk)
              · replace h := xif_f c69 h
                refine ev_iload 6 dX3_keptBy_72 rfl ?_
                refine xv_istore (L' := [(4, .int x6), (7, .ref (E.2.2.2 + a9)), (0, .ref (E.2.2.2 + iC_meetings)), (2, .int p1), (3, .ref (E.2.2.2 + a2)), (5, .int x5), (6, .int x6)]) rfl dX3_keptBy_74 (Nat.le_of_ble_eq_true rfl) rfl ?_
                refine ev_aload 1 dX3_keptBy_76 rfl ?_
                refine xv_getIN cl_2 ln_RX3_57 (xIs2_kd ha9) (xIs2_lt ha9) (fun _ => rfl) dX3_keptBy_78 ?_
                obtain ⟨x14, hx14, h⟩ := xlt_some h
                refine xv_istore (L' := [(5, .int x14), (4, .int x6), (7, .ref (E.2.2.2 + a9)), (0, .ref (E.2.2.2 + iC_meetings)), (2, .int p1), (3, .ref (E.2.2.2 + a2)), (6, .int x6)]) hx14 dX3_keptBy_81 (Nat.le_of_ble_eq_true rfl) rfl ?_
                obtain ⟨x15, hx15, h⟩ := xlt_some h
                refine ev_iinc (L' := [(6, .int x15), (5, .int x14), (4, .int x6), (7, .ref (E.2.2.2 + a9)), (0, .ref (E.2.2.2 + iC_meetings)), (2, .int p1), (3, .ref (E.2.2.2 + a2))]) 6 dX3_keptBy_83 rfl ((by rfl : x6 + Int32.ofInt 1 = x6 + 1).trans hx15) (Nat.le_of_ble_eq_true rfl) rfl ?_
                refine ev_goto (tgt := 29) dX3_keptBy_86 (by decide) ?_
                cases h
                replace hk := xel_l hk
                exact ev_sub [4, 5, 6, 2, 1, 0] rfl (hk)
      · show Ev E (xcm E d 0 0 QQ) Y_X3_keptBy 89 [(4, .int q16)] [] (xσ μ R) n 0 0
        refine ev_iload 0 dX3_keptBy_89 rfl ?_
        cases h
        exact ev_iret rfl (hQ) dX3_keptBy_91 (Nat.zero_le _) (Nat.zero_le _)
    · replace h := xif_t c15 h
      refine ev_iconst (v := (-1)) dX3_keptBy_18 (by decide) ?_
      cases h
      exact ev_iret rfl (hQ) dX3_keptBy_19 (Nat.zero_le _) (Nat.zero_le _)
def fX3_waitedAtSettled_b4 (x1 : Int32) (x2 : Int32) (μ : xm) (R : xr) : Option ((Int32 × Int32) ⊕ (Int32)) := if 24 ≤ x2 then (some (.inr x1)) else (xbd (fX3_find x2 μ R) fun q4 => xop q4 (xlt (x2 + 1) fun x6 => some (.inl (x1, x6))) (fun a5 => xbd (fX2_isSettled a5 μ) fun q7 => if q7 = 0 then (xlt (x2 + 1) fun x8 => some (.inl (x1, x8))) else (xbd (fX2_waitedByAll a5 μ) fun q9 => xlt (x1 + q9) fun x10 => xlt (x2 + 1) fun x11 => some (.inl (x10, x11)))))
def fX3_waitedAtSettled (μ : xm) (R : xr) : Option (Int32) := xbd (xloop xfu (fun v => fX3_waitedAtSettled_b4 v.1 v.2 μ R) (0, 0)) fun q12 => some q12
set_option maxHeartbeats 4000000 in
set_option maxRecDepth 100000 in
theorem kX3_waitedAtSettled {E : xE} {d : Nat} {QQ : xP} (hd : 3 ≤ d)  {μ : xm} {R : xr} {n : Nat} (hF : xFin R n)  {res : Int32} (h : fX3_waitedAtSettled μ R = some res) (hQ : QQ (some (.int res)) (xσ μ R) n) : xCon E d Y_X3_waitedAtSettled 0 0 [.ref (E.2.2.2 + iC_meetings)] (xσ μ R) n QQ := by
  refine xCon_of pn_RX3 (Nat.le_of_ble_eq_true rfl) (L0 := [(0, .ref (E.2.2.2 + iC_meetings))]) rfl ?_
  unfold fX3_waitedAtSettled at h
  refine ev_iconst (v := 0) dX3_waitedAtSettled_0 (by decide) ?_
  refine xv_istore_n (L' := [(1, .int 0), (0, .ref (E.2.2.2 + iC_meetings))]) rfl dX3_waitedAtSettled_1 rfl (Nat.le_of_ble_eq_true rfl) rfl ?_
  refine ev_iconst (v := 0) dX3_waitedAtSettled_2 (by decide) ?_
  refine xv_istore_n (L' := [(2, .int 0), (1, .int 0), (0, .ref (E.2.2.2 + iC_meetings))]) rfl dX3_waitedAtSettled_3 rfl (Nat.le_of_ble_eq_true rfl) rfl ?_
  obtain ⟨q12, hq12, h⟩ := xbd_some h
  refine ev_sub (L' := [(0, .ref (E.2.2.2 + iC_meetings)), (1, .int 0), (2, .int 0)]) [2, 1, 0] rfl ?_
  refine xloop_run (fun v => Ev E (xcm E d 0 0 QQ) Y_X3_waitedAtSettled 4 [(0, .ref (E.2.2.2 + iC_meetings)), (1, .int v.1), (2, .int v.2)] [] (xσ μ R) n 0 0) (fun v => Ev E (xcm E d 0 0 QQ) Y_X3_waitedAtSettled 43 [(1, .int v)] [] (xσ μ R) n 0 0) ?_ _ _ _ hq12 ?_
  · rintro ⟨x1, x2⟩ y3 h hk
    replace h : fX3_waitedAtSettled_b4 x1 x2 μ R = some y3 := h
    show Ev E (xcm E d 0 0 QQ) Y_X3_waitedAtSettled 4 [(0, .ref (E.2.2.2 + iC_meetings)), (1, .int x1), (2, .int x2)] [] (xσ μ R) n 0 0
    unfold fX3_waitedAtSettled_b4 at h
    refine ev_iload_n 2 dX3_waitedAtSettled_4 rfl rfl ?_
    refine ev_aload_n 0 dX3_waitedAtSettled_5 rfl rfl ?_
    refine xv_getF (a := iC_meetings_list) cl_3 lk_RX3_11 kd_23 (xl hF rfl) (fun _ => rfl) (fr_23_1 hF) dX3_waitedAtSettled_6 ?_
    refine ev_alen (v := 24) 4 (by decide) kd_24 (xl hF rfl) rfl dX3_waitedAtSettled_9 ?_
    refine ev_icmp_ge (tgt := 43) dX3_waitedAtSettled_10 (by decide) (fun c10 => ?_) (fun c10 => ?_)
    · replace h := xif_t c10 h
      cases h
      replace hk := xel_r hk
      exact ev_sub [1] rfl (hk)
    · replace h := xif_f c10 h
      refine ev_aload_n 0 dX3_waitedAtSettled_13 rfl rfl ?_
      refine ev_iload_n 2 dX3_waitedAtSettled_14 rfl rfl ?_
      obtain ⟨q4, hq4, h⟩ := xbd_some h
      refine ev_callV (ci := 3) (rest := []) 1 (kX3_find (E := E) (d := 0) (QQ := (fun v τ n' => v = some (xrf E.2.2.2 q4) ∧ τ = xσ μ R ∧ n = n' ∧ (∀ a, q4 = some a → xIs 2 a n))) (Nat.le_refl _) hF hq4 (fun z0 => ⟨rfl, rfl, rfl, z0⟩)) my_X3_find ⟨m_648, m_492, m_493⟩ cl_3 kd_23 (xl hF rfl) rfl rfl (Nat.le_of_ble_eq_true rfl) (Nat.le_trans (by decide) hd) (xlo (by decide) (Nat.le_trans (by decide) hd)) (Nat.zero_le _) (Nat.zero_le _) dX3_waitedAtSettled_15 (fun v τ n' hv => ?_)
      obtain ⟨rfl, rfl, rfl, hvq4⟩ := hv
      show Ev E (xcm E d 0 0 QQ) Y_X3_waitedAtSettled 18 [(0, .ref (E.2.2.2 + iC_meetings)), (1, .int x1), (2, .int x2)] [xrf E.2.2.2 q4] (xσ μ R) n 0 0
      refine xv_astore_n (r := q4) (L' := [(3, xrf E.2.2.2 q4), (0, .ref (E.2.2.2 + iC_meetings)), (1, .int x1), (2, .int x2)]) dX3_waitedAtSettled_18 rfl (Nat.le_of_ble_eq_true rfl) rfl ?_
      refine xv_aload_n (r := q4) 0 dX3_waitedAtSettled_19 rfl rfl ?_
      refine ev_ifnull (r := q4) (tgt := 37) dX3_waitedAtSettled_20 (by decide) (fun hr => ?_) (fun a5 hr => ?_)
      · subst hr
        replace h := xop_n h
        obtain ⟨x6, hx6, h⟩ := xlt_some h
        refine ev_iinc (L' := [(2, .int x6), (3, .null), (0, .ref (E.2.2.2 + iC_meetings)), (1, .int x1)]) 3 dX3_waitedAtSettled_37 rfl ((by rfl : x2 + Int32.ofInt 1 = x2 + 1).trans hx6) (Nat.le_of_ble_eq_true rfl) rfl ?_
        refine ev_goto (tgt := 4) dX3_waitedAtSettled_40 (by decide) ?_
        cases h
        replace hk := xel_l hk
        exact ev_sub [2, 3, 0] rfl (hk)
      · subst hr
        replace h := xop_s h
        have ha5 := hvq4 a5 rfl
        refine ev_aload_n 0 dX3_waitedAtSettled_23 rfl rfl ?_
        obtain ⟨q7, hq7, h⟩ := xbd_some h
        refine ev_callV (ci := 2) (rest := []) 0 (kX2_isSettled (E := E) (d := 0) (QQ := (fun v τ n' => v = some (.int q7) ∧ τ = xσ μ R ∧ n = n')) (Nat.le_refl _) hF ha5 hq7 (⟨rfl, rfl, rfl⟩)) my_X2_isSettled ⟨m_1168, m_496, m_497⟩ cl_2 (xIs2_kd ha5) (xIs2_lt ha5) rfl rfl (Nat.le_of_ble_eq_true rfl) (Nat.le_trans (by decide) hd) (xlo (by decide) (Nat.le_trans (by decide) hd)) (Nat.zero_le _) (Nat.zero_le _) dX3_waitedAtSettled_24 (fun v τ n' hv => ?_)
        obtain ⟨rfl, rfl, rfl⟩ := hv
        show Ev E (xcm E d 0 0 QQ) Y_X3_waitedAtSettled 27 [(3, .ref (E.2.2.2 + a5)), (0, .ref (E.2.2.2 + iC_meetings)), (1, .int x1), (2, .int x2)] [.int q7] (xσ μ R) n 0 0
        refine ev_if_eq (tgt := 37) dX3_waitedAtSettled_27 (by decide) (fun c27 => ?_) (fun c27 => ?_)
        · replace h := xif_t c27 h
          obtain ⟨x8, hx8, h⟩ := xlt_some h
          refine ev_iinc (L' := [(2, .int x8), (3, .ref (E.2.2.2 + a5)), (0, .ref (E.2.2.2 + iC_meetings)), (1, .int x1)]) 3 dX3_waitedAtSettled_37 rfl ((by rfl : x2 + Int32.ofInt 1 = x2 + 1).trans hx8) (Nat.le_of_ble_eq_true rfl) rfl ?_
          refine ev_goto (tgt := 4) dX3_waitedAtSettled_40 (by decide) ?_
          cases h
          replace hk := xel_l hk
          exact ev_sub [2, 3, 0] rfl (hk)
        · replace h := xif_f c27 h
          refine ev_iload_n 2 dX3_waitedAtSettled_30 rfl rfl ?_
          refine ev_aload_n 0 dX3_waitedAtSettled_31 rfl rfl ?_
          obtain ⟨q9, hq9, h⟩ := xbd_some h
          refine ev_callV (ci := 2) (rest := [.int x1]) 0 (kX2_waitedByAll (E := E) (d := 2) (QQ := (fun v τ n' => v = some (.int q9) ∧ τ = xσ μ R ∧ n = n')) (Nat.le_refl _) hF ha5 hq9 (⟨rfl, rfl, rfl⟩)) my_X2_waitedByAll ⟨m_1169, m_1170, m_1171⟩ cl_2 (xIs2_kd ha5) (xIs2_lt ha5) rfl rfl (Nat.le_of_ble_eq_true rfl) (Nat.le_trans (by decide) hd) (xlo (by decide) (Nat.le_trans (by decide) hd)) (Nat.zero_le _) (Nat.zero_le _) dX3_waitedAtSettled_32 (fun v τ n' hv => ?_)
          obtain ⟨rfl, rfl, rfl⟩ := hv
          show Ev E (xcm E d 0 0 QQ) Y_X3_waitedAtSettled 35 [(3, .ref (E.2.2.2 + a5)), (0, .ref (E.2.2.2 + iC_meetings)), (1, .int x1), (2, .int x2)] [.int q9, .int x1] (xσ μ R) n 0 0
          refine ev_iadd dX3_waitedAtSettled_35 ?_
          obtain ⟨x10, hx10, h⟩ := xlt_some h
          refine xv_istore_n (L' := [(1, .int x10), (3, .ref (E.2.2.2 + a5)), (0, .ref (E.2.2.2 + iC_meetings)), (2, .int x2)]) hx10 dX3_waitedAtSettled_36 rfl (Nat.le_of_ble_eq_true rfl) rfl ?_
          obtain ⟨x11, hx11, h⟩ := xlt_some h
          refine ev_iinc (L' := [(2, .int x11), (1, .int x10), (3, .ref (E.2.2.2 + a5)), (0, .ref (E.2.2.2 + iC_meetings))]) 3 dX3_waitedAtSettled_37 rfl ((by rfl : x2 + Int32.ofInt 1 = x2 + 1).trans hx11) (Nat.le_of_ble_eq_true rfl) rfl ?_
          refine ev_goto (tgt := 4) dX3_waitedAtSettled_40 (by decide) ?_
          cases h
          replace hk := xel_l hk
          exact ev_sub [3, 1, 0] rfl (hk)
  · show Ev E (xcm E d 0 0 QQ) Y_X3_waitedAtSettled 43 [(1, .int q12)] [] (xσ μ R) n 0 0
    refine ev_iload_n 0 dX3_waitedAtSettled_43 rfl rfl ?_
    cases h
    exact ev_iret rfl (hQ) dX3_waitedAtSettled_44 (Nat.zero_le _) (Nat.zero_le _)
def fX4_callIn_b13 (x2 : Int32) (μ3 : xm) (p0 : Int32) (p2 : Int32) (x1 : Int32) : Option ((Int32 × xm) ⊕ (xm)) := if x1 < x2 then (some (.inr μ3)) else (if 7 ≤ x2 then (some (.inr μ3)) else (xbd (fX4_sumOf (-1) p0 (p2 + x2) μ3) fun q5 => xbd (xsI μ3 iC_notes_free 7 x2 q5) fun μ6 => xlt (x2 + 1) fun x7 => some (.inl (x7, μ6))))
def fX4_callIn_j153 (x25 : Int32) (x10 : Int32) (x21 : Int64) (x22 : Int32) (μ23 : xm) : Option ((Int64 × Int32 × xm) ⊕ (Int64 × xm)) := xbd (fX4_useOn x22 x25 μ23) fun q26 => xlt (x21 + (x10.toInt64 * q26.1.toInt64)) fun x27 => xlt (x22 + 1) fun x28 => some (.inl (x27, x28, q26.2))
def fX4_callIn_b116 (x21 : Int64) (x22 : Int32) (μ23 : xm) (x1 : Int32) (x10 : Int32) (x20 : Int32) : Option ((Int64 × Int32 × xm) ⊕ (Int64 × xm)) := if x1 < x22 then (some (.inr (x21, μ23))) else (if 7 ≤ x22 then (some (.inr (x21, μ23))) else (if x22 = 0 then (fX4_callIn_j153 x20 x10 x21 x22 μ23) else (fX4_callIn_j153 60 x10 x21 x22 μ23)))
def fX4_callIn_b77 (x14 : Int64) (x15 : Int32) (μ16 : xm) (p0 : Int32) (x1 : Int32) (x10 : Int32) : Option ((Int64 × Int32 × xm) ⊕ (Int64 × xm)) := if 24 ≤ x15 then (some (.inr (x14, μ16))) else (xbd (fX5_worthAt p0 x15 μ16) fun q18 => if q18 = x10 then (xbd (fX5_takenIn p0 x15 μ16) fun q19 => xlt (60 - q19) fun x20 => xbd (xloop xfu (fun v => fX4_callIn_b116 v.1 v.2.1 v.2.2 x1 x10 x20) (x14, 0, μ16)) fun q29 => xlt (x15 + 1) fun x30 => some (.inl (q29.1, x30, q29.2))) else (xlt (x15 + 1) fun x31 => some (.inl (x14, x31, μ16))))
def fX4_callIn_b60 (x9 : Int64) (x10 : Int32) (μ11 : xm) (p0 : Int32) (x1 : Int32) : Option ((Int64 × Int32 × xm) ⊕ (Int64 × xm)) := if x10 ≤ 0 then (some (.inr (x9, μ11))) else (xbd (xgI μ11 iC_notes_free 7 0) fun v13 => if v13 ≤ 0 then (some (.inr (x9, μ11))) else (xbd (xloop xfu (fun v => fX4_callIn_b77 v.1 v.2.1 v.2.2 p0 x1 x10) (x9, 0, μ11)) fun q32 => xlt (x10 + (-1)) fun x33 => some (.inl (q32.1, x33, q32.2))))
def fX4_callIn (p0 : Int32) (p1 : Int32) (p2 : Int32) (μ : xm) : Option (Int64 × xm) := xlt (xmin p1 (99 - p2)) fun x1 => xbd (xloop xfu (fun v => fX4_callIn_b13 v.1 v.2 p0 p2 x1) (0, μ)) fun q8 => xbd (xloop xfu (fun v => fX4_callIn_b60 v.1 v.2.1 v.2.2 p0 x1) (0, 99, q8)) fun q34 => some (q34.1, q34.2)
set_option maxHeartbeats 4000000 in
set_option maxRecDepth 100000 in
theorem kX4_callIn {E : xE} {d : Nat} {QQ : xP} (hd : 3 ≤ d) {p0 : Int32} {p1 : Int32} {p2 : Int32} {μ : xm} {R : xr} {n : Nat} (hF : xFin R n)  {res : Int64 × xm} (h : fX4_callIn p0 p1 p2 μ = some res) (hQ : QQ (some (.long res.1)) (xσ res.2 R) n) : xCon E d Y_X4_callIn 0 0 [.ref (E.2.2.2 + iC_notes), .int p0, .int p1, .int p2, .ref (E.2.2.2 + iC_people)] (xσ μ R) n QQ := by
  refine xCon_of pn_RX4 (Nat.le_of_ble_eq_true rfl) (L0 := [(0, .ref (E.2.2.2 + iC_notes)), (1, .int p0), (2, .int p1), (3, .int p2), (4, .ref (E.2.2.2 + iC_people))]) rfl ?_
  unfold fX4_callIn at h
  refine ev_iload_n 2 dX4_callIn_0 rfl rfl ?_
  refine ev_bipush (v := 99) dX4_callIn_1 (by decide) ?_
  refine ev_iload_n 3 dX4_callIn_3 rfl rfl ?_
  refine ev_isub dX4_callIn_4 ?_
  refine ev_mmin ⟨m_880, m_531, m_124, m_532⟩ (Nat.le_trans (by decide) hd) (xlo2 (Nat.le_trans (by decide) hd)) (Nat.le_of_ble_eq_true rfl) (Nat.zero_le _) (Nat.zero_le _) dX4_callIn_5 ?_
  obtain ⟨x1, hx1, h⟩ := xlt_some h
  refine xv_istore (L' := [(5, .int x1), (0, .ref (E.2.2.2 + iC_notes)), (1, .int p0), (2, .int p1), (3, .int p2), (4, .ref (E.2.2.2 + iC_people))]) hx1 dX4_callIn_8 (Nat.le_of_ble_eq_true rfl) rfl ?_
  refine ev_iconst (v := 0) dX4_callIn_10 (by decide) ?_
  refine xv_istore (L' := [(6, .int 0), (5, .int x1), (0, .ref (E.2.2.2 + iC_notes)), (1, .int p0), (2, .int p1), (3, .int p2), (4, .ref (E.2.2.2 + iC_people))]) rfl dX4_callIn_11 (Nat.le_of_ble_eq_true rfl) rfl ?_
  obtain ⟨q8, hq8, h⟩ := xbd_some h
  refine ev_sub (L' := [(0, .ref (E.2.2.2 + iC_notes)), (1, .int p0), (3, .int p2), (4, .ref (E.2.2.2 + iC_people)), (5, .int x1), (6, .int 0)]) [2, 3, 5, 6, 1, 0] rfl ?_
  refine xloop_run (fun v => Ev E (xcm E d 0 0 QQ) Y_X4_callIn 13 [(0, .ref (E.2.2.2 + iC_notes)), (1, .int p0), (3, .int p2), (4, .ref (E.2.2.2 + iC_people)), (5, .int x1), (6, .int v.1)] [] (xσ v.2 R) n 0 0) (fun v => Ev E (xcm E d 0 0 QQ) Y_X4_callIn 53 [(0, .ref (E.2.2.2 + iC_notes)), (1, .int p0), (4, .ref (E.2.2.2 + iC_people)), (5, .int x1)] [] (xσ v R) n 0 0) ?_ _ _ _ hq8 ?_
  · rintro ⟨x2, μ3⟩ y4 h hk
    replace h : fX4_callIn_b13 x2 μ3 p0 p2 x1 = some y4 := h
    show Ev E (xcm E d 0 0 QQ) Y_X4_callIn 13 [(0, .ref (E.2.2.2 + iC_notes)), (1, .int p0), (3, .int p2), (4, .ref (E.2.2.2 + iC_people)), (5, .int x1), (6, .int x2)] [] (xσ μ3 R) n 0 0
    unfold fX4_callIn_b13 at h
    refine ev_iload 5 dX4_callIn_13 rfl ?_
    refine ev_iload 4 dX4_callIn_15 rfl ?_
    refine ev_icmp_gt (tgt := 53) dX4_callIn_17 (by decide) (fun c17 => ?_) (fun c17 => ?_)
    · replace h := xif_t c17 h
      cases h
      replace hk := xel_r hk
      exact ev_sub [0, 1, 3, 4] rfl (hk)
    · replace h := xif_f c17 h
      refine ev_iload 5 dX4_callIn_20 rfl ?_
      refine ev_aload_n 0 dX4_callIn_22 rfl rfl ?_
      refine xv_getF (a := iC_notes_free) cl_4 lk_RX4_27 kd_28 (xl hF rfl) (fun _ => rfl) (fr_28_5 hF) dX4_callIn_23 ?_
      refine ev_alen (v := 7) 0 (by decide) kd_34 (xl hF rfl) rfl dX4_callIn_26 ?_
      refine ev_icmp_ge (tgt := 53) dX4_callIn_27 (by decide) (fun c27 => ?_) (fun c27 => ?_)
      · replace h := xif_t c27 h
        cases h
        replace hk := xel_r hk
        exact ev_sub [0, 1, 3, 4] rfl (hk)
      · replace h := xif_f c27 h
        refine ev_aload_n 0 dX4_callIn_30 rfl rfl ?_
        refine xv_getF (a := iC_notes_free) cl_4 lk_RX4_27 kd_28 (xl hF rfl) (fun _ => rfl) (fr_28_5 hF) dX4_callIn_31 ?_
        refine ev_iload 5 dX4_callIn_34 rfl ?_
        refine ev_aload_n 0 dX4_callIn_36 rfl rfl ?_
        refine ev_iconst (v := (-1)) dX4_callIn_37 (by decide) ?_
        refine ev_iload_n 1 dX4_callIn_38 rfl rfl ?_
        refine ev_iload_n 2 dX4_callIn_39 rfl rfl ?_
        refine ev_iload 5 dX4_callIn_40 rfl ?_
        refine ev_iadd dX4_callIn_42 ?_
        obtain ⟨q5, hq5, h⟩ := xbd_some h
        refine ev_callV (ci := 4) (rest := [.int x2, .ref (E.2.2.2 + iC_notes_free)]) 3 (kX4_sumOf (E := E) (d := 2) (QQ := (fun v τ n' => v = some (.int q5) ∧ τ = xσ μ3 R ∧ n = n')) (Nat.le_refl _) hF hq5 (⟨rfl, rfl, rfl⟩)) my_X4_sumOf ⟨m_881, m_867, m_868⟩ cl_4 kd_28 (xl hF rfl) rfl rfl (Nat.le_of_ble_eq_true rfl) (Nat.le_trans (by decide) hd) (xlo (by decide) (Nat.le_trans (by decide) hd)) (Nat.zero_le _) (Nat.zero_le _) dX4_callIn_43 (fun v τ n' hv => ?_)
        obtain ⟨rfl, rfl, rfl⟩ := hv
        show Ev E (xcm E d 0 0 QQ) Y_X4_callIn 46 [(0, .ref (E.2.2.2 + iC_notes)), (1, .int p0), (3, .int p2), (4, .ref (E.2.2.2 + iC_people)), (5, .int x1), (6, .int x2)] [.int q5, .int x2, .ref (E.2.2.2 + iC_notes_free)] (xσ μ3 R) n 0 0
        obtain ⟨μ6, hμ6, h⟩ := xbd_some h
        refine xv_iast kd_34 (xl hF rfl) hμ6 dX4_callIn_46 ?_
        obtain ⟨x7, hx7, h⟩ := xlt_some h
        refine ev_iinc (L' := [(6, .int x7), (0, .ref (E.2.2.2 + iC_notes)), (1, .int p0), (3, .int p2), (4, .ref (E.2.2.2 + iC_people)), (5, .int x1)]) 5 dX4_callIn_47 rfl ((by rfl : x2 + Int32.ofInt 1 = x2 + 1).trans hx7) (Nat.le_of_ble_eq_true rfl) rfl ?_
        refine ev_goto (tgt := 13) dX4_callIn_50 (by decide) ?_
        cases h
        replace hk := xel_l hk
        exact ev_sub [1, 2, 3, 4, 5, 0] rfl (hk)
  · show Ev E (xcm E d 0 0 QQ) Y_X4_callIn 53 [(0, .ref (E.2.2.2 + iC_notes)), (1, .int p0), (4, .ref (E.2.2.2 + iC_people)), (5, .int x1)] [] (xσ q8 R) n 0 0
    refine ev_lconst (v := 0) dX4_callIn_53 (by decide) ?_
    refine xv_lstore (L' := [(6, .long 0), (0, .ref (E.2.2.2 + iC_notes)), (1, .int p0), (4, .ref (E.2.2.2 + iC_people)), (5, .int x1)]) rfl dX4_callIn_54 (Nat.le_of_ble_eq_true rfl) rfl ?_
    refine ev_bipush (v := 99) dX4_callIn_56 (by decide) ?_
    refine xv_istore (L' := [(8, .int 99), (6, .long 0), (0, .ref (E.2.2.2 + iC_notes)), (1, .int p0), (4, .ref (E.2.2.2 + iC_people)), (5, .int x1)]) rfl dX4_callIn_58 (Nat.le_of_ble_eq_true rfl) rfl ?_
    obtain ⟨q34, hq34, h⟩ := xbd_some h
    refine ev_sub (L' := [(0, .ref (E.2.2.2 + iC_notes)), (1, .int p0), (4, .ref (E.2.2.2 + iC_people)), (5, .int x1), (6, .long 0), (8, .int 99)]) [2, 3, 4, 5, 1, 0] rfl ?_
    refine xloop_run (fun v => Ev E (xcm E d 0 0 QQ) Y_X4_callIn 60 [(0, .ref (E.2.2.2 + iC_notes)), (1, .int p0), (4, .ref (E.2.2.2 + iC_people)), (5, .int x1), (6, .long v.1), (8, .int v.2.1)] [] (xσ v.2.2 R) n 0 0) (fun v => Ev E (xcm E d 0 0 QQ) Y_X4_callIn 179 [(6, .long v.1)] [] (xσ v.2 R) n 0 0) ?_ _ _ _ hq34 ?_
    · rintro ⟨x9, x10, μ11⟩ y12 h hk
      replace h : fX4_callIn_b60 x9 x10 μ11 p0 x1 = some y12 := h
      show Ev E (xcm E d 0 0 QQ) Y_X4_callIn 60 [(0, .ref (E.2.2.2 + iC_notes)), (1, .int p0), (4, .ref (E.2.2.2 + iC_people)), (5, .int x1), (6, .long x9), (8, .int x10)] [] (xσ μ11 R) n 0 0
      unfold fX4_callIn_b60 at h
      refine ev_iload 5 dX4_callIn_60 rfl ?_
      refine ev_if_le (tgt := 179) dX4_callIn_62 (by decide) (fun c62 => ?_) (fun c62 => ?_)
      · replace h := xif_t c62 h
        cases h
        replace hk := xel_r hk
        exact ev_sub [4] rfl (hk)
      · replace h := xif_f c62 h
        refine ev_aload_n 0 dX4_callIn_65 rfl rfl ?_
        refine xv_getF (a := iC_notes_free) cl_4 lk_RX4_27 kd_28 (xl hF rfl) (fun _ => rfl) (fr_28_5 hF) dX4_callIn_66 ?_
        refine ev_iconst (v := 0) dX4_callIn_69 (by decide) ?_
        obtain ⟨v13, hv13, h⟩ := xbd_some h
        refine xv_iald kd_34 (xl hF rfl) hv13 dX4_callIn_70 ?_
        refine ev_if_le (tgt := 179) dX4_callIn_71 (by decide) (fun c71 => ?_) (fun c71 => ?_)
        · replace h := xif_t c71 h
          cases h
          replace hk := xel_r hk
          exact ev_sub [4] rfl (hk)
        · replace h := xif_f c71 h
          refine ev_iconst (v := 0) dX4_callIn_74 (by decide) ?_
          refine xv_istore (L' := [(9, .int 0), (0, .ref (E.2.2.2 + iC_notes)), (1, .int p0), (4, .ref (E.2.2.2 + iC_people)), (5, .int x1), (6, .long x9), (8, .int x10)]) rfl dX4_callIn_75 (Nat.le_of_ble_eq_true rfl) rfl ?_
          obtain ⟨q32, hq32, h⟩ := xbd_some h
          refine ev_sub (L' := [(0, .ref (E.2.2.2 + iC_notes)), (1, .int p0), (4, .ref (E.2.2.2 + iC_people)), (5, .int x1), (6, .long x9), (8, .int x10), (9, .int 0)]) [1, 2, 3, 4, 5, 6, 0] rfl ?_
          refine xloop_run (fun v => Ev E (xcm E d 0 0 QQ) Y_X4_callIn 77 [(0, .ref (E.2.2.2 + iC_notes)), (1, .int p0), (4, .ref (E.2.2.2 + iC_people)), (5, .int x1), (6, .long v.1), (8, .int x10), (9, .int v.2.1)] [] (xσ v.2.2 R) n 0 0) (fun v => Ev E (xcm E d 0 0 QQ) Y_X4_callIn 173 [(0, .ref (E.2.2.2 + iC_notes)), (1, .int p0), (4, .ref (E.2.2.2 + iC_people)), (5, .int x1), (6, .long v.1), (8, .int x10)] [] (xσ v.2 R) n 0 0) ?_ _ _ _ hq32 ?_
          · rintro ⟨x14, x15, μ16⟩ y17 h hk
            replace h : fX4_callIn_b77 x14 x15 μ16 p0 x1 x10 = some y17 := h
            show Ev E (xcm E d 0 0 QQ) Y_X4_callIn 77 [(0, .ref (E.2.2.2 + iC_notes)), (1, .int p0), (4, .ref (E.2.2.2 + iC_people)), (5, .int x1), (6, .long x14), (8, .int x10), (9, .int x15)] [] (xσ μ16 R) n 0 0
            unfold fX4_callIn_b77 at h
            refine ev_iload 6 dX4_callIn_77 rfl ?_
            refine ev_bipush (v := 24) dX4_callIn_79 (by decide) ?_
            refine ev_icmp_ge (tgt := 173) dX4_callIn_81 (by decide) (fun c81 => ?_) (fun c81 => ?_)
            · replace h := xif_t c81 h
              cases h
              replace hk := xel_r hk
              exact ev_sub [0, 1, 2, 3, 4, 5] rfl (hk)
            · replace h := xif_f c81 h
              refine ev_aload 2 dX4_callIn_84 rfl ?_
              refine ev_iload_n 1 dX4_callIn_86 rfl rfl ?_
              refine ev_iload 6 dX4_callIn_87 rfl ?_
              obtain ⟨q18, hq18, h⟩ := xbd_some h
              refine ev_callV (ci := 5) (rest := []) 2 (kX5_worthAt (E := E) (d := 1) (QQ := (fun v τ n' => v = some (.int q18) ∧ τ = xσ μ16 R ∧ n = n')) (Nat.le_refl _) hF hq18 (⟨rfl, rfl, rfl⟩)) my_X5_worthAt ⟨m_882, m_699, m_700⟩ cl_5 kd_19 (xl hF rfl) rfl rfl (Nat.le_of_ble_eq_true rfl) (Nat.le_trans (by decide) hd) (xlo (by decide) (Nat.le_trans (by decide) hd)) (Nat.zero_le _) (Nat.zero_le _) dX4_callIn_89 (fun v τ n' hv => ?_)
              obtain ⟨rfl, rfl, rfl⟩ := hv
              show Ev E (xcm E d 0 0 QQ) Y_X4_callIn 92 [(0, .ref (E.2.2.2 + iC_notes)), (1, .int p0), (4, .ref (E.2.2.2 + iC_people)), (5, .int x1), (6, .long x14), (8, .int x10), (9, .int x15)] [.int q18] (xσ μ16 R) n 0 0
              refine ev_iload 5 dX4_callIn_92 rfl ?_
              refine ev_icmp_eq (tgt := 100) dX4_callIn_94 (by decide) (fun c94 => ?_) (fun c94 => ?_)
              · replace h := xif_t c94 h
                refine ev_bipush (v := 60) dX4_callIn_100 (by decide) ?_
                refine ev_aload 2 dX4_callIn_102 rfl ?_
                refine ev_iload_n 1 dX4_callIn_104 rfl rfl ?_
                refine ev_iload 6 dX4_callIn_105 rfl ?_
                obtain ⟨q19, hq19, h⟩ := xbd_some h
                refine ev_callV (ci := 5) (rest := [.int 60]) 2 (kX5_takenIn (E := E) (d := 1) (QQ := (fun v τ n' => v = some (.int q19) ∧ τ = xσ μ16 R ∧ n = n')) (Nat.le_refl _) hF hq19 (⟨rfl, rfl, rfl⟩)) my_X5_takenIn ⟨m_883, m_848, m_849⟩ cl_5 kd_19 (xl hF rfl) rfl rfl (Nat.le_of_ble_eq_true rfl) (Nat.le_trans (by decide) hd) (xlo (by decide) (Nat.le_trans (by decide) hd)) (Nat.zero_le _) (Nat.zero_le _) dX4_callIn_107 (fun v τ n' hv => ?_)
                obtain ⟨rfl, rfl, rfl⟩ := hv
                show Ev E (xcm E d 0 0 QQ) Y_X4_callIn 110 [(0, .ref (E.2.2.2 + iC_notes)), (1, .int p0), (4, .ref (E.2.2.2 + iC_people)), (5, .int x1), (6, .long x14), (8, .int x10), (9, .int x15)] [.int q19, .int 60] (xσ μ16 R) n 0 0
                refine ev_isub dX4_callIn_110 ?_
                obtain ⟨x20, hx20, h⟩ := xlt_some h
                refine xv_istore (L' := [(10, .int x20), (0, .ref (E.2.2.2 + iC_notes)), (1, .int p0), (4, .ref (E.2.2.2 + iC_people)), (5, .int x1), (6, .long x14), (8, .int x10), (9, .int x15)]) hx20 dX4_callIn_111 (Nat.le_of_ble_eq_true rfl) rfl ?_
                refine ev_iconst (v := 0) dX4_callIn_113 (by decide) ?_
                refine xv_istore (L' := [(11, .int 0), (10, .int x20), (0, .ref (E.2.2.2 + iC_notes)), (1, .int p0), (4, .ref (E.2.2.2 + iC_people)), (5, .int x1), (6, .long x14), (8, .int x10), (9, .int x15)]) rfl dX4_callIn_114 (Nat.le_of_ble_eq_true rfl) rfl ?_
                obtain ⟨q29, hq29, h⟩ := xbd_some h
                refine ev_sub (L' := [(0, .ref (E.2.2.2 + iC_notes)), (1, .int p0), (4, .ref (E.2.2.2 + iC_people)), (5, .int x1), (6, .long x14), (8, .int x10), (9, .int x15), (10, .int x20), (11, .int 0)]) [2, 3, 4, 5, 6, 7, 8, 1, 0] rfl ?_
                refine xloop_run (fun v => Ev E (xcm E d 0 0 QQ) Y_X4_callIn 116 [(0, .ref (E.2.2.2 + iC_notes)), (1, .int p0), (4, .ref (E.2.2.2 + iC_people)), (5, .int x1), (6, .long v.1), (8, .int x10), (9, .int x15), (10, .int x20), (11, .int v.2.1)] [] (xσ v.2.2 R) n 0 0) (fun v => Ev E (xcm E d 0 0 QQ) Y_X4_callIn 167 [(0, .ref (E.2.2.2 + iC_notes)), (1, .int p0), (4, .ref (E.2.2.2 + iC_people)), (5, .int x1), (6, .long v.1), (8, .int x10), (9, .int x15)] [] (xσ v.2 R) n 0 0) ?_ _ _ _ hq29 ?_
                · rintro ⟨x21, x22, μ23⟩ y24 h hk
                  replace h : fX4_callIn_b116 x21 x22 μ23 x1 x10 x20 = some y24 := h
                  show Ev E (xcm E d 0 0 QQ) Y_X4_callIn 116 [(0, .ref (E.2.2.2 + iC_notes)), (1, .int p0), (4, .ref (E.2.2.2 + iC_people)), (5, .int x1), (6, .long x21), (8, .int x10), (9, .int x15), (10, .int x20), (11, .int x22)] [] (xσ μ23 R) n 0 0
                  unfold fX4_callIn_b116 at h
                  refine ev_iload 8 dX4_callIn_116 rfl ?_
                  refine ev_iload 3 dX4_callIn_118 rfl ?_
                  refine ev_icmp_gt (tgt := 167) dX4_callIn_120 (by decide) (fun c120 => ?_) (fun c120 => ?_)
                  · replace h := xif_t c120 h
                    cases h
                    replace hk := xel_r hk
                    exact ev_sub [0, 1, 2, 3, 4, 5, 6] rfl (hk)
                  · replace h := xif_f c120 h
                    refine ev_iload 8 dX4_callIn_123 rfl ?_
                    refine ev_aload_n 0 dX4_callIn_125 rfl rfl ?_
                    refine xv_getF (a := iC_notes_free) cl_4 lk_RX4_27 kd_28 (xl hF rfl) (fun _ => rfl) (fr_28_5 hF) dX4_callIn_126 ?_
                    refine ev_alen (v := 7) 0 (by decide) kd_34 (xl hF rfl) rfl dX4_callIn_129 ?_
                    refine ev_icmp_ge (tgt := 167) dX4_callIn_130 (by decide) (fun c130 => ?_) (fun c130 => ?_)
                    · replace h := xif_t c130 h
                      cases h
                      replace hk := xel_r hk
                      exact ev_sub [0, 1, 2, 3, 4, 5, 6] rfl (hk)
                    · replace h := xif_f c130 h
                      refine ev_lload 4 dX4_callIn_133 rfl ?_
                      refine ev_iload 5 dX4_callIn_135 rfl ?_
                      refine ev_i2l dX4_callIn_137 ?_
                      refine ev_aload_n 0 dX4_callIn_138 rfl rfl ?_
                      refine ev_iload 8 dX4_callIn_139 rfl ?_
                      refine ev_iload 8 dX4_callIn_141 rfl ?_
                      have j153 : ∀ (x25 : Int32), fX4_callIn_j153 x25 x10 x21 x22 μ23 = some y24 → Ev E (xcm E d 0 0 QQ) Y_X4_callIn 153 [(0, .ref (E.2.2.2 + iC_notes)), (1, .int p0), (4, .ref (E.2.2.2 + iC_people)), (5, .int x1), (8, .int x10), (9, .int x15), (10, .int x20), (11, .int x22)] [.int x25, .int x22, .ref (E.2.2.2 + iC_notes), .long (x10.toInt64), .long x21] (xσ μ23 R) n 0 0 := by
                        intro x25 h
                        unfold fX4_callIn_j153 at h
                        obtain ⟨q26, hq26, h⟩ := xbd_some h
                        refine ev_callV (ci := 4) (rest := [.long (x10.toInt64), .long x21]) 2 (kX4_useOn (E := E) (d := 1) (QQ := (fun v τ n' => v = some (.int q26.1) ∧ τ = xσ q26.2 R ∧ n = n')) (Nat.le_refl _) hF hq26 (⟨rfl, rfl, rfl⟩)) my_X4_useOn ⟨m_884, m_886, m_18⟩ cl_4 kd_28 (xl hF rfl) rfl rfl (Nat.le_of_ble_eq_true rfl) (Nat.le_trans (by decide) hd) (xlo (by decide) (Nat.le_trans (by decide) hd)) (Nat.zero_le _) (Nat.zero_le _) dX4_callIn_153 (fun v τ n' hv => ?_)
                        obtain ⟨rfl, rfl, rfl⟩ := hv
                        show Ev E (xcm E d 0 0 QQ) Y_X4_callIn 156 [(0, .ref (E.2.2.2 + iC_notes)), (1, .int p0), (4, .ref (E.2.2.2 + iC_people)), (5, .int x1), (8, .int x10), (9, .int x15), (10, .int x20), (11, .int x22)] [.int q26.1, .long (x10.toInt64), .long x21] (xσ q26.2 R) n 0 0
                        refine ev_i2l dX4_callIn_156 ?_
                        refine ev_lmul dX4_callIn_157 ?_
                        refine ev_ladd dX4_callIn_158 ?_
                        obtain ⟨x27, hx27, h⟩ := xlt_some h
                        refine xv_lstore (L' := [(6, .long x27), (0, .ref (E.2.2.2 + iC_notes)), (1, .int p0), (4, .ref (E.2.2.2 + iC_people)), (5, .int x1), (8, .int x10), (9, .int x15), (10, .int x20), (11, .int x22)]) hx27 dX4_callIn_159 (Nat.le_of_ble_eq_true rfl) rfl ?_
                        obtain ⟨x28, hx28, h⟩ := xlt_some h
                        refine ev_iinc (L' := [(11, .int x28), (6, .long x27), (0, .ref (E.2.2.2 + iC_notes)), (1, .int p0), (4, .ref (E.2.2.2 + iC_people)), (5, .int x1), (8, .int x10), (9, .int x15), (10, .int x20)]) 8 dX4_callIn_161 rfl ((by rfl : x22 + Int32.ofInt 1 = x22 + 1).trans hx28) (Nat.le_of_ble_eq_true rfl) rfl ?_
                        refine ev_goto (tgt := 116) dX4_callIn_164 (by decide) ?_
                        cases h
                        replace hk := xel_l hk
                        exact ev_sub [2, 3, 4, 5, 1, 6, 7, 8, 0] rfl (hk)
                      refine ev_if_ne (tgt := 151) dX4_callIn_143 (by decide) (fun c143 => ?_) (fun c143 => ?_)
                      · replace h := xif_f c143 h
                        refine ev_bipush (v := 60) dX4_callIn_151 (by decide) ?_
                        exact ev_sub [0, 1, 2, 3, 5, 6, 7, 8] rfl (j153 _ h)
                      · replace h := xif_t c143 h
                        refine ev_iload 7 dX4_callIn_146 rfl ?_
                        refine ev_goto (tgt := 153) dX4_callIn_148 (by decide) ?_
                        exact ev_sub [0, 1, 2, 3, 5, 6, 7, 8] rfl (j153 _ h)
                · show Ev E (xcm E d 0 0 QQ) Y_X4_callIn 167 [(0, .ref (E.2.2.2 + iC_notes)), (1, .int p0), (4, .ref (E.2.2.2 + iC_people)), (5, .int x1), (6, .long q29.1), (8, .int x10), (9, .int x15)] [] (xσ q29.2 R) n 0 0
                  obtain ⟨x30, hx30, h⟩ := xlt_some h
                  refine ev_iinc (L' := [(9, .int x30), (0, .ref (E.2.2.2 + iC_notes)), (1, .int p0), (4, .ref (E.2.2.2 + iC_people)), (5, .int x1), (6, .long q29.1), (8, .int x10)]) 6 dX4_callIn_167 rfl ((by rfl : x15 + Int32.ofInt 1 = x15 + 1).trans hx30) (Nat.le_of_ble_eq_true rfl) rfl ?_
                  refine ev_goto (tgt := 77) dX4_callIn_170 (by decide) ?_
                  cases h
                  replace hk := xel_l hk
                  exact ev_sub [1, 2, 3, 4, 5, 6, 0] rfl (hk)
              · replace h := xif_f c94 h
                refine ev_goto (tgt := 167) dX4_callIn_97 (by decide) ?_
                obtain ⟨x31, hx31, h⟩ := xlt_some h
                refine ev_iinc (L' := [(9, .int x31), (0, .ref (E.2.2.2 + iC_notes)), (1, .int p0), (4, .ref (E.2.2.2 + iC_people)), (5, .int x1), (6, .long x14), (8, .int x10)]) 6 dX4_callIn_167 rfl ((by rfl : x15 + Int32.ofInt 1 = x15 + 1).trans hx31) (Nat.le_of_ble_eq_true rfl) rfl ?_
                refine ev_goto (tgt := 77) dX4_callIn_170 (by decide) ?_
                cases h
                replace hk := xel_l hk
                exact ev_sub [1, 2, 3, 4, 5, 6, 0] rfl (hk)
          · show Ev E (xcm E d 0 0 QQ) Y_X4_callIn 173 [(0, .ref (E.2.2.2 + iC_notes)), (1, .int p0), (4, .ref (E.2.2.2 + iC_people)), (5, .int x1), (6, .long q32.1), (8, .int x10)] [] (xσ q32.2 R) n 0 0
            obtain ⟨x33, hx33, h⟩ := xlt_some h
            refine ev_iinc (L' := [(8, .int x33), (0, .ref (E.2.2.2 + iC_notes)), (1, .int p0), (4, .ref (E.2.2.2 + iC_people)), (5, .int x1), (6, .long q32.1)]) 5 dX4_callIn_173 rfl ((by rfl : x10 + Int32.ofInt (-1) = x10 + (-1)).trans hx33) (Nat.le_of_ble_eq_true rfl) rfl ?_
            refine ev_goto (tgt := 60) dX4_callIn_176 (by decide) ?_
            cases h
            replace hk := xel_l hk
            exact ev_sub [1, 2, 3, 4, 5, 0] rfl (hk)
    · show Ev E (xcm E d 0 0 QQ) Y_X4_callIn 179 [(6, .long q34.1)] [] (xσ q34.2 R) n 0 0
      refine ev_lload 0 dX4_callIn_179 rfl ?_
      cases h
      exact ev_lret rfl (hQ) dX4_callIn_181 (Nat.zero_le _) (Nat.zero_le _)
def fX6_gatherOthers_b77 (x15 : Int32) (μ16 : xm) (p0 : Nat) (p2 : Int32) (x6 : Int32) (R8 : xr) (q12 : Int64) : Option ((Int32 × xm) ⊕ (xm)) := xbd (fX10_endsOf x6 μ16) fun q18 => if q18 ≤ x15 then (some (.inr μ16)) else (xbd (xgI μ16 iC_rest_aheads 8 x6) fun v19 => xbd (fX10_takes x6 x15 p2 μ16) fun q20 => xlt (xmax (μ16.1 p0 1) (((μ16.1 p0 1) - v19) + q20)) fun x21 => xbd (fX10_weightOf x6 x15 μ16) fun q22 => xbd (fX8_add iC_rest_each x21 (q12 * q22.toInt64) μ16) fun q23 => xbd (fX10_weightOf x6 x15 q23) fun q24 => xbd (fX6_spreadLasts x21 q24 q23 R8) fun q25 => xlt (x15 + 1) fun x26 => some (.inl (x26, q25)))
def fX6_gatherOthers_b29 (x6 : Int32) (μ7 : xm) (R8 : xr) (p0 : Nat) (p1 : Int32) (p2 : Int32) : Option ((Int32 × xm × xr) ⊕ (xm × xr)) := if 8 ≤ x6 then (some (.inr (μ7, R8))) else (if x6 = p1 then (xlt (x6 + 1) fun x10 => some (.inl (x10, μ7, R8))) else (xbd (fX2_includes p0 x6 μ7) fun q11 => if q11 = 0 then (xlt (x6 + 1) fun x33 => some (.inl (x33, μ7, R8))) else (xbd (fX6_weightsWithout p0 p1 x6 μ7) fun q12 => xbd (R8 iC_rest 5) fun a13 => xbd (fX8_empty a13 μ7) fun q14 => xbd (xloop xfu (fun v => fX6_gatherOthers_b77 v.1 v.2 p0 p2 x6 R8 q12) (0, q14)) fun q27 => xbd (R8 iC_rest 4) fun a28 => xbd (R8 iC_rest 5) fun a29 => xlt (xup R8 iC_rest 4 (some a29)) fun R30 => xlt (xup R30 iC_rest 5 (some a28)) fun R31 => xlt (x6 + 1) fun x32 => some (.inl (x32, q27, R31)))))
def fX6_gatherOthers (p0 : Nat) (p1 : Int32) (p2 : Int32) (μ : xm) (R : xr) : Option (xm × xr) := xbd (R iC_rest 4) fun a1 => xbd (fX8_empty a1 μ) fun q2 => xbd (R iC_rest 4) fun a3 => xbd (fX8_add a3 (q2.1 p0 1) 1 q2) fun q4 => xbd (fX8_empty iC_rest_each q4) fun q5 => xbd (xloop xfu (fun v => fX6_gatherOthers_b29 v.1 v.2.1 v.2.2 p0 p1 p2) (0, q5, R)) fun q34 => some (q34.1, q34.2)
set_option maxHeartbeats 4000000 in
set_option maxRecDepth 100000 in
theorem kX6_gatherOthers {E : xE} {d : Nat} {QQ : xP} (hd : 3 ≤ d) {p0 : Nat} {p1 : Int32} {p2 : Int32} {μ : xm} {R : xr} {n : Nat} (hF : xFin R n) (hp0 : xIs 2 p0 n) {res : xm × xr} (h : fX6_gatherOthers p0 p1 p2 μ R = some res) (hQ : xFin res.2 n → QQ none (xσ res.1 res.2) n) : xCon E d Y_X6_gatherOthers 0 0 [.ref (E.2.2.2 + iC_rest), .ref (E.2.2.2 + p0), .int p1, .int p2] (xσ μ R) n QQ := by
  refine xCon_of pn_RX6 (Nat.le_of_ble_eq_true rfl) (L0 := [(0, .ref (E.2.2.2 + iC_rest)), (1, .ref (E.2.2.2 + p0)), (2, .int p1), (3, .int p2)]) rfl ?_
  unfold fX6_gatherOthers at h
  refine ev_aload_n 0 dX6_gatherOthers_0 rfl rfl ?_
  refine xv_getR cl_6 lk_RX6_22 kd_49 (xl hF rfl) (fun _ => rfl) dX6_gatherOthers_1 ?_
  obtain ⟨a1, ha1, h⟩ := xbd_some h
  refine xv_nn ha1 ?_
  replace ha1 := dy_49_4 hF _ ha1
  obtain ⟨q2, hq2, h⟩ := xbd_some h
  refine ev_callV (ci := 8) (rest := []) 0 (kX8_empty (E := E) (d := 0) (QQ := (fun v τ n' => v = none ∧ τ = xσ q2 R ∧ n = n')) (Nat.le_refl _) hF ha1 hq2 (⟨rfl, rfl, rfl⟩)) my_X8_empty ⟨m_1109, m_1110, m_1111⟩ cl_8 (xIs8_kd ha1) (xIs8_lt ha1) rfl rfl (Nat.le_of_ble_eq_true rfl) (Nat.le_trans (by decide) hd) (xlo (by decide) (Nat.le_trans (by decide) hd)) (Nat.zero_le _) (Nat.zero_le _) dX6_gatherOthers_4 (fun v τ n' hv => ?_)
  obtain ⟨rfl, rfl, rfl⟩ := hv
  show Ev E (xcm E d 0 0 QQ) Y_X6_gatherOthers 7 [(0, .ref (E.2.2.2 + iC_rest)), (1, .ref (E.2.2.2 + p0)), (2, .int p1), (3, .int p2)] [] (xσ q2 R) n 0 0
  refine ev_aload_n 0 dX6_gatherOthers_7 rfl rfl ?_
  refine xv_getR cl_6 lk_RX6_22 kd_49 (xl hF rfl) (fun _ => rfl) dX6_gatherOthers_8 ?_
  obtain ⟨a3, ha3, h⟩ := xbd_some h
  refine xv_nn ha3 ?_
  replace ha3 := dy_49_4 hF _ ha3
  refine ev_aload_n 1 dX6_gatherOthers_11 rfl rfl ?_
  refine xv_getIN cl_2 ln_RX6_69 (xIs2_kd hp0) (xIs2_lt hp0) (fun _ => rfl) dX6_gatherOthers_12 ?_
  refine ev_lconst (v := 1) dX6_gatherOthers_15 (by decide) ?_
  obtain ⟨q4, hq4, h⟩ := xbd_some h
  refine ev_callV (ci := 8) (rest := []) 2 (kX8_add (E := E) (d := 0) (QQ := (fun v τ n' => v = none ∧ τ = xσ q4 R ∧ n = n')) (Nat.le_refl _) hF ha3 hq4 (⟨rfl, rfl, rfl⟩)) my_X8_add ⟨m_1113, m_1114, m_1115⟩ cl_8 (xIs8_kd ha3) (xIs8_lt ha3) rfl rfl (Nat.le_of_ble_eq_true rfl) (Nat.le_trans (by decide) hd) (xlo (by decide) (Nat.le_trans (by decide) hd)) (Nat.zero_le _) (Nat.zero_le _) dX6_gatherOthers_16 (fun v τ n' hv => ?_)
  obtain ⟨rfl, rfl, rfl⟩ := hv
  show Ev E (xcm E d 0 0 QQ) Y_X6_gatherOthers 19 [(0, .ref (E.2.2.2 + iC_rest)), (1, .ref (E.2.2.2 + p0)), (2, .int p1), (3, .int p2)] [] (xσ q4 R) n 0 0
  refine ev_aload_n 0 dX6_gatherOthers_19 rfl rfl ?_
  refine xv_getF (a := iC_rest_each) cl_6 lk_RX6_29 kd_49 (xl hF rfl) (fun _ => rfl) (fr_49_6 hF) dX6_gatherOthers_20 ?_
  obtain ⟨q5, hq5, h⟩ := xbd_some h
  refine ev_callV (ci := 8) (rest := []) 0 (kX8_empty (E := E) (d := 0) (QQ := (fun v τ n' => v = none ∧ τ = xσ q5 R ∧ n = n')) (Nat.le_refl _) hF (st_58 hF) hq5 (⟨rfl, rfl, rfl⟩)) my_X8_empty ⟨m_1109, m_1110, m_1111⟩ cl_8 kd_58 (xl hF rfl) rfl rfl (Nat.le_of_ble_eq_true rfl) (Nat.le_trans (by decide) hd) (xlo (by decide) (Nat.le_trans (by decide) hd)) (Nat.zero_le _) (Nat.zero_le _) dX6_gatherOthers_23 (fun v τ n' hv => ?_)
  obtain ⟨rfl, rfl, rfl⟩ := hv
  show Ev E (xcm E d 0 0 QQ) Y_X6_gatherOthers 26 [(0, .ref (E.2.2.2 + iC_rest)), (1, .ref (E.2.2.2 + p0)), (2, .int p1), (3, .int p2)] [] (xσ q5 R) n 0 0
  refine ev_iconst (v := 0) dX6_gatherOthers_26 (by decide) ?_
  refine xv_istore (L' := [(4, .int 0), (0, .ref (E.2.2.2 + iC_rest)), (1, .ref (E.2.2.2 + p0)), (2, .int p1), (3, .int p2)]) rfl dX6_gatherOthers_27 (Nat.le_of_ble_eq_true rfl) rfl ?_
  obtain ⟨q34, hq34, h⟩ := xbd_some h
  refine ev_sub (L' := [(0, .ref (E.2.2.2 + iC_rest)), (1, .ref (E.2.2.2 + p0)), (2, .int p1), (3, .int p2), (4, .int 0)]) [1, 2, 3, 4, 0] rfl ?_
  refine xloop_run (fun v => xFin v.2.2 n → Ev E (xcm E d 0 0 QQ) Y_X6_gatherOthers 29 [(0, .ref (E.2.2.2 + iC_rest)), (1, .ref (E.2.2.2 + p0)), (2, .int p1), (3, .int p2), (4, .int v.1)] [] (xσ v.2.1 v.2.2) n 0 0) (fun v => xFin v.2 n → Ev E (xcm E d 0 0 QQ) Y_X6_gatherOthers 198 [] [] (xσ v.1 v.2) n 0 0) ?_ _ _ _ hq34 ?_ hF
  · rintro ⟨x6, μ7, R8⟩ y9 h hk hF
    replace h : fX6_gatherOthers_b29 x6 μ7 R8 p0 p1 p2 = some y9 := h
    show Ev E (xcm E d 0 0 QQ) Y_X6_gatherOthers 29 [(0, .ref (E.2.2.2 + iC_rest)), (1, .ref (E.2.2.2 + p0)), (2, .int p1), (3, .int p2), (4, .int x6)] [] (xσ μ7 R8) n 0 0
    unfold fX6_gatherOthers_b29 at h
    refine ev_iload 4 dX6_gatherOthers_29 rfl ?_
    refine ev_aload_n 0 dX6_gatherOthers_31 rfl rfl ?_
    refine xv_getF (a := iC_rest_aheads) cl_6 lk_RX6_9 kd_49 (xl hF rfl) (fun _ => rfl) (fr_49_2 hF) dX6_gatherOthers_32 ?_
    refine ev_alen (v := 8) 0 (by decide) kd_50 (xl hF rfl) rfl dX6_gatherOthers_35 ?_
    refine ev_icmp_ge (tgt := 198) dX6_gatherOthers_36 (by decide) (fun c36 => ?_) (fun c36 => ?_)
    · replace h := xif_t c36 h
      cases h
      replace hk := xel_r hk
      exact ev_sub [] rfl (hk hF)
    · replace h := xif_f c36 h
      refine ev_iload 4 dX6_gatherOthers_39 rfl ?_
      refine ev_iload_n 2 dX6_gatherOthers_41 rfl rfl ?_
      refine ev_icmp_eq (tgt := 192) dX6_gatherOthers_42 (by decide) (fun c42 => ?_) (fun c42 => ?_)
      · replace h := xif_t c42 h
        obtain ⟨x10, hx10, h⟩ := xlt_some h
        refine ev_iinc (L' := [(4, .int x10), (0, .ref (E.2.2.2 + iC_rest)), (1, .ref (E.2.2.2 + p0)), (2, .int p1), (3, .int p2)]) 4 dX6_gatherOthers_192 rfl ((by rfl : x6 + Int32.ofInt 1 = x6 + 1).trans hx10) (Nat.le_of_ble_eq_true rfl) rfl ?_
        refine ev_goto (tgt := 29) dX6_gatherOthers_195 (by decide) ?_
        cases h
        replace hk := xel_l hk
        exact ev_sub [1, 2, 3, 4, 0] rfl (hk hF)
      · replace h := xif_f c42 h
        refine ev_aload_n 1 dX6_gatherOthers_45 rfl rfl ?_
        refine ev_iload 4 dX6_gatherOthers_46 rfl ?_
        obtain ⟨q11, hq11, h⟩ := xbd_some h
        refine ev_callV (ci := 2) (rest := []) 1 (kX2_includes (E := E) (d := 0) (QQ := (fun v τ n' => v = some (.int q11) ∧ τ = xσ μ7 R8 ∧ n = n')) (Nat.le_refl _) hF hp0 hq11 (⟨rfl, rfl, rfl⟩)) my_X2_includes ⟨m_1098, m_500, m_501⟩ cl_2 (xIs2_kd hp0) (xIs2_lt hp0) rfl rfl (Nat.le_of_ble_eq_true rfl) (Nat.le_trans (by decide) hd) (xlo (by decide) (Nat.le_trans (by decide) hd)) (Nat.zero_le _) (Nat.zero_le _) dX6_gatherOthers_48 (fun v τ n' hv => ?_)
        obtain ⟨rfl, rfl, rfl⟩ := hv
        show Ev E (xcm E d 0 0 QQ) Y_X6_gatherOthers 51 [(0, .ref (E.2.2.2 + iC_rest)), (1, .ref (E.2.2.2 + p0)), (2, .int p1), (3, .int p2), (4, .int x6)] [.int q11] (xσ μ7 R8) n 0 0
        refine ev_if_ne (tgt := 57) dX6_gatherOthers_51 (by decide) (fun c51 => ?_) (fun c51 => ?_)
        · replace h := xif_f c51 h
          refine ev_aload_n 0 dX6_gatherOthers_57 rfl rfl ?_
          refine ev_aload_n 1 dX6_gatherOthers_58 rfl rfl ?_
          refine ev_iload_n 2 dX6_gatherOthers_59 rfl rfl ?_
          refine ev_iload 4 dX6_gatherOthers_60 rfl ?_
          obtain ⟨q12, hq12, h⟩ := xbd_some h
          refine ev_callV (ci := 6) (rest := []) 3 (kX6_weightsWithout (E := E) (d := 2) (QQ := (fun v τ n' => v = some (.long q12) ∧ τ = xσ μ7 R8 ∧ n = n')) (Nat.le_refl _) hF hp0 hq12 (⟨rfl, rfl, rfl⟩)) my_X6_weightsWithout ⟨m_1117, m_1119, m_35⟩ cl_6 kd_49 (xl hF rfl) rfl rfl (Nat.le_of_ble_eq_true rfl) (Nat.le_trans (by decide) hd) (xlo (by decide) (Nat.le_trans (by decide) hd)) (Nat.zero_le _) (Nat.zero_le _) dX6_gatherOthers_62 (fun v τ n' hv => ?_)
          obtain ⟨rfl, rfl, rfl⟩ := hv
          show Ev E (xcm E d 0 0 QQ) Y_X6_gatherOthers 65 [(0, .ref (E.2.2.2 + iC_rest)), (1, .ref (E.2.2.2 + p0)), (2, .int p1), (3, .int p2), (4, .int x6)] [.long q12] (xσ μ7 R8) n 0 0
          refine xv_lstore (L' := [(5, .long q12), (0, .ref (E.2.2.2 + iC_rest)), (1, .ref (E.2.2.2 + p0)), (2, .int p1), (3, .int p2), (4, .int x6)]) rfl dX6_gatherOthers_65 (Nat.le_of_ble_eq_true rfl) rfl ?_
          refine ev_aload_n 1 dX6_gatherOthers_67 rfl rfl ?_
          refine xv_getR cl_6 lk_RX6_26 kd_49 (xl hF rfl) (fun _ => rfl) dX6_gatherOthers_68 ?_
          obtain ⟨a13, ha13, h⟩ := xbd_some h
          refine xv_nn ha13 ?_
          replace ha13 := dy_49_5 hF _ ha13
          obtain ⟨q14, hq14, h⟩ := xbd_some h
          refine ev_callV (ci := 8) (rest := []) 0 (kX8_empty (E := E) (d := 0) (QQ := (fun v τ n' => v = none ∧ τ = xσ q14 R8 ∧ n = n')) (Nat.le_refl _) hF ha13 hq14 (⟨rfl, rfl, rfl⟩)) my_X8_empty ⟨m_1109, m_1110, m_1111⟩ cl_8 (xIs8_kd ha13) (xIs8_lt ha13) rfl rfl (Nat.le_of_ble_eq_true rfl) (Nat.le_trans (by decide) hd) (xlo (by decide) (Nat.le_trans (by decide) hd)) (Nat.zero_le _) (Nat.zero_le _) dX6_gatherOthers_71 (fun v τ n' hv => ?_)
          obtain ⟨rfl, rfl, rfl⟩ := hv
          show Ev E (xcm E d 0 0 QQ) Y_X6_gatherOthers 74 [(5, .long q12), (0, .ref (E.2.2.2 + iC_rest)), (1, .ref (E.2.2.2 + p0)), (2, .int p1), (3, .int p2), (4, .int x6)] [] (xσ q14 R8) n 0 0
          refine ev_iconst (v := 0) dX6_gatherOthers_74 (by decide) ?_
          refine xv_istore (L' := [(7, .int 0), (5, .long q12), (0, .ref (E.2.2.2 + iC_rest)), (1, .ref (E.2.2.2 + p0)), (2, .int p1), (3, .int p2), (4, .int x6)]) rfl dX6_gatherOthers_75 (Nat.le_of_ble_eq_true rfl) rfl ?_
          obtain ⟨q27, hq27, h⟩ := xbd_some h
          refine ev_sub (L' := [(0, .ref (E.2.2.2 + iC_rest)), (1, .ref (E.2.2.2 + p0)), (2, .int p1), (3, .int p2), (4, .int x6), (5, .long q12), (7, .int 0)]) [2, 3, 4, 5, 6, 1, 0] rfl ?_
          refine xloop_run (fun v => Ev E (xcm E d 0 0 QQ) Y_X6_gatherOthers 77 [(0, .ref (E.2.2.2 + iC_rest)), (1, .ref (E.2.2.2 + p0)), (2, .int p1), (3, .int p2), (4, .int x6), (5, .long q12), (7, .int v.1)] [] (xσ v.2 R8) n 0 0) (fun v => Ev E (xcm E d 0 0 QQ) Y_X6_gatherOthers 172 [(0, .ref (E.2.2.2 + iC_rest)), (1, .ref (E.2.2.2 + p0)), (2, .int p1), (3, .int p2), (4, .int x6)] [] (xσ v R8) n 0 0) ?_ _ _ _ hq27 ?_
          · rintro ⟨x15, μ16⟩ y17 h hk
            replace h : fX6_gatherOthers_b77 x15 μ16 p0 p2 x6 R8 q12 = some y17 := h
            show Ev E (xcm E d 0 0 QQ) Y_X6_gatherOthers 77 [(0, .ref (E.2.2.2 + iC_rest)), (1, .ref (E.2.2.2 + p0)), (2, .int p1), (3, .int p2), (4, .int x6), (5, .long q12), (7, .int x15)] [] (xσ μ16 R8) n 0 0
            unfold fX6_gatherOthers_b77 at h
            refine ev_iload 6 dX6_gatherOthers_77 rfl ?_
            refine ev_aload_n 0 dX6_gatherOthers_79 rfl rfl ?_
            refine xv_getF (a := iC_ways) cl_6 lk_RX6_36 kd_49 (xl hF rfl) (fun _ => rfl) (fr_49_1 hF) dX6_gatherOthers_80 ?_
            refine ev_iload 4 dX6_gatherOthers_83 rfl ?_
            obtain ⟨q18, hq18, h⟩ := xbd_some h
            refine ev_callV (ci := 10) (rest := [.int x15]) 1 (kX10_endsOf (E := E) (d := 1) (QQ := (fun v τ n' => v = some (.int q18) ∧ τ = xσ μ16 R8 ∧ n = n')) (Nat.le_refl _) hF hq18 (⟨rfl, rfl, rfl⟩)) my_X10_endsOf ⟨m_1122, m_1000, m_1001⟩ cl_10 kd_42 (xl hF rfl) rfl rfl (Nat.le_of_ble_eq_true rfl) (Nat.le_trans (by decide) hd) (xlo (by decide) (Nat.le_trans (by decide) hd)) (Nat.zero_le _) (Nat.zero_le _) dX6_gatherOthers_85 (fun v τ n' hv => ?_)
            obtain ⟨rfl, rfl, rfl⟩ := hv
            show Ev E (xcm E d 0 0 QQ) Y_X6_gatherOthers 88 [(0, .ref (E.2.2.2 + iC_rest)), (1, .ref (E.2.2.2 + p0)), (2, .int p1), (3, .int p2), (4, .int x6), (5, .long q12), (7, .int x15)] [.int q18, .int x15] (xσ μ16 R8) n 0 0
            refine ev_icmp_ge (tgt := 172) dX6_gatherOthers_88 (by decide) (fun c88 => ?_) (fun c88 => ?_)
            · replace h := xif_t c88 h
              cases h
              replace hk := xel_r hk
              exact ev_sub [0, 1, 2, 3, 4] rfl (hk)
            · replace h := xif_f c88 h
              refine ev_aload_n 1 dX6_gatherOthers_91 rfl rfl ?_
              refine xv_getIN cl_2 ln_RX6_69 (xIs2_kd hp0) (xIs2_lt hp0) (fun _ => rfl) dX6_gatherOthers_92 ?_
              refine ev_aload_n 1 dX6_gatherOthers_95 rfl rfl ?_
              refine xv_getIN cl_2 ln_RX6_69 (xIs2_kd hp0) (xIs2_lt hp0) (fun _ => rfl) dX6_gatherOthers_96 ?_
              refine ev_aload_n 0 dX6_gatherOthers_99 rfl rfl ?_
              refine xv_getF (a := iC_rest_aheads) cl_6 lk_RX6_9 kd_49 (xl hF rfl) (fun _ => rfl) (fr_49_2 hF) dX6_gatherOthers_100 ?_
              refine ev_iload 4 dX6_gatherOthers_103 rfl ?_
              obtain ⟨v19, hv19, h⟩ := xbd_some h
              refine xv_iald kd_50 (xl hF rfl) hv19 dX6_gatherOthers_105 ?_
              refine ev_isub dX6_gatherOthers_106 ?_
              refine ev_aload_n 0 dX6_gatherOthers_107 rfl rfl ?_
              refine xv_getF (a := iC_ways) cl_6 lk_RX6_36 kd_49 (xl hF rfl) (fun _ => rfl) (fr_49_1 hF) dX6_gatherOthers_108 ?_
              refine ev_iload 4 dX6_gatherOthers_111 rfl ?_
              refine ev_iload 6 dX6_gatherOthers_113 rfl ?_
              refine ev_iload_n 3 dX6_gatherOthers_115 rfl rfl ?_
              obtain ⟨q20, hq20, h⟩ := xbd_some h
              refine ev_callV (ci := 10) (rest := [.int ((μ16.1 p0 1) - v19), .int (μ16.1 p0 1)]) 3 (kX10_takes (E := E) (d := 1) (QQ := (fun v τ n' => v = some (.int q20) ∧ τ = xσ μ16 R8 ∧ n = n')) (Nat.le_refl _) hF hq20 (⟨rfl, rfl, rfl⟩)) my_X10_takes ⟨m_1123, m_1005, m_1006⟩ cl_10 kd_42 (xl hF rfl) rfl rfl (Nat.le_of_ble_eq_true rfl) (Nat.le_trans (by decide) hd) (xlo (by decide) (Nat.le_trans (by decide) hd)) (Nat.zero_le _) (Nat.zero_le _) dX6_gatherOthers_116 (fun v τ n' hv => ?_)
              obtain ⟨rfl, rfl, rfl⟩ := hv
              show Ev E (xcm E d 0 0 QQ) Y_X6_gatherOthers 119 [(0, .ref (E.2.2.2 + iC_rest)), (1, .ref (E.2.2.2 + p0)), (2, .int p1), (3, .int p2), (4, .int x6), (5, .long q12), (7, .int x15)] [.int q20, .int ((μ16.1 p0 1) - v19), .int (μ16.1 p0 1)] (xσ μ16 R8) n 0 0
              refine ev_iadd dX6_gatherOthers_119 ?_
              refine ev_mmax ⟨m_1124, m_534, m_124, m_535⟩ (Nat.le_trans (by decide) hd) (xlo2 (Nat.le_trans (by decide) hd)) (Nat.le_of_ble_eq_true rfl) (Nat.zero_le _) (Nat.zero_le _) dX6_gatherOthers_120 ?_
              obtain ⟨x21, hx21, h⟩ := xlt_some h
              refine xv_istore (L' := [(8, .int x21), (0, .ref (E.2.2.2 + iC_rest)), (1, .ref (E.2.2.2 + p0)), (2, .int p1), (3, .int p2), (4, .int x6), (5, .long q12), (7, .int x15)]) hx21 dX6_gatherOthers_123 (Nat.le_of_ble_eq_true rfl) rfl ?_
              refine ev_aload_n 1 dX6_gatherOthers_125 rfl rfl ?_
              refine xv_getF (a := iC_rest_each) cl_6 lk_RX6_29 kd_49 (xl hF rfl) (fun _ => rfl) (fr_49_6 hF) dX6_gatherOthers_126 ?_
              refine ev_iload 0 dX6_gatherOthers_129 rfl ?_
              refine ev_lload 6 dX6_gatherOthers_131 rfl ?_
              refine ev_aload_n 1 dX6_gatherOthers_133 rfl rfl ?_
              refine xv_getF (a := iC_ways) cl_6 lk_RX6_36 kd_49 (xl hF rfl) (fun _ => rfl) (fr_49_1 hF) dX6_gatherOthers_134 ?_
              refine ev_iload 5 dX6_gatherOthers_137 rfl ?_
              refine ev_iload 7 dX6_gatherOthers_139 rfl ?_
              obtain ⟨q22, hq22, h⟩ := xbd_some h
              refine ev_callV (ci := 10) (rest := [.long q12, .int x21, .ref (E.2.2.2 + iC_rest_each)]) 2 (kX10_weightOf (E := E) (d := 1) (QQ := (fun v τ n' => v = some (.int q22) ∧ τ = xσ μ16 R8 ∧ n = n')) (Nat.le_refl _) hF hq22 (⟨rfl, rfl, rfl⟩)) my_X10_weightOf ⟨m_1125, m_1010, m_1011⟩ cl_10 kd_42 (xl hF rfl) rfl rfl (Nat.le_of_ble_eq_true rfl) (Nat.le_trans (by decide) hd) (xlo (by decide) (Nat.le_trans (by decide) hd)) (Nat.zero_le _) (Nat.zero_le _) dX6_gatherOthers_141 (fun v τ n' hv => ?_)
              obtain ⟨rfl, rfl, rfl⟩ := hv
              show Ev E (xcm E d 0 0 QQ) Y_X6_gatherOthers 144 [(8, .int x21), (0, .ref (E.2.2.2 + iC_rest)), (1, .ref (E.2.2.2 + p0)), (2, .int p1), (3, .int p2), (4, .int x6), (5, .long q12), (7, .int x15)] [.int q22, .long q12, .int x21, .ref (E.2.2.2 + iC_rest_each)] (xσ μ16 R8) n 0 0
              refine ev_i2l dX6_gatherOthers_144 ?_
              refine ev_lmul dX6_gatherOthers_145 ?_
              obtain ⟨q23, hq23, h⟩ := xbd_some h
              refine ev_callV (ci := 8) (rest := []) 2 (kX8_add (E := E) (d := 0) (QQ := (fun v τ n' => v = none ∧ τ = xσ q23 R8 ∧ n = n')) (Nat.le_refl _) hF (st_58 hF) hq23 (⟨rfl, rfl, rfl⟩)) my_X8_add ⟨m_1113, m_1114, m_1115⟩ cl_8 kd_58 (xl hF rfl) rfl rfl (Nat.le_of_ble_eq_true rfl) (Nat.le_trans (by decide) hd) (xlo (by decide) (Nat.le_trans (by decide) hd)) (Nat.zero_le _) (Nat.zero_le _) dX6_gatherOthers_146 (fun v τ n' hv => ?_)
              obtain ⟨rfl, rfl, rfl⟩ := hv
              show Ev E (xcm E d 0 0 QQ) Y_X6_gatherOthers 149 [(8, .int x21), (0, .ref (E.2.2.2 + iC_rest)), (1, .ref (E.2.2.2 + p0)), (2, .int p1), (3, .int p2), (4, .int x6), (5, .long q12), (7, .int x15)] [] (xσ q23 R8) n 0 0
              refine ev_aload_n 1 dX6_gatherOthers_149 rfl rfl ?_
              refine ev_iload 0 dX6_gatherOthers_150 rfl ?_
              refine ev_aload_n 1 dX6_gatherOthers_152 rfl rfl ?_
              refine xv_getF (a := iC_ways) cl_6 lk_RX6_36 kd_49 (xl hF rfl) (fun _ => rfl) (fr_49_1 hF) dX6_gatherOthers_153 ?_
              refine ev_iload 5 dX6_gatherOthers_156 rfl ?_
              refine ev_iload 7 dX6_gatherOthers_158 rfl ?_
              obtain ⟨q24, hq24, h⟩ := xbd_some h
              refine ev_callV (ci := 10) (rest := [.int x21, .ref (E.2.2.2 + iC_rest)]) 2 (kX10_weightOf (E := E) (d := 1) (QQ := (fun v τ n' => v = some (.int q24) ∧ τ = xσ q23 R8 ∧ n = n')) (Nat.le_refl _) hF hq24 (⟨rfl, rfl, rfl⟩)) my_X10_weightOf ⟨m_1125, m_1010, m_1011⟩ cl_10 kd_42 (xl hF rfl) rfl rfl (Nat.le_of_ble_eq_true rfl) (Nat.le_trans (by decide) hd) (xlo (by decide) (Nat.le_trans (by decide) hd)) (Nat.zero_le _) (Nat.zero_le _) dX6_gatherOthers_160 (fun v τ n' hv => ?_)
              obtain ⟨rfl, rfl, rfl⟩ := hv
              show Ev E (xcm E d 0 0 QQ) Y_X6_gatherOthers 163 [(8, .int x21), (0, .ref (E.2.2.2 + iC_rest)), (1, .ref (E.2.2.2 + p0)), (2, .int p1), (3, .int p2), (4, .int x6), (5, .long q12), (7, .int x15)] [.int q24, .int x21, .ref (E.2.2.2 + iC_rest)] (xσ q23 R8) n 0 0
              obtain ⟨q25, hq25, h⟩ := xbd_some h
              refine ev_callV (ci := 6) (rest := []) 2 (kX6_spreadLasts (E := E) (d := 1) (QQ := (fun v τ n' => v = none ∧ τ = xσ q25 R8 ∧ n = n')) (Nat.le_refl _) hF hq25 (⟨rfl, rfl, rfl⟩)) my_X6_spreadLasts ⟨m_1126, m_1128, m_36⟩ cl_6 kd_49 (xl hF rfl) rfl rfl (Nat.le_of_ble_eq_true rfl) (Nat.le_trans (by decide) hd) (xlo (by decide) (Nat.le_trans (by decide) hd)) (Nat.zero_le _) (Nat.zero_le _) dX6_gatherOthers_163 (fun v τ n' hv => ?_)
              obtain ⟨rfl, rfl, rfl⟩ := hv
              show Ev E (xcm E d 0 0 QQ) Y_X6_gatherOthers 166 [(8, .int x21), (0, .ref (E.2.2.2 + iC_rest)), (1, .ref (E.2.2.2 + p0)), (2, .int p1), (3, .int p2), (4, .int x6), (5, .long q12), (7, .int x15)] [] (xσ q25 R8) n 0 0
              obtain ⟨x26, hx26, h⟩ := xlt_some h
              refine ev_iinc (L' := [(7, .int x26), (8, .int x21), (0, .ref (E.2.2.2 + iC_rest)), (1, .ref (E.2.2.2 + p0)), (2, .int p1), (3, .int p2), (4, .int x6), (5, .long q12)]) 7 dX6_gatherOthers_166 rfl ((by rfl : x15 + Int32.ofInt 1 = x15 + 1).trans hx26) (Nat.le_of_ble_eq_true rfl) rfl ?_
              refine ev_goto (tgt := 77) dX6_gatherOthers_169 (by decide) ?_
              cases h
              replace hk := xel_l hk
              exact ev_sub [2, 3, 4, 5, 6, 7, 0] rfl (hk)
          · show Ev E (xcm E d 0 0 QQ) Y_X6_gatherOthers 172 [(0, .ref (E.2.2.2 + iC_rest)), (1, .ref (E.2.2.2 + p0)), (2, .int p1), (3, .int p2), (4, .int x6)] [] (xσ q27 R8) n 0 0
            refine ev_aload_n 0 dX6_gatherOthers_172 rfl rfl ?_
            refine xv_getR cl_6 lk_RX6_22 kd_49 (xl hF rfl) (fun _ => rfl) dX6_gatherOthers_173 ?_
            obtain ⟨a28, ha28, h⟩ := xbd_some h
            refine xv_nn ha28 ?_
            replace ha28 := dy_49_4 hF _ ha28
            refine ev_astore (L' := [(7, .ref (E.2.2.2 + a28)), (0, .ref (E.2.2.2 + iC_rest)), (1, .ref (E.2.2.2 + p0)), (2, .int p1), (3, .int p2), (4, .int x6)]) dX6_gatherOthers_176 (Nat.le_of_ble_eq_true rfl) rfl ?_
            refine ev_aload_n 1 dX6_gatherOthers_178 rfl rfl ?_
            refine ev_aload_n 1 dX6_gatherOthers_179 rfl rfl ?_
            refine xv_getR cl_6 lk_RX6_26 kd_49 (xl hF rfl) (fun _ => rfl) dX6_gatherOthers_180 ?_
            obtain ⟨a29, ha29, h⟩ := xbd_some h
            refine xv_nn ha29 ?_
            replace ha29 := dy_49_5 hF _ ha29
            obtain ⟨R30, hR30, h⟩ := xlt_some h
            refine xv_putR cl_6 lk_RX6_22 rfl kd_49 (xl hF rfl) (fun _ => rfl) (fun _ => rfl) (fun _ => rfl) hR30 dX6_gatherOthers_183 ?_
            replace hF := dw_49_4 hF ha29 hR30
            refine ev_aload_n 1 dX6_gatherOthers_186 rfl rfl ?_
            refine ev_aload 0 dX6_gatherOthers_187 rfl ?_
            obtain ⟨R31, hR31, h⟩ := xlt_some h
            refine xv_putR cl_6 lk_RX6_26 rfl kd_49 (xl hF rfl) (fun _ => rfl) (fun _ => rfl) (fun _ => rfl) hR31 dX6_gatherOthers_189 ?_
            replace hF := dw_49_5 hF ha28 hR31
            obtain ⟨x32, hx32, h⟩ := xlt_some h
            refine ev_iinc (L' := [(4, .int x32), (7, .ref (E.2.2.2 + a28)), (0, .ref (E.2.2.2 + iC_rest)), (1, .ref (E.2.2.2 + p0)), (2, .int p1), (3, .int p2)]) 5 dX6_gatherOthers_192 rfl ((by rfl : x6 + Int32.ofInt 1 = x6 + 1).trans hx32) (Nat.le_of_ble_eq_true rfl) rfl ?_
            refine ev_goto (tgt := 29) dX6_gatherOthers_195 (by decide) ?_
            cases h
            replace hk := xel_l hk
            exact ev_sub [2, 3, 4, 5, 0] rfl (hk hF)
        · replace h := xif_t c51 h
          refine ev_goto (tgt := 192) dX6_gatherOthers_54 (by decide) ?_
          obtain ⟨x33, hx33, h⟩ := xlt_some h
          refine ev_iinc (L' := [(4, .int x33), (0, .ref (E.2.2.2 + iC_rest)), (1, .ref (E.2.2.2 + p0)), (2, .int p1), (3, .int p2)]) 4 dX6_gatherOthers_192 rfl ((by rfl : x6 + Int32.ofInt 1 = x6 + 1).trans hx33) (Nat.le_of_ble_eq_true rfl) rfl ?_
          refine ev_goto (tgt := 29) dX6_gatherOthers_195 (by decide) ?_
          cases h
          replace hk := xel_l hk
          exact ev_sub [1, 2, 3, 4, 0] rfl (hk hF)
  · intro hF
    show Ev E (xcm E d 0 0 QQ) Y_X6_gatherOthers 198 [] [] (xσ q34.1 q34.2) n 0 0
    cases h
    exact ev_vret rfl (hQ hF) dX6_gatherOthers_198 (Nat.zero_le _) (Nat.zero_le _)
def fX7_send_b22 (x4 : Int32) (x5 : Int32) (x6 : Int32) (μ : xm) : Option ((Int32 × Int32 × Int32) ⊕ ((Int32 × Int32) ⊕ (Int32 × xm))) := if 8 ≤ x6 then (some (.inr (.inl (x4, x5)))) else (xbd (xgI μ iC_striking_from 8 x5) fun v8 => if v8 = (-1) then (some (.inr (.inl (x4, x5)))) else (xbd (xgI μ iC_striking_from 8 x5) fun v9 => xbd (fX11_isPerson v9) fun q10 => if q10 = 0 then (some (.inr (.inr (0, μ)))) else (xbd (fX7_room v9 x5 μ) fun q11 => xlt (xmin x4 q11) fun x12 => xlt (x6 + 1) fun x13 => some (.inl (x12, v9, x13)))))
def fX7_send (p0 : Int32) (μ : xm) : Option (Int32 × xm) := xbd (fX11_isPerson p0) fun q1 => if q1 = 0 then (some (0, μ)) else (xbd (xgI μ iC_striking_balance 8 p0) fun v2 => xlt (-v2) fun x3 => xbd (xloop xfu (fun v => fX7_send_b22 v.1 v.2.1 v.2.2 μ) (x3, p0, 0)) fun q14 => xsm q14 (fun q15 => xbd (xgI μ iC_striking_balance 8 q15.2) fun v17 => xlt (xmin q15.1 v17) fun x18 => xbd (xgI μ iC_striking_balance 8 q15.2) fun v19 => xbd (xsI μ iC_striking_balance 8 q15.2 (v19 - x18)) fun μ20 => xbd (xgI μ20 iC_striking_balance 8 p0) fun v21 => xbd (xsI μ20 iC_striking_balance 8 p0 (v21 + x18)) fun μ22 => xbd (fX7_moveAlong p0 x18 μ22) fun q23 => some (x18, q23)) (fun q16 => some q16))
set_option maxHeartbeats 4000000 in
set_option maxRecDepth 100000 in
theorem kX7_send {E : xE} {d : Nat} {QQ : xP} (hd : 3 ≤ d) {p0 : Int32} {μ : xm} {R : xr} {n : Nat} (hF : xFin R n)  {res : Int32 × xm} (h : fX7_send p0 μ = some res) (hQ : QQ (some (.int res.1)) (xσ res.2 R) n) : xCon E d Y_X7_send 0 0 [.ref (E.2.2.2 + iC_striking), .int p0] (xσ μ R) n QQ := by
  refine xCon_of pn_RX7 (Nat.le_of_ble_eq_true rfl) (L0 := [(0, .ref (E.2.2.2 + iC_striking)), (1, .int p0)]) rfl ?_
  unfold fX7_send at h
  refine ev_iload_n 1 dX7_send_0 rfl rfl ?_
  obtain ⟨q1, hq1, h⟩ := xbd_some h
  refine ev_callSN (As := [.int p0]) (rest := []) 1 (kX11_isPerson (E := E) (d := 0) (QQ := (fun v τ n' => v = some (.int q1) ∧ τ = xσ μ R ∧ n = n')) (Nat.le_refl _)  hq1 (⟨rfl, rfl, rfl⟩)) my_X11_isPerson ⟨⟨_, xnm_9⟩, m_436⟩ rfl rfl (Nat.le_of_ble_eq_true rfl) (Nat.le_trans (by decide) hd) (xlo (by decide) (Nat.le_trans (by decide) hd)) (Nat.zero_le _) (Nat.zero_le _) dX7_send_1 (fun v τ n' hv => ?_)
  obtain ⟨rfl, rfl, rfl⟩ := hv
  show Ev E (xcm E d 0 0 QQ) Y_X7_send 4 [(0, .ref (E.2.2.2 + iC_striking)), (1, .int p0)] [.int q1] (xσ μ R) n 0 0
  refine ev_if_ne (tgt := 9) dX7_send_4 (by decide) (fun c4 => ?_) (fun c4 => ?_)
  · replace h := xif_f c4 h
    refine ev_aload_n 0 dX7_send_9 rfl rfl ?_
    refine xv_getF (a := iC_striking_balance) cl_7 lk_RX7_18 kd_35 (xl hF rfl) (fun _ => rfl) (fr_35_2 hF) dX7_send_10 ?_
    refine ev_iload_n 1 dX7_send_13 rfl rfl ?_
    obtain ⟨v2, hv2, h⟩ := xbd_some h
    refine xv_iald kd_38 (xl hF rfl) hv2 dX7_send_14 ?_
    refine ev_ineg dX7_send_15 ?_
    obtain ⟨x3, hx3, h⟩ := xlt_some h
    refine xv_istore_n (L' := [(2, .int x3), (0, .ref (E.2.2.2 + iC_striking)), (1, .int p0)]) hx3 dX7_send_16 rfl (Nat.le_of_ble_eq_true rfl) rfl ?_
    refine ev_iload_n 2 dX7_send_17 rfl rfl ?_
    refine xv_istore_n (L' := [(3, .int p0), (2, .int x3), (0, .ref (E.2.2.2 + iC_striking)), (1, .int p0)]) rfl dX7_send_18 rfl (Nat.le_of_ble_eq_true rfl) rfl ?_
    refine ev_iconst (v := 0) dX7_send_19 (by decide) ?_
    refine xv_istore (L' := [(4, .int 0), (3, .int p0), (2, .int x3), (0, .ref (E.2.2.2 + iC_striking)), (1, .int p0)]) rfl dX7_send_20 (Nat.le_of_ble_eq_true rfl) rfl ?_
    obtain ⟨q14, hq14, h⟩ := xbd_some h
    refine ev_sub (L' := [(0, .ref (E.2.2.2 + iC_striking)), (1, .int p0), (2, .int x3), (3, .int p0), (4, .int 0)]) [3, 4, 2, 1, 0] rfl ?_
    refine xloop_run (fun v => Ev E (xcm E d 0 0 QQ) Y_X7_send 22 [(0, .ref (E.2.2.2 + iC_striking)), (1, .int p0), (2, .int v.1), (3, .int v.2.1), (4, .int v.2.2)] [] (xσ μ R) n 0 0) (xel (fun v => Ev E (xcm E d 0 0 QQ) Y_X7_send 78 [(0, .ref (E.2.2.2 + iC_striking)), (1, .int p0), (2, .int v.1), (3, .int v.2)] [] (xσ μ R) n 0 0) (fun v => QQ (some (.int v.1)) (xσ v.2 R) n)) ?_ _ _ _ hq14 ?_
    · rintro ⟨x4, x5, x6⟩ y7 h hk
      replace h : fX7_send_b22 x4 x5 x6 μ = some y7 := h
      show Ev E (xcm E d 0 0 QQ) Y_X7_send 22 [(0, .ref (E.2.2.2 + iC_striking)), (1, .int p0), (2, .int x4), (3, .int x5), (4, .int x6)] [] (xσ μ R) n 0 0
      unfold fX7_send_b22 at h
      refine ev_iload 4 dX7_send_22 rfl ?_
      refine ev_bipush (v := 8) dX7_send_24 (by decide) ?_
      refine ev_icmp_ge (tgt := 78) dX7_send_26 (by decide) (fun c26 => ?_) (fun c26 => ?_)
      · replace h := xif_t c26 h
        cases h
        replace hk := xel_r hk
        replace hk := xel_l hk
        exact ev_sub [0, 1, 2, 3] rfl (hk)
      · replace h := xif_f c26 h
        refine ev_aload_n 0 dX7_send_29 rfl rfl ?_
        refine xv_getF (a := iC_striking_from) cl_7 lk_RX7_24 kd_35 (xl hF rfl) (fun _ => rfl) (fr_35_4 hF) dX7_send_30 ?_
        refine ev_iload_n 3 dX7_send_33 rfl rfl ?_
        obtain ⟨v8, hv8, h⟩ := xbd_some h
        refine xv_iald kd_40 (xl hF rfl) hv8 dX7_send_34 ?_
        refine ev_iconst (v := (-1)) dX7_send_35 (by decide) ?_
        refine ev_icmp_eq (tgt := 78) dX7_send_36 (by decide) (fun c36 => ?_) (fun c36 => ?_)
        · replace h := xif_t c36 h
          cases h
          replace hk := xel_r hk
          replace hk := xel_l hk
          exact ev_sub [0, 1, 2, 3] rfl (hk)
        · replace h := xif_f c36 h
          refine ev_aload_n 0 dX7_send_39 rfl rfl ?_
          refine xv_getF (a := iC_striking_from) cl_7 lk_RX7_24 kd_35 (xl hF rfl) (fun _ => rfl) (fr_35_4 hF) dX7_send_40 ?_
          refine ev_iload_n 3 dX7_send_43 rfl rfl ?_
          obtain ⟨v9, hv9, h⟩ := xbd_some h
          refine xv_iald kd_40 (xl hF rfl) hv9 dX7_send_44 ?_
          refine xv_istore (L' := [(5, .int v9), (0, .ref (E.2.2.2 + iC_striking)), (1, .int p0), (2, .int x4), (3, .int x5), (4, .int x6)]) rfl dX7_send_45 (Nat.le_of_ble_eq_true rfl) rfl ?_
          refine ev_iload 0 dX7_send_47 rfl ?_
          obtain ⟨q10, hq10, h⟩ := xbd_some h
          refine ev_callSN (As := [.int v9]) (rest := []) 1 (kX11_isPerson (E := E) (d := 0) (QQ := (fun v τ n' => v = some (.int q10) ∧ τ = xσ μ R ∧ n = n')) (Nat.le_refl _)  hq10 (⟨rfl, rfl, rfl⟩)) my_X11_isPerson ⟨⟨_, xnm_9⟩, m_436⟩ rfl rfl (Nat.le_of_ble_eq_true rfl) (Nat.le_trans (by decide) hd) (xlo (by decide) (Nat.le_trans (by decide) hd)) (Nat.zero_le _) (Nat.zero_le _) dX7_send_49 (fun v τ n' hv => ?_)
          obtain ⟨rfl, rfl, rfl⟩ := hv
          show Ev E (xcm E d 0 0 QQ) Y_X7_send 52 [(5, .int v9), (0, .ref (E.2.2.2 + iC_striking)), (1, .int p0), (2, .int x4), (3, .int x5), (4, .int x6)] [.int q10] (xσ μ R) n 0 0
          refine ev_if_ne (tgt := 57) dX7_send_52 (by decide) (fun c52 => ?_) (fun c52 => ?_)
          · replace h := xif_f c52 h
            refine ev_iload_n 3 dX7_send_57 rfl rfl ?_
            refine ev_aload_n 1 dX7_send_58 rfl rfl ?_
            refine ev_iload 0 dX7_send_59 rfl ?_
            refine ev_iload_n 4 dX7_send_61 rfl rfl ?_
            obtain ⟨q11, hq11, h⟩ := xbd_some h
            refine ev_callV (ci := 7) (rest := [.int x4]) 2 (kX7_room (E := E) (d := 2) (QQ := (fun v τ n' => v = some (.int q11) ∧ τ = xσ μ R ∧ n = n')) (Nat.le_refl _) hF hq11 (⟨rfl, rfl, rfl⟩)) my_X7_room ⟨m_916, m_918, m_21⟩ cl_7 kd_35 (xl hF rfl) rfl rfl (Nat.le_of_ble_eq_true rfl) (Nat.le_trans (by decide) hd) (xlo (by decide) (Nat.le_trans (by decide) hd)) (Nat.zero_le _) (Nat.zero_le _) dX7_send_62 (fun v τ n' hv => ?_)
            obtain ⟨rfl, rfl, rfl⟩ := hv
            show Ev E (xcm E d 0 0 QQ) Y_X7_send 65 [(5, .int v9), (0, .ref (E.2.2.2 + iC_striking)), (1, .int p0), (2, .int x4), (3, .int x5), (4, .int x6)] [.int q11, .int x4] (xσ μ R) n 0 0
            refine ev_mmin ⟨m_940, m_531, m_124, m_532⟩ (Nat.le_trans (by decide) hd) (xlo2 (Nat.le_trans (by decide) hd)) (Nat.le_of_ble_eq_true rfl) (Nat.zero_le _) (Nat.zero_le _) dX7_send_65 ?_
            obtain ⟨x12, hx12, h⟩ := xlt_some h
            refine xv_istore_n (L' := [(2, .int x12), (5, .int v9), (0, .ref (E.2.2.2 + iC_striking)), (1, .int p0), (3, .int x5), (4, .int x6)]) hx12 dX7_send_68 rfl (Nat.le_of_ble_eq_true rfl) rfl ?_
            refine ev_iload 1 dX7_send_69 rfl ?_
            refine xv_istore_n (L' := [(3, .int v9), (2, .int x12), (5, .int v9), (0, .ref (E.2.2.2 + iC_striking)), (1, .int p0), (4, .int x6)]) rfl dX7_send_71 rfl (Nat.le_of_ble_eq_true rfl) rfl ?_
            obtain ⟨x13, hx13, h⟩ := xlt_some h
            refine ev_iinc (L' := [(4, .int x13), (3, .int v9), (2, .int x12), (5, .int v9), (0, .ref (E.2.2.2 + iC_striking)), (1, .int p0)]) 5 dX7_send_72 rfl ((by rfl : x6 + Int32.ofInt 1 = x6 + 1).trans hx13) (Nat.le_of_ble_eq_true rfl) rfl ?_
            refine ev_goto (tgt := 22) dX7_send_75 (by decide) ?_
            cases h
            replace hk := xel_l hk
            exact ev_sub [4, 5, 2, 1, 0] rfl (hk)
          · replace h := xif_t c52 h
            refine ev_iconst (v := 0) dX7_send_55 (by decide) ?_
            cases h
            replace hk := xel_r hk
            replace hk := xel_r hk
            exact ev_iret rfl (hk) dX7_send_56 (Nat.zero_le _) (Nat.zero_le _)
    · rcases q14 with q15 | q16
      · replace h := xsm_l h
        show Ev E (xcm E d 0 0 QQ) Y_X7_send 78 [(0, .ref (E.2.2.2 + iC_striking)), (1, .int p0), (2, .int q15.1), (3, .int q15.2)] [] (xσ μ R) n 0 0
        refine ev_iload_n 2 dX7_send_78 rfl rfl ?_
        refine ev_aload_n 0 dX7_send_79 rfl rfl ?_
        refine xv_getF (a := iC_striking_balance) cl_7 lk_RX7_18 kd_35 (xl hF rfl) (fun _ => rfl) (fr_35_2 hF) dX7_send_80 ?_
        refine ev_iload_n 3 dX7_send_83 rfl rfl ?_
        obtain ⟨v17, hv17, h⟩ := xbd_some h
        refine xv_iald kd_38 (xl hF rfl) hv17 dX7_send_84 ?_
        refine ev_mmin ⟨m_940, m_531, m_124, m_532⟩ (Nat.le_trans (by decide) hd) (xlo2 (Nat.le_trans (by decide) hd)) (Nat.le_of_ble_eq_true rfl) (Nat.zero_le _) (Nat.zero_le _) dX7_send_85 ?_
        obtain ⟨x18, hx18, h⟩ := xlt_some h
        refine xv_istore_n (L' := [(2, .int x18), (0, .ref (E.2.2.2 + iC_striking)), (1, .int p0), (3, .int q15.2)]) hx18 dX7_send_88 rfl (Nat.le_of_ble_eq_true rfl) rfl ?_
        refine ev_aload_n 1 dX7_send_89 rfl rfl ?_
        refine xv_getF (a := iC_striking_balance) cl_7 lk_RX7_18 kd_35 (xl hF rfl) (fun _ => rfl) (fr_35_2 hF) dX7_send_90 ?_
        refine ev_iload_n 3 dX7_send_93 rfl rfl ?_
        refine ev_dup2 dX7_send_94 rfl rfl ?_
        obtain ⟨v19, hv19, h⟩ := xbd_some h
        refine xv_iald kd_38 (xl hF rfl) hv19 dX7_send_95 ?_
        refine ev_iload_n 0 dX7_send_96 rfl rfl ?_
        refine ev_isub dX7_send_97 ?_
        obtain ⟨μ20, hμ20, h⟩ := xbd_some h
        refine xv_iast kd_38 (xl hF rfl) hμ20 dX7_send_98 ?_
        refine ev_aload_n 1 dX7_send_99 rfl rfl ?_
        refine xv_getF (a := iC_striking_balance) cl_7 lk_RX7_18 kd_35 (xl hF rfl) (fun _ => rfl) (fr_35_2 hF) dX7_send_100 ?_
        refine ev_iload_n 2 dX7_send_103 rfl rfl ?_
        refine ev_dup2 dX7_send_104 rfl rfl ?_
        obtain ⟨v21, hv21, h⟩ := xbd_some h
        refine xv_iald kd_38 (xl hF rfl) hv21 dX7_send_105 ?_
        refine ev_iload_n 0 dX7_send_106 rfl rfl ?_
        refine ev_iadd dX7_send_107 ?_
        obtain ⟨μ22, hμ22, h⟩ := xbd_some h
        refine xv_iast kd_38 (xl hF rfl) hμ22 dX7_send_108 ?_
        refine ev_aload_n 1 dX7_send_109 rfl rfl ?_
        refine ev_iload_n 2 dX7_send_110 rfl rfl ?_
        refine ev_iload_n 0 dX7_send_111 rfl rfl ?_
        obtain ⟨q23, hq23, h⟩ := xbd_some h
        refine ev_callV (ci := 7) (rest := []) 2 (kX7_moveAlong (E := E) (d := 2) (QQ := (fun v τ n' => v = none ∧ τ = xσ q23 R ∧ n = n')) (Nat.le_refl _) hF hq23 (⟨rfl, rfl, rfl⟩)) my_X7_moveAlong ⟨m_941, m_943, m_27⟩ cl_7 kd_35 (xl hF rfl) rfl rfl (Nat.le_of_ble_eq_true rfl) (Nat.le_trans (by decide) hd) (xlo (by decide) (Nat.le_trans (by decide) hd)) (Nat.zero_le _) (Nat.zero_le _) dX7_send_112 (fun v τ n' hv => ?_)
        obtain ⟨rfl, rfl, rfl⟩ := hv
        show Ev E (xcm E d 0 0 QQ) Y_X7_send 115 [(2, .int x18), (0, .ref (E.2.2.2 + iC_striking)), (1, .int p0), (3, .int q15.2)] [] (xσ q23 R) n 0 0
        refine ev_iload_n 0 dX7_send_115 rfl rfl ?_
        cases h
        exact ev_iret rfl (hQ) dX7_send_116 (Nat.zero_le _) (Nat.zero_le _)
      · replace h := xsm_r h
        cases h
        exact hQ
  · replace h := xif_t c4 h
    refine ev_iconst (v := 0) dX7_send_7 (by decide) ?_
    cases h
    exact ev_iret rfl (hQ) dX7_send_8 (Nat.zero_le _) (Nat.zero_le _)
