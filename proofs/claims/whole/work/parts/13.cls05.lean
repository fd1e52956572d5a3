def fX10_lateEnds_b6 (x1 : Int32) (x2 : Int32) (p0 : Int32) (p1 : Int32) (p2 : Int32) (μ : xm) : Option ((Int32 × Int32) ⊕ (Int32)) := xbd (fX10_endsOf p0 μ) fun q4 => if q4 ≤ x2 then (some (.inr x1)) else (xbd (fX10_takes p0 x2 p2 μ) fun q5 => if q5 ≤ p1 then (xlt (x2 + 1) fun x6 => some (.inl (x1, x6))) else (xbd (fX10_weightOf p0 x2 μ) fun q7 => xlt (x1 + q7) fun x8 => xlt (x2 + 1) fun x9 => some (.inl (x8, x9))))
def fX10_lateEnds (p0 : Int32) (p1 : Int32) (p2 : Int32) (μ : xm) : Option (Int32) := xbd (xloop xfu (fun v => fX10_lateEnds_b6 v.1 v.2 p0 p1 p2 μ) (0, 0)) fun q10 => some q10
set_option maxHeartbeats 4000000 in
set_option maxRecDepth 100000 in
theorem kX10_lateEnds {E : xE} {d : Nat} {QQ : xP} (hd : 2 ≤ d) {p0 : Int32} {p1 : Int32} {p2 : Int32} {μ : xm} {R : xr} {n : Nat} (hF : xFin R n)  {res : Int32} (h : fX10_lateEnds p0 p1 p2 μ = some res) (hQ : QQ (some (.int res)) (xσ μ R) n) : xCon E d Y_X10_lateEnds 0 0 [.ref (E.2.2.2 + iC_ways), .int p0, .int p1, .int p2] (xσ μ R) n QQ := by
  refine xCon_of pn_RX10 (Nat.le_of_ble_eq_true rfl) (L0 := [(0, .ref (E.2.2.2 + iC_ways)), (1, .int p0), (2, .int p1), (3, .int p2)]) rfl ?_
  unfold fX10_lateEnds at h
  refine ev_iconst (v := 0) dX10_lateEnds_0 (by decide) ?_
  refine xv_istore (L' := [(4, .int 0), (0, .ref (E.2.2.2 + iC_ways)), (1, .int p0), (2, .int p1), (3, .int p2)]) rfl dX10_lateEnds_1 (Nat.le_of_ble_eq_true rfl) rfl ?_
  refine ev_iconst (v := 0) dX10_lateEnds_3 (by decide) ?_
  refine xv_istore (L' := [(5, .int 0), (4, .int 0), (0, .ref (E.2.2.2 + iC_ways)), (1, .int p0), (2, .int p1), (3, .int p2)]) rfl dX10_lateEnds_4 (Nat.le_of_ble_eq_true rfl) rfl ?_
  obtain ⟨q10, hq10, h⟩ := xbd_some h
  refine ev_sub (L' := [(0, .ref (E.2.2.2 + iC_ways)), (1, .int p0), (2, .int p1), (3, .int p2), (4, .int 0), (5, .int 0)]) [2, 3, 4, 5, 1, 0] rfl ?_
  refine xloop_run (fun v => Ev E (xcm E d 0 0 QQ) Y_X10_lateEnds 6 [(0, .ref (E.2.2.2 + iC_ways)), (1, .int p0), (2, .int p1), (3, .int p2), (4, .int v.1), (5, .int v.2)] [] (xσ μ R) n 0 0) (fun v => Ev E (xcm E d 0 0 QQ) Y_X10_lateEnds 46 [(4, .int v)] [] (xσ μ R) n 0 0) ?_ _ _ _ hq10 ?_
  · rintro ⟨x1, x2⟩ y3 h hk
    replace h : fX10_lateEnds_b6 x1 x2 p0 p1 p2 μ = some y3 := h
    show Ev E (xcm E d 0 0 QQ) Y_X10_lateEnds 6 [(0, .ref (E.2.2.2 + iC_ways)), (1, .int p0), (2, .int p1), (3, .int p2), (4, .int x1), (5, .int x2)] [] (xσ μ R) n 0 0
    unfold fX10_lateEnds_b6 at h
    refine ev_iload 5 dX10_lateEnds_6 rfl ?_
    refine ev_aload_n 0 dX10_lateEnds_8 rfl rfl ?_
    refine ev_iload_n 1 dX10_lateEnds_9 rfl rfl ?_
    obtain ⟨q4, hq4, h⟩ := xbd_some h
    refine ev_callV (ci := 10) (rest := [.int x2]) 1 (kX10_endsOf (E := E) (d := 1) (QQ := (fun v τ n' => v = some (.int q4) ∧ τ = xσ μ R ∧ n = n')) (Nat.le_refl _) hF hq4 (⟨rfl, rfl, rfl⟩)) my_X10_endsOf ⟨m_999, m_1000, m_1001⟩ cl_10 kd_42 (xl hF rfl) rfl rfl (Nat.le_of_ble_eq_true rfl) (Nat.le_trans (by decide) hd) (xlo (by decide) (Nat.le_trans (by decide) hd)) (Nat.zero_le _) (Nat.zero_le _) dX10_lateEnds_10 (fun v τ n' hv => ?_)
    obtain ⟨rfl, rfl, rfl⟩ := hv
    show Ev E (xcm E d 0 0 QQ) Y_X10_lateEnds 13 [(0, .ref (E.2.2.2 + iC_ways)), (1, .int p0), (2, .int p1), (3, .int p2), (4, .int x1), (5, .int x2)] [.int q4, .int x2] (xσ μ R) n 0 0
    refine ev_icmp_ge (tgt := 46) dX10_lateEnds_13 (by decide) (fun c13 => ?_) (fun c13 => ?_)
    · replace h := xif_t c13 h
      cases h
      replace hk := xel_r hk
      exact ev_sub [4] rfl (hk)
    · replace h := xif_f c13 h
      refine ev_aload_n 0 dX10_lateEnds_16 rfl rfl ?_
      refine ev_iload_n 1 dX10_lateEnds_17 rfl rfl ?_
      refine ev_iload 5 dX10_lateEnds_18 rfl ?_
      refine ev_iload_n 3 dX10_lateEnds_20 rfl rfl ?_
      obtain ⟨q5, hq5, h⟩ := xbd_some h
      refine ev_callV (ci := 10) (rest := []) 3 (kX10_takes (E := E) (d := 1) (QQ := (fun v τ n' => v = some (.int q5) ∧ τ = xσ μ R ∧ n = n')) (Nat.le_refl _) hF hq5 (⟨rfl, rfl, rfl⟩)) my_X10_takes ⟨m_1004, m_1005, m_1006⟩ cl_10 kd_42 (xl hF rfl) rfl rfl (Nat.le_of_ble_eq_true rfl) (Nat.le_trans (by decide) hd) (xlo (by decide) (Nat.le_trans (by decide) hd)) (Nat.zero_le _) (Nat.zero_le _) dX10_lateEnds_21 (fun v τ n' hv => ?_)
      obtain ⟨rfl, rfl, rfl⟩ := hv
      show Ev E (xcm E d 0 0 QQ) Y_X10_lateEnds 24 [(0, .ref (E.2.2.2 + iC_ways)), (1, .int p0), (2, .int p1), (3, .int p2), (4, .int x1), (5, .int x2)] [.int q5] (xσ μ R) n 0 0
      refine ev_iload_n 2 dX10_lateEnds_24 rfl rfl ?_
      refine ev_icmp_le (tgt := 40) dX10_lateEnds_25 (by decide) (fun c25 => ?_) (fun c25 => ?_)
      · replace h := xif_t c25 h
        obtain ⟨x6, hx6, h⟩ := xlt_some h
        refine ev_iinc (L' := [(5, .int x6), (0, .ref (E.2.2.2 + iC_ways)), (1, .int p0), (2, .int p1), (3, .int p2), (4, .int x1)]) 5 dX10_lateEnds_40 rfl ((by rfl : x2 + Int32.ofInt 1 = x2 + 1).trans hx6) (Nat.le_of_ble_eq_true rfl) rfl ?_
        refine ev_goto (tgt := 6) dX10_lateEnds_43 (by decide) ?_
        cases h
        replace hk := xel_l hk
        exact ev_sub [1, 2, 3, 4, 5, 0] rfl (hk)
      · replace h := xif_f c25 h
        refine ev_iload 4 dX10_lateEnds_28 rfl ?_
        refine ev_aload_n 0 dX10_lateEnds_30 rfl rfl ?_
        refine ev_iload_n 1 dX10_lateEnds_31 rfl rfl ?_
        refine ev_iload 5 dX10_lateEnds_32 rfl ?_
        obtain ⟨q7, hq7, h⟩ := xbd_some h
        refine ev_callV (ci := 10) (rest := [.int x1]) 2 (kX10_weightOf (E := E) (d := 1) (QQ := (fun v τ n' => v = some (.int q7) ∧ τ = xσ μ R ∧ n = n')) (Nat.le_refl _) hF hq7 (⟨rfl, rfl, rfl⟩)) my_X10_weightOf ⟨m_1009, m_1010, m_1011⟩ cl_10 kd_42 (xl hF rfl) rfl rfl (Nat.le_of_ble_eq_true rfl) (Nat.le_trans (by decide) hd) (xlo (by decide) (Nat.le_trans (by decide) hd)) (Nat.zero_le _) (Nat.zero_le _) dX10_lateEnds_34 (fun v τ n' hv => ?_)
        obtain ⟨rfl, rfl, rfl⟩ := hv
        show Ev E (xcm E d 0 0 QQ) Y_X10_lateEnds 37 [(0, .ref (E.2.2.2 + iC_ways)), (1, .int p0), (2, .int p1), (3, .int p2), (4, .int x1), (5, .int x2)] [.int q7, .int x1] (xσ μ R) n 0 0
        refine ev_iadd dX10_lateEnds_37 ?_
        obtain ⟨x8, hx8, h⟩ := xlt_some h
        refine xv_istore (L' := [(4, .int x8), (0, .ref (E.2.2.2 + iC_ways)), (1, .int p0), (2, .int p1), (3, .int p2), (5, .int x2)]) hx8 dX10_lateEnds_38 (Nat.le_of_ble_eq_true rfl) rfl ?_
        obtain ⟨x9, hx9, h⟩ := xlt_some h
        refine ev_iinc (L' := [(5, .int x9), (4, .int x8), (0, .ref (E.2.2.2 + iC_ways)), (1, .int p0), (2, .int p1), (3, .int p2)]) 5 dX10_lateEnds_40 rfl ((by rfl : x2 + Int32.ofInt 1 = x2 + 1).trans hx9) (Nat.le_of_ble_eq_true rfl) rfl ?_
        refine ev_goto (tgt := 6) dX10_lateEnds_43 (by decide) ?_
        cases h
        replace hk := xel_l hk
        exact ev_sub [2, 3, 4, 5, 1, 0] rfl (hk)
  · show Ev E (xcm E d 0 0 QQ) Y_X10_lateEnds 46 [(4, .int q10)] [] (xσ μ R) n 0 0
    refine ev_iload 0 dX10_lateEnds_46 rfl ?_
    cases h
    exact ev_iret rfl (hQ) dX10_lateEnds_48 (Nat.zero_le _) (Nat.zero_le _)
def fX11_begins (p0 : Int32) (μ : xm) (R : xr) : Option (Int32) := xbd (fX3_find p0 μ R) fun q1 => xop q1 (some (-1)) (fun a2 => xbd (fX2_start a2 μ) fun q3 => some q3)
set_option maxHeartbeats 4000000 in
set_option maxRecDepth 100000 in
theorem kX11_begins {E : xE} {d : Nat} {QQ : xP} (hd : 2 ≤ d) {p0 : Int32} {μ : xm} {R : xr} {n : Nat} (hF : xFin R n)  {res : Int32} (h : fX11_begins p0 μ R = some res) (hQ : QQ (some (.int res)) (xσ μ R) n) : xCon E d Y_X11_begins 0 0 [.ref (E.2.2.2 + iC), .int p0] (xσ μ R) n QQ := by
  refine xCon_of pn_RX11 (Nat.le_of_ble_eq_true rfl) (L0 := [(0, .ref (E.2.2.2 + iC)), (1, .int p0)]) rfl ?_
  unfold fX11_begins at h
  refine ev_aload_n 0 dX11_begins_0 rfl rfl ?_
  refine xv_getF (a := iC_meetings) cl_11 lk_RX11_35 kd_0 (xl hF rfl) (fun _ => rfl) (fr_0_3 hF) dX11_begins_1 ?_
  refine ev_iload_n 1 dX11_begins_4 rfl rfl ?_
  obtain ⟨q1, hq1, h⟩ := xbd_some h
  refine ev_callV (ci := 3) (rest := []) 1 (kX3_find (E := E) (d := 0) (QQ := (fun v τ n' => v = some (xrf E.2.2.2 q1) ∧ τ = xσ μ R ∧ n = n' ∧ (∀ a, q1 = some a → xIs 2 a n))) (Nat.le_refl _) hF hq1 (fun z0 => ⟨rfl, rfl, rfl, z0⟩)) my_X3_find ⟨m_491, m_492, m_493⟩ cl_3 kd_23 (xl hF rfl) rfl rfl (Nat.le_of_ble_eq_true rfl) (Nat.le_trans (by decide) hd) (xlo (by decide) (Nat.le_trans (by decide) hd)) (Nat.zero_le _) (Nat.zero_le _) dX11_begins_5 (fun v τ n' hv => ?_)
  obtain ⟨rfl, rfl, rfl, hvq1⟩ := hv
  show Ev E (xcm E d 0 0 QQ) Y_X11_begins 8 [(0, .ref (E.2.2.2 + iC)), (1, .int p0)] [xrf E.2.2.2 q1] (xσ μ R) n 0 0
  refine xv_astore_n (r := q1) (L' := [(2, xrf E.2.2.2 q1), (0, .ref (E.2.2.2 + iC)), (1, .int p0)]) dX11_begins_8 rfl (Nat.le_of_ble_eq_true rfl) rfl ?_
  refine xv_aload_n (r := q1) 0 dX11_begins_9 rfl rfl ?_
  refine ev_ifnonnull (r := q1) (tgt := 17) dX11_begins_10 (by decide) (fun a2 hr => ?_) (fun hr => ?_)
  · subst hr
    replace h := xop_s h
    have ha2 := hvq1 a2 rfl
    refine ev_aload_n 0 dX11_begins_17 rfl rfl ?_
    obtain ⟨q3, hq3, h⟩ := xbd_some h
    refine ev_callV (ci := 2) (rest := []) 0 (kX2_start (E := E) (d := 1) (QQ := (fun v τ n' => v = some (.int q3) ∧ τ = xσ μ R ∧ n = n')) (Nat.le_refl _) hF ha2 hq3 (⟨rfl, rfl, rfl⟩)) my_X2_start ⟨m_621, m_622, m_623⟩ cl_2 (xIs2_kd ha2) (xIs2_lt ha2) rfl rfl (Nat.le_of_ble_eq_true rfl) (Nat.le_trans (by decide) hd) (xlo (by decide) (Nat.le_trans (by decide) hd)) (Nat.zero_le _) (Nat.zero_le _) dX11_begins_18 (fun v τ n' hv => ?_)
    obtain ⟨rfl, rfl, rfl⟩ := hv
    show Ev E (xcm E d 0 0 QQ) Y_X11_begins 21 [(2, .ref (E.2.2.2 + a2)), (0, .ref (E.2.2.2 + iC)), (1, .int p0)] [.int q3] (xσ μ R) n 0 0
    cases h
    exact ev_iret rfl (hQ) dX11_begins_21 (Nat.zero_le _) (Nat.zero_le _)
  · subst hr
    replace h := xop_n h
    refine ev_iconst (v := (-1)) dX11_begins_13 (by decide) ?_
    refine ev_goto (tgt := 21) dX11_begins_14 (by decide) ?_
    cases h
    exact ev_iret rfl (hQ) dX11_begins_21 (Nat.zero_le _) (Nat.zero_le _)
def fX11_count_j146 (r9 : Option Nat) (μ : xm) : Option (Int32) := xop r9 (some (-1)) (fun a10 => some (μ.1 a10 1))
def fX11_count (p0 : Int32) (μ : xm) (R : xr) : Option (Int32) := if p0 = 0 then (some (μ.1 iC 8)) else (if p0 = 1 then (xbd (fX3_length μ) fun q1 => some q1) else (if p0 = 2 then (xbd (fX4_length μ) fun q2 => some q2) else (if p0 = 3 then (xbd (fX1_clauses μ R) fun q3 => some q3) else (if p0 = 4 then (xbd (fX9_length μ) fun q4 => some q4) else (if p0 = 5 then (xbd (fX10_drawn μ) fun q5 => some q5) else (if p0 = 6 then (xbd (fX3_settledOnes μ R) fun q6 => some q6) else (xbd (fX11_within p0 10 17) fun q7 => if q7 = 0 then (xbd (fX11_within p0 20 43) fun q8 => if q8 = 0 then (fX11_count_j146 none μ) else (xbd (fX3_find (p0 - 20) μ R) fun q11 => fX11_count_j146 q11 μ)) else (xbd (fX10_toldBy (p0 - 10) μ) fun q12 => some q12))))))))
set_option maxHeartbeats 4000000 in
set_option maxRecDepth 100000 in
theorem kX11_count {E : xE} {d : Nat} {QQ : xP} (hd : 2 ≤ d) {p0 : Int32} {μ : xm} {R : xr} {n : Nat} (hF : xFin R n)  {res : Int32} (h : fX11_count p0 μ R = some res) (hQ : QQ (some (.int res)) (xσ μ R) n) : xCon E d Y_X11_count 0 0 [.ref (E.2.2.2 + iC), .int p0] (xσ μ R) n QQ := by
  refine xCon_of pn_RX11 (Nat.le_of_ble_eq_true rfl) (L0 := [(0, .ref (E.2.2.2 + iC)), (1, .int p0)]) rfl ?_
  unfold fX11_count at h
  refine ev_iload_n 1 dX11_count_0 rfl rfl ?_
  by_cases c1_0 : p0 = 0
  · replace h := xif_t c1_0 h
    refine ev_switch (tgt := 44) (off := 43) dX11_count_1 (xsw_in (v := 0) (by rw [c1_0]; rfl) (by decide +kernel)) (by decide) ?_
    refine ev_aload_n 0 dX11_count_44 rfl rfl ?_
    refine xv_getI cl_11 lk_RX11_69 kd_0 (xl hF rfl) (fun _ => rfl) dX11_count_45 ?_
    cases h
    exact ev_iret rfl (hQ) dX11_count_48 (Nat.zero_le _) (Nat.zero_le _)
  · replace h := xif_f c1_0 h
    by_cases c1_1 : p0 = 1
    · replace h := xif_t c1_1 h
      refine ev_switch (tgt := 49) (off := 48) dX11_count_1 (xsw_in (v := 1) (by rw [c1_1]; rfl) (by decide +kernel)) (by decide) ?_
      refine ev_aload_n 0 dX11_count_49 rfl rfl ?_
      refine xv_getF (a := iC_meetings) cl_11 lk_RX11_35 kd_0 (xl hF rfl) (fun _ => rfl) (fr_0_3 hF) dX11_count_50 ?_
      obtain ⟨q1, hq1, h⟩ := xbd_some h
      refine ev_callV (ci := 3) (rest := []) 0 (kX3_length (E := E) (d := 0) (QQ := (fun v τ n' => v = some (.int q1) ∧ τ = xσ μ R ∧ n = n')) (Nat.le_refl _) hF hq1 (⟨rfl, rfl, rfl⟩)) my_X3_length ⟨m_1220, m_1221, m_1222⟩ cl_3 kd_23 (xl hF rfl) rfl rfl (Nat.le_of_ble_eq_true rfl) (Nat.le_trans (by decide) hd) (xlo (by decide) (Nat.le_trans (by decide) hd)) (Nat.zero_le _) (Nat.zero_le _) dX11_count_53 (fun v τ n' hv => ?_)
      obtain ⟨rfl, rfl, rfl⟩ := hv
      show Ev E (xcm E d 0 0 QQ) Y_X11_count 56 [(0, .ref (E.2.2.2 + iC)), (1, .int p0)] [.int q1] (xσ μ R) n 0 0
      cases h
      exact ev_iret rfl (hQ) dX11_count_56 (Nat.zero_le _) (Nat.zero_le _)
    · replace h := xif_f c1_1 h
      by_cases c1_2 : p0 = 2
      · replace h := xif_t c1_2 h
        refine ev_switch (tgt := 57) (off := 56) dX11_count_1 (xsw_in (v := 2) (by rw [c1_2]; rfl) (by decide +kernel)) (by decide) ?_
        refine ev_aload_n 0 dX11_count_57 rfl rfl ?_
        refine xv_getF (a := iC_notes) cl_11 lk_RX11_42 kd_0 (xl hF rfl) (fun _ => rfl) (fr_0_4 hF) dX11_count_58 ?_
        obtain ⟨q2, hq2, h⟩ := xbd_some h
        refine ev_callV (ci := 4) (rest := []) 0 (kX4_length (E := E) (d := 0) (QQ := (fun v τ n' => v = some (.int q2) ∧ τ = xσ μ R ∧ n = n')) (Nat.le_refl _) hF hq2 (⟨rfl, rfl, rfl⟩)) my_X4_length ⟨m_768, m_769, m_770⟩ cl_4 kd_28 (xl hF rfl) rfl rfl (Nat.le_of_ble_eq_true rfl) (Nat.le_trans (by decide) hd) (xlo (by decide) (Nat.le_trans (by decide) hd)) (Nat.zero_le _) (Nat.zero_le _) dX11_count_61 (fun v τ n' hv => ?_)
        obtain ⟨rfl, rfl, rfl⟩ := hv
        show Ev E (xcm E d 0 0 QQ) Y_X11_count 64 [(0, .ref (E.2.2.2 + iC)), (1, .int p0)] [.int q2] (xσ μ R) n 0 0
        cases h
        exact ev_iret rfl (hQ) dX11_count_64 (Nat.zero_le _) (Nat.zero_le _)
      · replace h := xif_f c1_2 h
        by_cases c1_3 : p0 = 3
        · replace h := xif_t c1_3 h
          refine ev_switch (tgt := 65) (off := 64) dX11_count_1 (xsw_in (v := 3) (by rw [c1_3]; rfl) (by decide +kernel)) (by decide) ?_
          refine ev_aload_n 0 dX11_count_65 rfl rfl ?_
          refine xv_getF (a := iC_reader) cl_11 lk_RX11_19 kd_0 (xl hF rfl) (fun _ => rfl) (fr_0_1 hF) dX11_count_66 ?_
          obtain ⟨q3, hq3, h⟩ := xbd_some h
          refine ev_callV (ci := 1) (rest := []) 0 (kX1_clauses (E := E) (d := 1) (QQ := (fun v τ n' => v = some (.int q3) ∧ τ = xσ μ R ∧ n = n')) (Nat.le_refl _) hF hq3 (⟨rfl, rfl, rfl⟩)) my_X1_clauses ⟨m_1224, m_1225, m_1226⟩ cl_1 kd_3 (xl hF rfl) rfl rfl (Nat.le_of_ble_eq_true rfl) (Nat.le_trans (by decide) hd) (xlo (by decide) (Nat.le_trans (by decide) hd)) (Nat.zero_le _) (Nat.zero_le _) dX11_count_69 (fun v τ n' hv => ?_)
          obtain ⟨rfl, rfl, rfl⟩ := hv
          show Ev E (xcm E d 0 0 QQ) Y_X11_count 72 [(0, .ref (E.2.2.2 + iC)), (1, .int p0)] [.int q3] (xσ μ R) n 0 0
          cases h
          exact ev_iret rfl (hQ) dX11_count_72 (Nat.zero_le _) (Nat.zero_le _)
        · replace h := xif_f c1_3 h
          by_cases c1_4 : p0 = 4
          · replace h := xif_t c1_4 h
            refine ev_switch (tgt := 73) (off := 72) dX11_count_1 (xsw_in (v := 4) (by rw [c1_4]; rfl) (by decide +kernel)) (by decide) ?_
            refine ev_aload_n 0 dX11_count_73 rfl rfl ?_
            refine xv_getF (a := iC_tape) cl_11 lk_RX11_10 kd_0 (xl hF rfl) (fun _ => rfl) (fr_0_0 hF) dX11_count_74 ?_
            obtain ⟨q4, hq4, h⟩ := xbd_some h
            refine ev_callV (ci := 9) (rest := []) 0 (kX9_length (E := E) (d := 0) (QQ := (fun v τ n' => v = some (.int q4) ∧ τ = xσ μ R ∧ n = n')) (Nat.le_refl _) hF hq4 (⟨rfl, rfl, rfl⟩)) my_X9_length ⟨m_511, m_512, m_513⟩ cl_9 kd_1 (xl hF rfl) rfl rfl (Nat.le_of_ble_eq_true rfl) (Nat.le_trans (by decide) hd) (xlo (by decide) (Nat.le_trans (by decide) hd)) (Nat.zero_le _) (Nat.zero_le _) dX11_count_77 (fun v τ n' hv => ?_)
            obtain ⟨rfl, rfl, rfl⟩ := hv
            show Ev E (xcm E d 0 0 QQ) Y_X11_count 80 [(0, .ref (E.2.2.2 + iC)), (1, .int p0)] [.int q4] (xσ μ R) n 0 0
            cases h
            exact ev_iret rfl (hQ) dX11_count_80 (Nat.zero_le _) (Nat.zero_le _)
          · replace h := xif_f c1_4 h
            by_cases c1_5 : p0 = 5
            · replace h := xif_t c1_5 h
              refine ev_switch (tgt := 81) (off := 80) dX11_count_1 (xsw_in (v := 5) (by rw [c1_5]; rfl) (by decide +kernel)) (by decide) ?_
              refine ev_aload_n 0 dX11_count_81 rfl rfl ?_
              refine xv_getF (a := iC_ways) cl_11 lk_RX11_56 kd_0 (xl hF rfl) (fun _ => rfl) (fr_0_6 hF) dX11_count_82 ?_
              obtain ⟨q5, hq5, h⟩ := xbd_some h
              refine ev_callV (ci := 10) (rest := []) 0 (kX10_drawn (E := E) (d := 0) (QQ := (fun v τ n' => v = some (.int q5) ∧ τ = xσ μ R ∧ n = n')) (Nat.le_refl _) hF hq5 (⟨rfl, rfl, rfl⟩)) my_X10_drawn ⟨m_1228, m_1229, m_1230⟩ cl_10 kd_42 (xl hF rfl) rfl rfl (Nat.le_of_ble_eq_true rfl) (Nat.le_trans (by decide) hd) (xlo (by decide) (Nat.le_trans (by decide) hd)) (Nat.zero_le _) (Nat.zero_le _) dX11_count_85 (fun v τ n' hv => ?_)
              obtain ⟨rfl, rfl, rfl⟩ := hv
              show Ev E (xcm E d 0 0 QQ) Y_X11_count 88 [(0, .ref (E.2.2.2 + iC)), (1, .int p0)] [.int q5] (xσ μ R) n 0 0
              cases h
              exact ev_iret rfl (hQ) dX11_count_88 (Nat.zero_le _) (Nat.zero_le _)
            · replace h := xif_f c1_5 h
              by_cases c1_6 : p0 = 6
              · replace h := xif_t c1_6 h
                refine ev_switch (tgt := 89) (off := 88) dX11_count_1 (xsw_in (v := 6) (by rw [c1_6]; rfl) (by decide +kernel)) (by decide) ?_
                refine ev_aload_n 0 dX11_count_89 rfl rfl ?_
                refine xv_getF (a := iC_meetings) cl_11 lk_RX11_35 kd_0 (xl hF rfl) (fun _ => rfl) (fr_0_3 hF) dX11_count_90 ?_
                obtain ⟨q6, hq6, h⟩ := xbd_some h
                refine ev_callV (ci := 3) (rest := []) 0 (kX3_settledOnes (E := E) (d := 1) (QQ := (fun v τ n' => v = some (.int q6) ∧ τ = xσ μ R ∧ n = n')) (Nat.le_refl _) hF hq6 (⟨rfl, rfl, rfl⟩)) my_X3_settledOnes ⟨m_1232, m_1233, m_1234⟩ cl_3 kd_23 (xl hF rfl) rfl rfl (Nat.le_of_ble_eq_true rfl) (Nat.le_trans (by decide) hd) (xlo (by decide) (Nat.le_trans (by decide) hd)) (Nat.zero_le _) (Nat.zero_le _) dX11_count_93 (fun v τ n' hv => ?_)
                obtain ⟨rfl, rfl, rfl⟩ := hv
                show Ev E (xcm E d 0 0 QQ) Y_X11_count 96 [(0, .ref (E.2.2.2 + iC)), (1, .int p0)] [.int q6] (xσ μ R) n 0 0
                cases h
                exact ev_iret rfl (hQ) dX11_count_96 (Nat.zero_le _) (Nat.zero_le _)
              · replace h := xif_f c1_6 h
                refine ev_switch (tgt := 97) (off := 96) dX11_count_1 (xsw_out [0, 1, 2, 3, 4, 5, 6] (List.forall_mem_cons.mpr ⟨(xne (c := 0) rfl c1_0), (List.forall_mem_cons.mpr ⟨(xne (c := 1) rfl c1_1), (List.forall_mem_cons.mpr ⟨(xne (c := 2) rfl c1_2), (List.forall_mem_cons.mpr ⟨(xne (c := 3) rfl c1_3), (List.forall_mem_cons.mpr ⟨(xne (c := 4) rfl c1_4), (List.forall_mem_cons.mpr ⟨(xne (c := 5) rfl c1_5), (List.forall_mem_cons.mpr ⟨(xne (c := 6) rfl c1_6), (fun _ e => absurd e List.not_mem_nil)⟩)⟩)⟩)⟩)⟩)⟩)⟩) (by decide +kernel)) (by decide) ?_
                refine ev_iload_n 1 dX11_count_97 rfl rfl ?_
                refine ev_bipush (v := 10) dX11_count_98 (by decide) ?_
                refine ev_bipush (v := 17) dX11_count_100 (by decide) ?_
                obtain ⟨q7, hq7, h⟩ := xbd_some h
                refine ev_callS (As := [.int p0, .int 10, .int 17]) (rest := []) 3 (kX11_within (E := E) (d := 0) (QQ := (fun v τ n' => v = some (.int q7) ∧ τ = xσ μ R ∧ n = n')) (Nat.le_refl _)  hq7 (⟨rfl, rfl, rfl⟩)) my_X11_within ⟨m_424, m_425⟩ rfl rfl (Nat.le_of_ble_eq_true rfl) (Nat.le_trans (by decide) hd) (xlo (by decide) (Nat.le_trans (by decide) hd)) (Nat.zero_le _) (Nat.zero_le _) dX11_count_102 (fun v τ n' hv => ?_)
                obtain ⟨rfl, rfl, rfl⟩ := hv
                show Ev E (xcm E d 0 0 QQ) Y_X11_count 105 [(0, .ref (E.2.2.2 + iC)), (1, .int p0)] [.int q7] (xσ μ R) n 0 0
                refine ev_if_eq (tgt := 120) dX11_count_105 (by decide) (fun c105 => ?_) (fun c105 => ?_)
                · replace h := xif_t c105 h
                  refine ev_iload_n 1 dX11_count_120 rfl rfl ?_
                  refine ev_bipush (v := 20) dX11_count_121 (by decide) ?_
                  refine ev_bipush (v := 43) dX11_count_123 (by decide) ?_
                  obtain ⟨q8, hq8, h⟩ := xbd_some h
                  refine ev_callS (As := [.int p0, .int 20, .int 43]) (rest := []) 3 (kX11_within (E := E) (d := 0) (QQ := (fun v τ n' => v = some (.int q8) ∧ τ = xσ μ R ∧ n = n')) (Nat.le_refl _)  hq8 (⟨rfl, rfl, rfl⟩)) my_X11_within ⟨m_424, m_425⟩ rfl rfl (Nat.le_of_ble_eq_true rfl) (Nat.le_trans (by decide) hd) (xlo (by decide) (Nat.le_trans (by decide) hd)) (Nat.zero_le _) (Nat.zero_le _) dX11_count_125 (fun v τ n' hv => ?_)
                  obtain ⟨rfl, rfl, rfl⟩ := hv
                  show Ev E (xcm E d 0 0 QQ) Y_X11_count 128 [(0, .ref (E.2.2.2 + iC)), (1, .int p0)] [.int q8] (xσ μ R) n 0 0
                  have j146 : ∀ (r9 : Option Nat), (∀ a, r9 = some a → xIs 2 a n) → fX11_count_j146 r9 μ = some res → Ev E (xcm E d 0 0 QQ) Y_X11_count 146 [] [xrf E.2.2.2 r9] (xσ μ R) n 0 0 := by
                    intro r9 hr9 h
                    unfold fX11_count_j146 at h
                    refine xv_astore_n (r := r9) (L' := [(2, xrf E.2.2.2 r9)]) dX11_count_146 rfl (Nat.le_of_ble_eq_true rfl) rfl ?_
                    refine xv_aload_n (r := r9) 0 dX11_count_147 rfl rfl ?_
                    refine ev_ifnonnull (r := r9) (tgt := 155) dX11_count_148 (by decide) (fun a10 hr => ?_) (fun hr => ?_)
                    · subst hr
                      replace h := xop_s h
                      have ha10 := hr9 a10 rfl
                      refine ev_aload_n 0 dX11_count_155 rfl rfl ?_
                      refine xv_getIN cl_2 ln_RX11_329 (xIs2_kd ha10) (xIs2_lt ha10) (fun _ => rfl) dX11_count_156 ?_
                      cases h
                      exact ev_iret rfl (hQ) dX11_count_159 (Nat.zero_le _) (Nat.zero_le _)
                    · subst hr
                      replace h := xop_n h
                      refine ev_iconst (v := (-1)) dX11_count_151 (by decide) ?_
                      refine ev_goto (tgt := 159) dX11_count_152 (by decide) ?_
                      cases h
                      exact ev_iret rfl (hQ) dX11_count_159 (Nat.zero_le _) (Nat.zero_le _)
                  refine ev_if_eq (tgt := 145) dX11_count_128 (by decide) (fun c128 => ?_) (fun c128 => ?_)
                  · replace h := xif_t c128 h
                    refine ev_null dX11_count_145 ?_
                    exact ev_sub [] rfl (j146 _ (fun a ha => by cases ha) h)
                  · replace h := xif_f c128 h
                    refine ev_aload_n 0 dX11_count_131 rfl rfl ?_
                    refine xv_getF (a := iC_meetings) cl_11 lk_RX11_35 kd_0 (xl hF rfl) (fun _ => rfl) (fr_0_3 hF) dX11_count_132 ?_
                    refine ev_iload_n 1 dX11_count_135 rfl rfl ?_
                    refine ev_bipush (v := 20) dX11_count_136 (by decide) ?_
                    refine ev_isub dX11_count_138 ?_
                    obtain ⟨q11, hq11, h⟩ := xbd_some h
                    refine ev_callV (ci := 3) (rest := []) 1 (kX3_find (E := E) (d := 0) (QQ := (fun v τ n' => v = some (xrf E.2.2.2 q11) ∧ τ = xσ μ R ∧ n = n' ∧ (∀ a, q11 = some a → xIs 2 a n))) (Nat.le_refl _) hF hq11 (fun z0 => ⟨rfl, rfl, rfl, z0⟩)) my_X3_find ⟨m_491, m_492, m_493⟩ cl_3 kd_23 (xl hF rfl) rfl rfl (Nat.le_of_ble_eq_true rfl) (Nat.le_trans (by decide) hd) (xlo (by decide) (Nat.le_trans (by decide) hd)) (Nat.zero_le _) (Nat.zero_le _) dX11_count_139 (fun v τ n' hv => ?_)
                    obtain ⟨rfl, rfl, rfl, hvq11⟩ := hv
                    show Ev E (xcm E d 0 0 QQ) Y_X11_count 142 [(0, .ref (E.2.2.2 + iC)), (1, .int p0)] [xrf E.2.2.2 q11] (xσ μ R) n 0 0
                    refine ev_goto (tgt := 146) dX11_count_142 (by decide) ?_
                    exact ev_sub [] rfl (j146 _ hvq11 h)
                · replace h := xif_f c105 h
                  refine ev_aload_n 0 dX11_count_108 rfl rfl ?_
                  refine xv_getF (a := iC_ways) cl_11 lk_RX11_56 kd_0 (xl hF rfl) (fun _ => rfl) (fr_0_6 hF) dX11_count_109 ?_
                  refine ev_iload_n 1 dX11_count_112 rfl rfl ?_
                  refine ev_bipush (v := 10) dX11_count_113 (by decide) ?_
                  refine ev_isub dX11_count_115 ?_
                  obtain ⟨q12, hq12, h⟩ := xbd_some h
                  refine ev_callV (ci := 10) (rest := []) 1 (kX10_toldBy (E := E) (d := 1) (QQ := (fun v τ n' => v = some (.int q12) ∧ τ = xσ μ R ∧ n = n')) (Nat.le_refl _) hF hq12 (⟨rfl, rfl, rfl⟩)) my_X10_toldBy ⟨m_1236, m_1237, m_1238⟩ cl_10 kd_42 (xl hF rfl) rfl rfl (Nat.le_of_ble_eq_true rfl) (Nat.le_trans (by decide) hd) (xlo (by decide) (Nat.le_trans (by decide) hd)) (Nat.zero_le _) (Nat.zero_le _) dX11_count_116 (fun v τ n' hv => ?_)
                  obtain ⟨rfl, rfl, rfl⟩ := hv
                  show Ev E (xcm E d 0 0 QQ) Y_X11_count 119 [(0, .ref (E.2.2.2 + iC)), (1, .int p0)] [.int q12] (xσ μ R) n 0 0
                  cases h
                  exact ev_iret rfl (hQ) dX11_count_119 (Nat.zero_le _) (Nat.zero_le _)
def fX11_crosses (p0 : Int32) (p1 : Int32) (μ : xm) : Option (Int32 × xm) := xbd (fX11_isPerson p0) fun q1 => if q1 = 0 then (some (0, μ)) else (xbd (fX10_isCrossing p0 μ) fun q2 => if q2 = p1 then (some (0, μ)) else (xbd (fX10_setCrossing p0 p1 μ) fun q3 => some (1, q3)))
set_option maxHeartbeats 4000000 in
set_option maxRecDepth 100000 in
theorem kX11_crosses {E : xE} {d : Nat} {QQ : xP} (hd : 2 ≤ d) {p0 : Int32} {p1 : Int32} {μ : xm} {R : xr} {n : Nat} (hF : xFin R n)  {res : Int32 × xm} (h : fX11_crosses p0 p1 μ = some res) (hQ : QQ (some (.int res.1)) (xσ res.2 R) n) : xCon E d Y_X11_crosses 0 0 [.ref (E.2.2.2 + iC), .int p0, .int p1] (xσ μ R) n QQ := by
  refine xCon_of pn_RX11 (Nat.le_of_ble_eq_true rfl) (L0 := [(0, .ref (E.2.2.2 + iC)), (1, .int p0), (2, .int p1)]) rfl ?_
  unfold fX11_crosses at h
  refine ev_iload_n 1 dX11_crosses_0 rfl rfl ?_
  obtain ⟨q1, hq1, h⟩ := xbd_some h
  refine ev_callS (As := [.int p0]) (rest := []) 1 (kX11_isPerson (E := E) (d := 0) (QQ := (fun v τ n' => v = some (.int q1) ∧ τ = xσ μ R ∧ n = n')) (Nat.le_refl _)  hq1 (⟨rfl, rfl, rfl⟩)) my_X11_isPerson ⟨m_435, m_436⟩ rfl rfl (Nat.le_of_ble_eq_true rfl) (Nat.le_trans (by decide) hd) (xlo (by decide) (Nat.le_trans (by decide) hd)) (Nat.zero_le _) (Nat.zero_le _) dX11_crosses_1 (fun v τ n' hv => ?_)
  obtain ⟨rfl, rfl, rfl⟩ := hv
  show Ev E (xcm E d 0 0 QQ) Y_X11_crosses 4 [(0, .ref (E.2.2.2 + iC)), (1, .int p0), (2, .int p1)] [.int q1] (xσ μ R) n 0 0
  refine ev_if_eq (tgt := 19) dX11_crosses_4 (by decide) (fun c4 => ?_) (fun c4 => ?_)
  · replace h := xif_t c4 h
    refine ev_iconst (v := 0) dX11_crosses_19 (by decide) ?_
    cases h
    exact ev_zret rfl (Or.inl rfl) (hQ) dX11_crosses_20 (Nat.zero_le _) (Nat.zero_le _)
  · replace h := xif_f c4 h
    refine ev_aload_n 0 dX11_crosses_7 rfl rfl ?_
    refine xv_getF (a := iC_ways) cl_11 lk_RX11_56 kd_0 (xl hF rfl) (fun _ => rfl) (fr_0_6 hF) dX11_crosses_8 ?_
    refine ev_iload_n 1 dX11_crosses_11 rfl rfl ?_
    obtain ⟨q2, hq2, h⟩ := xbd_some h
    refine ev_callV (ci := 10) (rest := []) 1 (kX10_isCrossing (E := E) (d := 1) (QQ := (fun v τ n' => v = some (.int q2) ∧ τ = xσ μ R ∧ n = n')) (Nat.le_refl _) hF hq2 (⟨rfl, rfl, rfl⟩)) my_X10_isCrossing ⟨m_975, m_976, m_977⟩ cl_10 kd_42 (xl hF rfl) rfl rfl (Nat.le_of_ble_eq_true rfl) (Nat.le_trans (by decide) hd) (xlo (by decide) (Nat.le_trans (by decide) hd)) (Nat.zero_le _) (Nat.zero_le _) dX11_crosses_12 (fun v τ n' hv => ?_)
    obtain ⟨rfl, rfl, rfl⟩ := hv
    show Ev E (xcm E d 0 0 QQ) Y_X11_crosses 15 [(0, .ref (E.2.2.2 + iC)), (1, .int p0), (2, .int p1)] [.int q2] (xσ μ R) n 0 0
    refine ev_iload_n 2 dX11_crosses_15 rfl rfl ?_
    refine ev_icmp_ne (tgt := 21) dX11_crosses_16 (by decide) (fun c16 => ?_) (fun c16 => ?_)
    · replace h := xif_f c16 h
      refine ev_aload_n 0 dX11_crosses_21 rfl rfl ?_
      refine xv_getF (a := iC_ways) cl_11 lk_RX11_56 kd_0 (xl hF rfl) (fun _ => rfl) (fr_0_6 hF) dX11_crosses_22 ?_
      refine ev_iload_n 1 dX11_crosses_25 rfl rfl ?_
      refine ev_iload_n 2 dX11_crosses_26 rfl rfl ?_
      obtain ⟨q3, hq3, h⟩ := xbd_some h
      refine ev_callV (ci := 10) (rest := []) 2 (kX10_setCrossing (E := E) (d := 1) (QQ := (fun v τ n' => v = none ∧ τ = xσ q3 R ∧ n = n')) (Nat.le_refl _) hF hq3 (⟨rfl, rfl, rfl⟩)) my_X10_setCrossing ⟨m_979, m_980, m_981⟩ cl_10 kd_42 (xl hF rfl) rfl rfl (Nat.le_of_ble_eq_true rfl) (Nat.le_trans (by decide) hd) (xlo (by decide) (Nat.le_trans (by decide) hd)) (Nat.zero_le _) (Nat.zero_le _) dX11_crosses_27 (fun v τ n' hv => ?_)
      obtain ⟨rfl, rfl, rfl⟩ := hv
      show Ev E (xcm E d 0 0 QQ) Y_X11_crosses 30 [(0, .ref (E.2.2.2 + iC)), (1, .int p0), (2, .int p1)] [] (xσ q3 R) n 0 0
      refine ev_iconst (v := 1) dX11_crosses_30 (by decide) ?_
      cases h
      exact ev_zret rfl (Or.inr rfl) (hQ) dX11_crosses_31 (Nat.zero_le _) (Nat.zero_le _)
    · replace h := xif_t c16 h
      refine ev_iconst (v := 0) dX11_crosses_19 (by decide) ?_
      cases h
      exact ev_zret rfl (Or.inl rfl) (hQ) dX11_crosses_20 (Nat.zero_le _) (Nat.zero_le _)
def fX11_cut (p0 : Int32) (p1 : Int32) (μ : xm) : Option (Int32 × xm) := xbd (fX4_isLive p0 (μ.1 iC 8) μ) fun q1 => if q1 = 0 then (some ((-1), μ)) else (if p1 < 1 then (some ((-1), μ)) else (xbd (fX4_minutesOf p0 μ) fun q2 => if p1 < q2 then (xbd (fX4_split p0 p1 μ) fun q3 => some (q3.1, q3.2)) else (some ((-1), μ))))
set_option maxHeartbeats 4000000 in
set_option maxRecDepth 100000 in
theorem kX11_cut {E : xE} {d : Nat} {QQ : xP} (hd : 2 ≤ d) {p0 : Int32} {p1 : Int32} {μ : xm} {R : xr} {n : Nat} (hF : xFin R n)  {res : Int32 × xm} (h : fX11_cut p0 p1 μ = some res) (hQ : QQ (some (.int res.1)) (xσ res.2 R) n) : xCon E d Y_X11_cut 0 0 [.ref (E.2.2.2 + iC), .int p0, .int p1] (xσ μ R) n QQ := by
  refine xCon_of pn_RX11 (Nat.le_of_ble_eq_true rfl) (L0 := [(0, .ref (E.2.2.2 + iC)), (1, .int p0), (2, .int p1)]) rfl ?_
  unfold fX11_cut at h
  refine ev_aload_n 0 dX11_cut_0 rfl rfl ?_
  refine xv_getF (a := iC_notes) cl_11 lk_RX11_42 kd_0 (xl hF rfl) (fun _ => rfl) (fr_0_4 hF) dX11_cut_1 ?_
  refine ev_iload_n 1 dX11_cut_4 rfl rfl ?_
  refine ev_aload_n 0 dX11_cut_5 rfl rfl ?_
  refine xv_getI cl_11 lk_RX11_69 kd_0 (xl hF rfl) (fun _ => rfl) dX11_cut_6 ?_
  obtain ⟨q1, hq1, h⟩ := xbd_some h
  refine ev_callV (ci := 4) (rest := []) 2 (kX4_isLive (E := E) (d := 1) (QQ := (fun v τ n' => v = some (.int q1) ∧ τ = xσ μ R ∧ n = n')) (Nat.le_refl _) hF hq1 (⟨rfl, rfl, rfl⟩)) my_X4_isLive ⟨m_818, m_819, m_820⟩ cl_4 kd_28 (xl hF rfl) rfl rfl (Nat.le_of_ble_eq_true rfl) (Nat.le_trans (by decide) hd) (xlo (by decide) (Nat.le_trans (by decide) hd)) (Nat.zero_le _) (Nat.zero_le _) dX11_cut_9 (fun v τ n' hv => ?_)
  obtain ⟨rfl, rfl, rfl⟩ := hv
  show Ev E (xcm E d 0 0 QQ) Y_X11_cut 12 [(0, .ref (E.2.2.2 + iC)), (1, .int p0), (2, .int p1)] [.int q1] (xσ μ R) n 0 0
  refine ev_if_eq (tgt := 32) dX11_cut_12 (by decide) (fun c12 => ?_) (fun c12 => ?_)
  · replace h := xif_t c12 h
    refine ev_iconst (v := (-1)) dX11_cut_32 (by decide) ?_
    cases h
    exact ev_iret rfl (hQ) dX11_cut_33 (Nat.zero_le _) (Nat.zero_le _)
  · replace h := xif_f c12 h
    refine ev_iload_n 2 dX11_cut_15 rfl rfl ?_
    refine ev_iconst (v := 1) dX11_cut_16 (by decide) ?_
    refine ev_icmp_lt (tgt := 32) dX11_cut_17 (by decide) (fun c17 => ?_) (fun c17 => ?_)
    · replace h := xif_t c17 h
      refine ev_iconst (v := (-1)) dX11_cut_32 (by decide) ?_
      cases h
      exact ev_iret rfl (hQ) dX11_cut_33 (Nat.zero_le _) (Nat.zero_le _)
    · replace h := xif_f c17 h
      refine ev_aload_n 0 dX11_cut_20 rfl rfl ?_
      refine xv_getF (a := iC_notes) cl_11 lk_RX11_42 kd_0 (xl hF rfl) (fun _ => rfl) (fr_0_4 hF) dX11_cut_21 ?_
      refine ev_iload_n 1 dX11_cut_24 rfl rfl ?_
      obtain ⟨q2, hq2, h⟩ := xbd_some h
      refine ev_callV (ci := 4) (rest := []) 1 (kX4_minutesOf (E := E) (d := 1) (QQ := (fun v τ n' => v = some (.int q2) ∧ τ = xσ μ R ∧ n = n')) (Nat.le_refl _) hF hq2 (⟨rfl, rfl, rfl⟩)) my_X4_minutesOf ⟨m_806, m_807, m_808⟩ cl_4 kd_28 (xl hF rfl) rfl rfl (Nat.le_of_ble_eq_true rfl) (Nat.le_trans (by decide) hd) (xlo (by decide) (Nat.le_trans (by decide) hd)) (Nat.zero_le _) (Nat.zero_le _) dX11_cut_25 (fun v τ n' hv => ?_)
      obtain ⟨rfl, rfl, rfl⟩ := hv
      show Ev E (xcm E d 0 0 QQ) Y_X11_cut 28 [(0, .ref (E.2.2.2 + iC)), (1, .int p0), (2, .int p1)] [.int q2] (xσ μ R) n 0 0
      refine ev_iload_n 2 dX11_cut_28 rfl rfl ?_
      refine ev_icmp_gt (tgt := 34) dX11_cut_29 (by decide) (fun c29 => ?_) (fun c29 => ?_)
      · replace h := xif_t c29 h
        refine ev_aload_n 0 dX11_cut_34 rfl rfl ?_
        refine xv_getF (a := iC_notes) cl_11 lk_RX11_42 kd_0 (xl hF rfl) (fun _ => rfl) (fr_0_4 hF) dX11_cut_35 ?_
        refine ev_iload_n 1 dX11_cut_38 rfl rfl ?_
        refine ev_iload_n 2 dX11_cut_39 rfl rfl ?_
        obtain ⟨q3, hq3, h⟩ := xbd_some h
        refine ev_callV (ci := 4) (rest := []) 2 (kX4_split (E := E) (d := 1) (QQ := (fun v τ n' => v = some (.int q3.1) ∧ τ = xσ q3.2 R ∧ n = n')) (Nat.le_refl _) hF hq3 (⟨rfl, rfl, rfl⟩)) my_X4_split ⟨m_834, m_835, m_836⟩ cl_4 kd_28 (xl hF rfl) rfl rfl (Nat.le_of_ble_eq_true rfl) (Nat.le_trans (by decide) hd) (xlo (by decide) (Nat.le_trans (by decide) hd)) (Nat.zero_le _) (Nat.zero_le _) dX11_cut_40 (fun v τ n' hv => ?_)
        obtain ⟨rfl, rfl, rfl⟩ := hv
        show Ev E (xcm E d 0 0 QQ) Y_X11_cut 43 [(0, .ref (E.2.2.2 + iC)), (1, .int p0), (2, .int p1)] [.int q3.1] (xσ q3.2 R) n 0 0
        cases h
        exact ev_iret rfl (hQ) dX11_cut_43 (Nat.zero_le _) (Nat.zero_le _)
      · replace h := xif_f c29 h
        refine ev_iconst (v := (-1)) dX11_cut_32 (by decide) ?_
        cases h
        exact ev_iret rfl (hQ) dX11_cut_33 (Nat.zero_le _) (Nat.zero_le _)
def fX11_end (p0 : Int32) (p1 : Int32) (p2 : Int32) (μ : xm) : Option (Int32 × xm) := xbd (fX11_isPerson p0) fun q1 => if q1 = 0 then (some ((-1), μ)) else (xbd (fX11_within p1 0 300) fun q2 => if q2 = 0 then (some ((-1), μ)) else (xbd (fX11_within p2 1 20) fun q3 => if q3 = 0 then (some ((-1), μ)) else (xbd (fX10_tell p0 p1 p2 μ) fun q4 => some (q4.1, q4.2))))
set_option maxHeartbeats 4000000 in
set_option maxRecDepth 100000 in
theorem kX11_end {E : xE} {d : Nat} {QQ : xP} (hd : 2 ≤ d) {p0 : Int32} {p1 : Int32} {p2 : Int32} {μ : xm} {R : xr} {n : Nat} (hF : xFin R n)  {res : Int32 × xm} (h : fX11_end p0 p1 p2 μ = some res) (hQ : QQ (some (.int res.1)) (xσ res.2 R) n) : xCon E d Y_X11_end 0 0 [.ref (E.2.2.2 + iC), .int p0, .int p1, .int p2] (xσ μ R) n QQ := by
  refine xCon_of pn_RX11 (Nat.le_of_ble_eq_true rfl) (L0 := [(0, .ref (E.2.2.2 + iC)), (1, .int p0), (2, .int p1), (3, .int p2)]) rfl ?_
  unfold fX11_end at h
  refine ev_iload_n 1 dX11_end_0 rfl rfl ?_
  obtain ⟨q1, hq1, h⟩ := xbd_some h
  refine ev_callS (As := [.int p0]) (rest := []) 1 (kX11_isPerson (E := E) (d := 0) (QQ := (fun v τ n' => v = some (.int q1) ∧ τ = xσ μ R ∧ n = n')) (Nat.le_refl _)  hq1 (⟨rfl, rfl, rfl⟩)) my_X11_isPerson ⟨m_435, m_436⟩ rfl rfl (Nat.le_of_ble_eq_true rfl) (Nat.le_trans (by decide) hd) (xlo (by decide) (Nat.le_trans (by decide) hd)) (Nat.zero_le _) (Nat.zero_le _) dX11_end_1 (fun v τ n' hv => ?_)
  obtain ⟨rfl, rfl, rfl⟩ := hv
  show Ev E (xcm E d 0 0 QQ) Y_X11_end 4 [(0, .ref (E.2.2.2 + iC)), (1, .int p0), (2, .int p1), (3, .int p2)] [.int q1] (xσ μ R) n 0 0
  refine ev_if_eq (tgt := 28) dX11_end_4 (by decide) (fun c4 => ?_) (fun c4 => ?_)
  · replace h := xif_t c4 h
    refine ev_iconst (v := (-1)) dX11_end_28 (by decide) ?_
    cases h
    exact ev_iret rfl (hQ) dX11_end_29 (Nat.zero_le _) (Nat.zero_le _)
  · replace h := xif_f c4 h
    refine ev_iload_n 2 dX11_end_7 rfl rfl ?_
    refine ev_iconst (v := 0) dX11_end_8 (by decide) ?_
    refine ev_sipush (v := 300) dX11_end_9 (by decide) ?_
    obtain ⟨q2, hq2, h⟩ := xbd_some h
    refine ev_callS (As := [.int p1, .int 0, .int 300]) (rest := []) 3 (kX11_within (E := E) (d := 0) (QQ := (fun v τ n' => v = some (.int q2) ∧ τ = xσ μ R ∧ n = n')) (Nat.le_refl _)  hq2 (⟨rfl, rfl, rfl⟩)) my_X11_within ⟨m_424, m_425⟩ rfl rfl (Nat.le_of_ble_eq_true rfl) (Nat.le_trans (by decide) hd) (xlo (by decide) (Nat.le_trans (by decide) hd)) (Nat.zero_le _) (Nat.zero_le _) dX11_end_12 (fun v τ n' hv => ?_)
    obtain ⟨rfl, rfl, rfl⟩ := hv
    show Ev E (xcm E d 0 0 QQ) Y_X11_end 15 [(0, .ref (E.2.2.2 + iC)), (1, .int p0), (2, .int p1), (3, .int p2)] [.int q2] (xσ μ R) n 0 0
    refine ev_if_eq (tgt := 28) dX11_end_15 (by decide) (fun c15 => ?_) (fun c15 => ?_)
    · replace h := xif_t c15 h
      refine ev_iconst (v := (-1)) dX11_end_28 (by decide) ?_
      cases h
      exact ev_iret rfl (hQ) dX11_end_29 (Nat.zero_le _) (Nat.zero_le _)
    · replace h := xif_f c15 h
      refine ev_iload_n 3 dX11_end_18 rfl rfl ?_
      refine ev_iconst (v := 1) dX11_end_19 (by decide) ?_
      refine ev_bipush (v := 20) dX11_end_20 (by decide) ?_
      obtain ⟨q3, hq3, h⟩ := xbd_some h
      refine ev_callS (As := [.int p2, .int 1, .int 20]) (rest := []) 3 (kX11_within (E := E) (d := 0) (QQ := (fun v τ n' => v = some (.int q3) ∧ τ = xσ μ R ∧ n = n')) (Nat.le_refl _)  hq3 (⟨rfl, rfl, rfl⟩)) my_X11_within ⟨m_424, m_425⟩ rfl rfl (Nat.le_of_ble_eq_true rfl) (Nat.le_trans (by decide) hd) (xlo (by decide) (Nat.le_trans (by decide) hd)) (Nat.zero_le _) (Nat.zero_le _) dX11_end_22 (fun v τ n' hv => ?_)
      obtain ⟨rfl, rfl, rfl⟩ := hv
      show Ev E (xcm E d 0 0 QQ) Y_X11_end 25 [(0, .ref (E.2.2.2 + iC)), (1, .int p0), (2, .int p1), (3, .int p2)] [.int q3] (xσ μ R) n 0 0
      refine ev_if_ne (tgt := 30) dX11_end_25 (by decide) (fun c25 => ?_) (fun c25 => ?_)
      · replace h := xif_f c25 h
        refine ev_aload_n 0 dX11_end_30 rfl rfl ?_
        refine xv_getF (a := iC_ways) cl_11 lk_RX11_56 kd_0 (xl hF rfl) (fun _ => rfl) (fr_0_6 hF) dX11_end_31 ?_
        refine ev_iload_n 1 dX11_end_34 rfl rfl ?_
        refine ev_iload_n 2 dX11_end_35 rfl rfl ?_
        refine ev_iload_n 3 dX11_end_36 rfl rfl ?_
        obtain ⟨q4, hq4, h⟩ := xbd_some h
        refine ev_callV (ci := 10) (rest := []) 3 (kX10_tell (E := E) (d := 1) (QQ := (fun v τ n' => v = some (.int q4.1) ∧ τ = xσ q4.2 R ∧ n = n')) (Nat.le_refl _) hF hq4 (⟨rfl, rfl, rfl⟩)) my_X10_tell ⟨m_958, m_959, m_960⟩ cl_10 kd_42 (xl hF rfl) rfl rfl (Nat.le_of_ble_eq_true rfl) (Nat.le_trans (by decide) hd) (xlo (by decide) (Nat.le_trans (by decide) hd)) (Nat.zero_le _) (Nat.zero_le _) dX11_end_37 (fun v τ n' hv => ?_)
        obtain ⟨rfl, rfl, rfl⟩ := hv
        show Ev E (xcm E d 0 0 QQ) Y_X11_end 40 [(0, .ref (E.2.2.2 + iC)), (1, .int p0), (2, .int p1), (3, .int p2)] [.int q4.1] (xσ q4.2 R) n 0 0
        cases h
        exact ev_iret rfl (hQ) dX11_end_40 (Nat.zero_le _) (Nat.zero_le _)
      · replace h := xif_t c25 h
        refine ev_iconst (v := (-1)) dX11_end_28 (by decide) ?_
        cases h
        exact ev_iret rfl (hQ) dX11_end_29 (Nat.zero_le _) (Nat.zero_le _)
def fX11_hand (p0 : Int32) (p1 : Int32) (μ : xm) : Option (Int32 × xm) := xbd (fX4_isLive p0 (μ.1 iC 8) μ) fun q1 => if q1 = 0 then (some (0, μ)) else (xbd (fX11_isPerson p1) fun q2 => if q2 = 0 then (some (0, μ)) else (xbd (fX4_holderOf p0 μ) fun q3 => if q3 = p1 then (some (0, μ)) else (xbd (fX4_handTo p0 p1 μ) fun q4 => some (1, q4))))
set_option maxHeartbeats 4000000 in
set_option maxRecDepth 100000 in
theorem kX11_hand {E : xE} {d : Nat} {QQ : xP} (hd : 2 ≤ d) {p0 : Int32} {p1 : Int32} {μ : xm} {R : xr} {n : Nat} (hF : xFin R n)  {res : Int32 × xm} (h : fX11_hand p0 p1 μ = some res) (hQ : QQ (some (.int res.1)) (xσ res.2 R) n) : xCon E d Y_X11_hand 0 0 [.ref (E.2.2.2 + iC), .int p0, .int p1] (xσ μ R) n QQ := by
  refine xCon_of pn_RX11 (Nat.le_of_ble_eq_true rfl) (L0 := [(0, .ref (E.2.2.2 + iC)), (1, .int p0), (2, .int p1)]) rfl ?_
  unfold fX11_hand at h
  refine ev_aload_n 0 dX11_hand_0 rfl rfl ?_
  refine xv_getF (a := iC_notes) cl_11 lk_RX11_42 kd_0 (xl hF rfl) (fun _ => rfl) (fr_0_4 hF) dX11_hand_1 ?_
  refine ev_iload_n 1 dX11_hand_4 rfl rfl ?_
  refine ev_aload_n 0 dX11_hand_5 rfl rfl ?_
  refine xv_getI cl_11 lk_RX11_69 kd_0 (xl hF rfl) (fun _ => rfl) dX11_hand_6 ?_
  obtain ⟨q1, hq1, h⟩ := xbd_some h
  refine ev_callV (ci := 4) (rest := []) 2 (kX4_isLive (E := E) (d := 1) (QQ := (fun v τ n' => v = some (.int q1) ∧ τ = xσ μ R ∧ n = n')) (Nat.le_refl _) hF hq1 (⟨rfl, rfl, rfl⟩)) my_X4_isLive ⟨m_818, m_819, m_820⟩ cl_4 kd_28 (xl hF rfl) rfl rfl (Nat.le_of_ble_eq_true rfl) (Nat.le_trans (by decide) hd) (xlo (by decide) (Nat.le_trans (by decide) hd)) (Nat.zero_le _) (Nat.zero_le _) dX11_hand_9 (fun v τ n' hv => ?_)
  obtain ⟨rfl, rfl, rfl⟩ := hv
  show Ev E (xcm E d 0 0 QQ) Y_X11_hand 12 [(0, .ref (E.2.2.2 + iC)), (1, .int p0), (2, .int p1)] [.int q1] (xσ μ R) n 0 0
  refine ev_if_eq (tgt := 34) dX11_hand_12 (by decide) (fun c12 => ?_) (fun c12 => ?_)
  · replace h := xif_t c12 h
    refine ev_iconst (v := 0) dX11_hand_34 (by decide) ?_
    cases h
    exact ev_zret rfl (Or.inl rfl) (hQ) dX11_hand_35 (Nat.zero_le _) (Nat.zero_le _)
  · replace h := xif_f c12 h
    refine ev_iload_n 2 dX11_hand_15 rfl rfl ?_
    obtain ⟨q2, hq2, h⟩ := xbd_some h
    refine ev_callS (As := [.int p1]) (rest := []) 1 (kX11_isPerson (E := E) (d := 0) (QQ := (fun v τ n' => v = some (.int q2) ∧ τ = xσ μ R ∧ n = n')) (Nat.le_refl _)  hq2 (⟨rfl, rfl, rfl⟩)) my_X11_isPerson ⟨m_435, m_436⟩ rfl rfl (Nat.le_of_ble_eq_true rfl) (Nat.le_trans (by decide) hd) (xlo (by decide) (Nat.le_trans (by decide) hd)) (Nat.zero_le _) (Nat.zero_le _) dX11_hand_16 (fun v τ n' hv => ?_)
    obtain ⟨rfl, rfl, rfl⟩ := hv
    show Ev E (xcm E d 0 0 QQ) Y_X11_hand 19 [(0, .ref (E.2.2.2 + iC)), (1, .int p0), (2, .int p1)] [.int q2] (xσ μ R) n 0 0
    refine ev_if_eq (tgt := 34) dX11_hand_19 (by decide) (fun c19 => ?_) (fun c19 => ?_)
    · replace h := xif_t c19 h
      refine ev_iconst (v := 0) dX11_hand_34 (by decide) ?_
      cases h
      exact ev_zret rfl (Or.inl rfl) (hQ) dX11_hand_35 (Nat.zero_le _) (Nat.zero_le _)
    · replace h := xif_f c19 h
      refine ev_aload_n 0 dX11_hand_22 rfl rfl ?_
      refine xv_getF (a := iC_notes) cl_11 lk_RX11_42 kd_0 (xl hF rfl) (fun _ => rfl) (fr_0_4 hF) dX11_hand_23 ?_
      refine ev_iload_n 1 dX11_hand_26 rfl rfl ?_
      obtain ⟨q3, hq3, h⟩ := xbd_some h
      refine ev_callV (ci := 4) (rest := []) 1 (kX4_holderOf (E := E) (d := 1) (QQ := (fun v τ n' => v = some (.int q3) ∧ τ = xσ μ R ∧ n = n')) (Nat.le_refl _) hF hq3 (⟨rfl, rfl, rfl⟩)) my_X4_holderOf ⟨m_802, m_803, m_804⟩ cl_4 kd_28 (xl hF rfl) rfl rfl (Nat.le_of_ble_eq_true rfl) (Nat.le_trans (by decide) hd) (xlo (by decide) (Nat.le_trans (by decide) hd)) (Nat.zero_le _) (Nat.zero_le _) dX11_hand_27 (fun v τ n' hv => ?_)
      obtain ⟨rfl, rfl, rfl⟩ := hv
      show Ev E (xcm E d 0 0 QQ) Y_X11_hand 30 [(0, .ref (E.2.2.2 + iC)), (1, .int p0), (2, .int p1)] [.int q3] (xσ μ R) n 0 0
      refine ev_iload_n 2 dX11_hand_30 rfl rfl ?_
      refine ev_icmp_ne (tgt := 36) dX11_hand_31 (by decide) (fun c31 => ?_) (fun c31 => ?_)
      · replace h := xif_f c31 h
        refine ev_aload_n 0 dX11_hand_36 rfl rfl ?_
        refine xv_getF (a := iC_notes) cl_11 lk_RX11_42 kd_0 (xl hF rfl) (fun _ => rfl) (fr_0_4 hF) dX11_hand_37 ?_
        refine ev_iload_n 1 dX11_hand_40 rfl rfl ?_
        refine ev_iload_n 2 dX11_hand_41 rfl rfl ?_
        obtain ⟨q4, hq4, h⟩ := xbd_some h
        refine ev_callV (ci := 4) (rest := []) 2 (kX4_handTo (E := E) (d := 1) (QQ := (fun v τ n' => v = none ∧ τ = xσ q4 R ∧ n = n')) (Nat.le_refl _) hF hq4 (⟨rfl, rfl, rfl⟩)) my_X4_handTo ⟨m_826, m_827, m_828⟩ cl_4 kd_28 (xl hF rfl) rfl rfl (Nat.le_of_ble_eq_true rfl) (Nat.le_trans (by decide) hd) (xlo (by decide) (Nat.le_trans (by decide) hd)) (Nat.zero_le _) (Nat.zero_le _) dX11_hand_42 (fun v τ n' hv => ?_)
        obtain ⟨rfl, rfl, rfl⟩ := hv
        show Ev E (xcm E d 0 0 QQ) Y_X11_hand 45 [(0, .ref (E.2.2.2 + iC)), (1, .int p0), (2, .int p1)] [] (xσ q4 R) n 0 0
        refine ev_iconst (v := 1) dX11_hand_45 (by decide) ?_
        cases h
        exact ev_zret rfl (Or.inr rfl) (hQ) dX11_hand_46 (Nat.zero_le _) (Nat.zero_le _)
      · replace h := xif_t c31 h
        refine ev_iconst (v := 0) dX11_hand_34 (by decide) ?_
        cases h
        exact ev_zret rfl (Or.inl rfl) (hQ) dX11_hand_35 (Nat.zero_le _) (Nat.zero_le _)
def fX11_isCase (p0 : Int32) (p1 : Int32) (p2 : Int32) (μ : xm) (R : xr) : Option (Int32) := xbd (fX3_find p0 μ R) fun q1 => xop q1 (some 0) (fun a2 => if p1 = p2 then (some 0) else (xbd (fX2_includes a2 p1 μ) fun q3 => if q3 = 0 then (some 0) else (xbd (fX2_includes a2 p2 μ) fun q4 => if q4 = 0 then (some 0) else (xbd (fX2_start a2 μ) fun q5 => if q5 = (-1) then (some 0) else (some 1)))))
set_option maxHeartbeats 4000000 in
set_option maxRecDepth 100000 in
theorem kX11_isCase {E : xE} {d : Nat} {QQ : xP} (hd : 2 ≤ d) {p0 : Int32} {p1 : Int32} {p2 : Int32} {μ : xm} {R : xr} {n : Nat} (hF : xFin R n)  {res : Int32} (h : fX11_isCase p0 p1 p2 μ R = some res) (hQ : QQ (some (.int res)) (xσ μ R) n) : xCon E d Y_X11_isCase 0 0 [.ref (E.2.2.2 + iC), .int p0, .int p1, .int p2] (xσ μ R) n QQ := by
  refine xCon_of pn_RX11 (Nat.le_of_ble_eq_true rfl) (L0 := [(0, .ref (E.2.2.2 + iC)), (1, .int p0), (2, .int p1), (3, .int p2)]) rfl ?_
  unfold fX11_isCase at h
  refine ev_aload_n 0 dX11_isCase_0 rfl rfl ?_
  refine xv_getF (a := iC_meetings) cl_11 lk_RX11_35 kd_0 (xl hF rfl) (fun _ => rfl) (fr_0_3 hF) dX11_isCase_1 ?_
  refine ev_iload_n 1 dX11_isCase_4 rfl rfl ?_
  obtain ⟨q1, hq1, h⟩ := xbd_some h
  refine ev_callV (ci := 3) (rest := []) 1 (kX3_find (E := E) (d := 0) (QQ := (fun v τ n' => v = some (xrf E.2.2.2 q1) ∧ τ = xσ μ R ∧ n = n' ∧ (∀ a, q1 = some a → xIs 2 a n))) (Nat.le_refl _) hF hq1 (fun z0 => ⟨rfl, rfl, rfl, z0⟩)) my_X3_find ⟨m_491, m_492, m_493⟩ cl_3 kd_23 (xl hF rfl) rfl rfl (Nat.le_of_ble_eq_true rfl) (Nat.le_trans (by decide) hd) (xlo (by decide) (Nat.le_trans (by decide) hd)) (Nat.zero_le _) (Nat.zero_le _) dX11_isCase_5 (fun v τ n' hv => ?_)
  obtain ⟨rfl, rfl, rfl, hvq1⟩ := hv
  show Ev E (xcm E d 0 0 QQ) Y_X11_isCase 8 [(0, .ref (E.2.2.2 + iC)), (1, .int p0), (2, .int p1), (3, .int p2)] [xrf E.2.2.2 q1] (xσ μ R) n 0 0
  refine xv_astore (r := q1) (L' := [(4, xrf E.2.2.2 q1), (0, .ref (E.2.2.2 + iC)), (1, .int p0), (2, .int p1), (3, .int p2)]) dX11_isCase_8 (Nat.le_of_ble_eq_true rfl) rfl ?_
  refine xv_aload (r := q1) 0 dX11_isCase_10 rfl ?_
  refine ev_ifnull (r := q1) (tgt := 38) dX11_isCase_12 (by decide) (fun hr => ?_) (fun a2 hr => ?_)
  · subst hr
    replace h := xop_n h
    refine ev_iconst (v := 0) dX11_isCase_38 (by decide) ?_
    cases h
    exact ev_zret rfl (Or.inl rfl) (hQ) dX11_isCase_39 (Nat.zero_le _) (Nat.zero_le _)
  · subst hr
    replace h := xop_s h
    have ha2 := hvq1 a2 rfl
    refine ev_iload_n 3 dX11_isCase_15 rfl rfl ?_
    refine ev_iload_n 4 dX11_isCase_16 rfl rfl ?_
    refine ev_icmp_eq (tgt := 38) dX11_isCase_17 (by decide) (fun c17 => ?_) (fun c17 => ?_)
    · replace h := xif_t c17 h
      refine ev_iconst (v := 0) dX11_isCase_38 (by decide) ?_
      cases h
      exact ev_zret rfl (Or.inl rfl) (hQ) dX11_isCase_39 (Nat.zero_le _) (Nat.zero_le _)
    · replace h := xif_f c17 h
      refine ev_aload 0 dX11_isCase_20 rfl ?_
      refine ev_iload_n 3 dX11_isCase_22 rfl rfl ?_
      obtain ⟨q3, hq3, h⟩ := xbd_some h
      refine ev_callV (ci := 2) (rest := []) 1 (kX2_includes (E := E) (d := 0) (QQ := (fun v τ n' => v = some (.int q3) ∧ τ = xσ μ R ∧ n = n')) (Nat.le_refl _) hF ha2 hq3 (⟨rfl, rfl, rfl⟩)) my_X2_includes ⟨m_499, m_500, m_501⟩ cl_2 (xIs2_kd ha2) (xIs2_lt ha2) rfl rfl (Nat.le_of_ble_eq_true rfl) (Nat.le_trans (by decide) hd) (xlo (by decide) (Nat.le_trans (by decide) hd)) (Nat.zero_le _) (Nat.zero_le _) dX11_isCase_23 (fun v τ n' hv => ?_)
      obtain ⟨rfl, rfl, rfl⟩ := hv
      show Ev E (xcm E d 0 0 QQ) Y_X11_isCase 26 [(4, .ref (E.2.2.2 + a2)), (0, .ref (E.2.2.2 + iC)), (1, .int p0), (2, .int p1), (3, .int p2)] [.int q3] (xσ μ R) n 0 0
      refine ev_if_eq (tgt := 38) dX11_isCase_26 (by decide) (fun c26 => ?_) (fun c26 => ?_)
      · replace h := xif_t c26 h
        refine ev_iconst (v := 0) dX11_isCase_38 (by decide) ?_
        cases h
        exact ev_zret rfl (Or.inl rfl) (hQ) dX11_isCase_39 (Nat.zero_le _) (Nat.zero_le _)
      · replace h := xif_f c26 h
        refine ev_aload 0 dX11_isCase_29 rfl ?_
        refine ev_iload_n 4 dX11_isCase_31 rfl rfl ?_
        obtain ⟨q4, hq4, h⟩ := xbd_some h
        refine ev_callV (ci := 2) (rest := []) 1 (kX2_includes (E := E) (d := 0) (QQ := (fun v τ n' => v = some (.int q4) ∧ τ = xσ μ R ∧ n = n')) (Nat.le_refl _) hF ha2 hq4 (⟨rfl, rfl, rfl⟩)) my_X2_includes ⟨m_499, m_500, m_501⟩ cl_2 (xIs2_kd ha2) (xIs2_lt ha2) rfl rfl (Nat.le_of_ble_eq_true rfl) (Nat.le_trans (by decide) hd) (xlo (by decide) (Nat.le_trans (by decide) hd)) (Nat.zero_le _) (Nat.zero_le _) dX11_isCase_32 (fun v τ n' hv => ?_)
        obtain ⟨rfl, rfl, rfl⟩ := hv
        show Ev E (xcm E d 0 0 QQ) Y_X11_isCase 35 [(4, .ref (E.2.2.2 + a2)), (0, .ref (E.2.2.2 + iC)), (1, .int p0), (2, .int p1), (3, .int p2)] [.int q4] (xσ μ R) n 0 0
        refine ev_if_ne (tgt := 40) dX11_isCase_35 (by decide) (fun c35 => ?_) (fun c35 => ?_)
        · replace h := xif_f c35 h
          refine ev_aload 0 dX11_isCase_40 rfl ?_
          obtain ⟨q5, hq5, h⟩ := xbd_some h
          refine ev_callV (ci := 2) (rest := []) 0 (kX2_start (E := E) (d := 1) (QQ := (fun v τ n' => v = some (.int q5) ∧ τ = xσ μ R ∧ n = n')) (Nat.le_refl _) hF ha2 hq5 (⟨rfl, rfl, rfl⟩)) my_X2_start ⟨m_621, m_622, m_623⟩ cl_2 (xIs2_kd ha2) (xIs2_lt ha2) rfl rfl (Nat.le_of_ble_eq_true rfl) (Nat.le_trans (by decide) hd) (xlo (by decide) (Nat.le_trans (by decide) hd)) (Nat.zero_le _) (Nat.zero_le _) dX11_isCase_42 (fun v τ n' hv => ?_)
          obtain ⟨rfl, rfl, rfl⟩ := hv
          show Ev E (xcm E d 0 0 QQ) Y_X11_isCase 45 [(4, .ref (E.2.2.2 + a2)), (0, .ref (E.2.2.2 + iC)), (1, .int p0), (2, .int p1), (3, .int p2)] [.int q5] (xσ μ R) n 0 0
          refine ev_iconst (v := (-1)) dX11_isCase_45 (by decide) ?_
          refine ev_icmp_eq (tgt := 53) dX11_isCase_46 (by decide) (fun c46 => ?_) (fun c46 => ?_)
          · replace h := xif_t c46 h
            refine ev_iconst (v := 0) dX11_isCase_53 (by decide) ?_
            cases h
            exact ev_zret rfl (Or.inl rfl) (hQ) dX11_isCase_54 (Nat.zero_le _) (Nat.zero_le _)
          · replace h := xif_f c46 h
            refine ev_iconst (v := 1) dX11_isCase_49 (by decide) ?_
            refine ev_goto (tgt := 54) dX11_isCase_50 (by decide) ?_
            cases h
            exact ev_zret rfl (Or.inr rfl) (hQ) dX11_isCase_54 (Nat.zero_le _) (Nat.zero_le _)
        · replace h := xif_t c35 h
          refine ev_iconst (v := 0) dX11_isCase_38 (by decide) ?_
          cases h
          exact ev_zret rfl (Or.inl rfl) (hQ) dX11_isCase_39 (Nat.zero_le _) (Nat.zero_le _)
def fX11_noteIs (p0 : Int32) (p1 : Int32) (μ : xm) : Option (Int32) := xbd (fX4_holds p0 μ) fun q1 => if q1 = 0 then (some (-1000)) else (if p1 = 0 then (xbd (fX4_owerOf p0 μ) fun q2 => some q2) else (if p1 = 1 then (xbd (fX4_holderOf p0 μ) fun q3 => some q3) else (if p1 = 2 then (xbd (fX4_minutesOf p0 μ) fun q4 => some q4) else (if p1 = 3 then (xbd (fX4_madeOn p0 μ) fun q5 => some q5) else (if p1 = 4 then (xbd (fX4_lapsesOn p0 μ) fun q6 => some q6) else (if p1 = 5 then (xbd (fX4_isLive p0 (μ.1 iC 8) μ) fun q7 => if q7 = 0 then (some 0) else (some 1)) else (some (-1000))))))))
set_option maxHeartbeats 4000000 in
set_option maxRecDepth 100000 in
theorem kX11_noteIs {E : xE} {d : Nat} {QQ : xP} (hd : 2 ≤ d) {p0 : Int32} {p1 : Int32} {μ : xm} {R : xr} {n : Nat} (hF : xFin R n)  {res : Int32} (h : fX11_noteIs p0 p1 μ = some res) (hQ : QQ (some (.int res)) (xσ μ R) n) : xCon E d Y_X11_noteIs 0 0 [.ref (E.2.2.2 + iC), .int p0, .int p1] (xσ μ R) n QQ := by
  refine xCon_of pn_RX11 (Nat.le_of_ble_eq_true rfl) (L0 := [(0, .ref (E.2.2.2 + iC)), (1, .int p0), (2, .int p1)]) rfl ?_
  unfold fX11_noteIs at h
  refine ev_aload_n 0 dX11_noteIs_0 rfl rfl ?_
  refine xv_getF (a := iC_notes) cl_11 lk_RX11_42 kd_0 (xl hF rfl) (fun _ => rfl) (fr_0_4 hF) dX11_noteIs_1 ?_
  refine ev_iload_n 1 dX11_noteIs_4 rfl rfl ?_
  obtain ⟨q1, hq1, h⟩ := xbd_some h
  refine ev_callV (ci := 4) (rest := []) 1 (kX4_holds (E := E) (d := 0) (QQ := (fun v τ n' => v = some (.int q1) ∧ τ = xσ μ R ∧ n = n')) (Nat.le_refl _) hF hq1 (⟨rfl, rfl, rfl⟩)) my_X4_holds ⟨m_793, m_794, m_795⟩ cl_4 kd_28 (xl hF rfl) rfl rfl (Nat.le_of_ble_eq_true rfl) (Nat.le_trans (by decide) hd) (xlo (by decide) (Nat.le_trans (by decide) hd)) (Nat.zero_le _) (Nat.zero_le _) dX11_noteIs_5 (fun v τ n' hv => ?_)
  obtain ⟨rfl, rfl, rfl⟩ := hv
  show Ev E (xcm E d 0 0 QQ) Y_X11_noteIs 8 [(0, .ref (E.2.2.2 + iC)), (1, .int p0), (2, .int p1)] [.int q1] (xσ μ R) n 0 0
  refine ev_if_ne (tgt := 15) dX11_noteIs_8 (by decide) (fun c8 => ?_) (fun c8 => ?_)
  · replace h := xif_f c8 h
    refine ev_iload_n 2 dX11_noteIs_15 rfl rfl ?_
    by_cases c16_0 : p1 = 0
    · replace h := xif_t c16_0 h
      refine ev_switch (tgt := 56) (off := 40) dX11_noteIs_16 (xsw_in (v := 0) (by rw [c16_0]; rfl) (by decide +kernel)) (by decide) ?_
      refine ev_aload_n 0 dX11_noteIs_56 rfl rfl ?_
      refine xv_getF (a := iC_notes) cl_11 lk_RX11_42 kd_0 (xl hF rfl) (fun _ => rfl) (fr_0_4 hF) dX11_noteIs_57 ?_
      refine ev_iload_n 1 dX11_noteIs_60 rfl rfl ?_
      obtain ⟨q2, hq2, h⟩ := xbd_some h
      refine ev_callV (ci := 4) (rest := []) 1 (kX4_owerOf (E := E) (d := 1) (QQ := (fun v τ n' => v = some (.int q2) ∧ τ = xσ μ R ∧ n = n')) (Nat.le_refl _) hF hq2 (⟨rfl, rfl, rfl⟩)) my_X4_owerOf ⟨m_797, m_798, m_799⟩ cl_4 kd_28 (xl hF rfl) rfl rfl (Nat.le_of_ble_eq_true rfl) (Nat.le_trans (by decide) hd) (xlo (by decide) (Nat.le_trans (by decide) hd)) (Nat.zero_le _) (Nat.zero_le _) dX11_noteIs_61 (fun v τ n' hv => ?_)
      obtain ⟨rfl, rfl, rfl⟩ := hv
      show Ev E (xcm E d 0 0 QQ) Y_X11_noteIs 64 [(0, .ref (E.2.2.2 + iC)), (1, .int p0), (2, .int p1)] [.int q2] (xσ μ R) n 0 0
      cases h
      exact ev_iret rfl (hQ) dX11_noteIs_64 (Nat.zero_le _) (Nat.zero_le _)
    · replace h := xif_f c16_0 h
      by_cases c16_1 : p1 = 1
      · replace h := xif_t c16_1 h
        refine ev_switch (tgt := 65) (off := 49) dX11_noteIs_16 (xsw_in (v := 1) (by rw [c16_1]; rfl) (by decide +kernel)) (by decide) ?_
        refine ev_aload_n 0 dX11_noteIs_65 rfl rfl ?_
        refine xv_getF (a := iC_notes) cl_11 lk_RX11_42 kd_0 (xl hF rfl) (fun _ => rfl) (fr_0_4 hF) dX11_noteIs_66 ?_
        refine ev_iload_n 1 dX11_noteIs_69 rfl rfl ?_
        obtain ⟨q3, hq3, h⟩ := xbd_some h
        refine ev_callV (ci := 4) (rest := []) 1 (kX4_holderOf (E := E) (d := 1) (QQ := (fun v τ n' => v = some (.int q3) ∧ τ = xσ μ R ∧ n = n')) (Nat.le_refl _) hF hq3 (⟨rfl, rfl, rfl⟩)) my_X4_holderOf ⟨m_802, m_803, m_804⟩ cl_4 kd_28 (xl hF rfl) rfl rfl (Nat.le_of_ble_eq_true rfl) (Nat.le_trans (by decide) hd) (xlo (by decide) (Nat.le_trans (by decide) hd)) (Nat.zero_le _) (Nat.zero_le _) dX11_noteIs_70 (fun v τ n' hv => ?_)
        obtain ⟨rfl, rfl, rfl⟩ := hv
        show Ev E (xcm E d 0 0 QQ) Y_X11_noteIs 73 [(0, .ref (E.2.2.2 + iC)), (1, .int p0), (2, .int p1)] [.int q3] (xσ μ R) n 0 0
        cases h
        exact ev_iret rfl (hQ) dX11_noteIs_73 (Nat.zero_le _) (Nat.zero_le _)
      · replace h := xif_f c16_1 h
        by_cases c16_2 : p1 = 2
        · replace h := xif_t c16_2 h
          refine ev_switch (tgt := 74) (off := 58) dX11_noteIs_16 (xsw_in (v := 2) (by rw [c16_2]; rfl) (by decide +kernel)) (by decide) ?_
          refine ev_aload_n 0 dX11_noteIs_74 rfl rfl ?_
          refine xv_getF (a := iC_notes) cl_11 lk_RX11_42 kd_0 (xl hF rfl) (fun _ => rfl) (fr_0_4 hF) dX11_noteIs_75 ?_
          refine ev_iload_n 1 dX11_noteIs_78 rfl rfl ?_
          obtain ⟨q4, hq4, h⟩ := xbd_some h
          refine ev_callV (ci := 4) (rest := []) 1 (kX4_minutesOf (E := E) (d := 1) (QQ := (fun v τ n' => v = some (.int q4) ∧ τ = xσ μ R ∧ n = n')) (Nat.le_refl _) hF hq4 (⟨rfl, rfl, rfl⟩)) my_X4_minutesOf ⟨m_806, m_807, m_808⟩ cl_4 kd_28 (xl hF rfl) rfl rfl (Nat.le_of_ble_eq_true rfl) (Nat.le_trans (by decide) hd) (xlo (by decide) (Nat.le_trans (by decide) hd)) (Nat.zero_le _) (Nat.zero_le _) dX11_noteIs_79 (fun v τ n' hv => ?_)
          obtain ⟨rfl, rfl, rfl⟩ := hv
          show Ev E (xcm E d 0 0 QQ) Y_X11_noteIs 82 [(0, .ref (E.2.2.2 + iC)), (1, .int p0), (2, .int p1)] [.int q4] (xσ μ R) n 0 0
          cases h
          exact ev_iret rfl (hQ) dX11_noteIs_82 (Nat.zero_le _) (Nat.zero_le _)
        · replace h := xif_f c16_2 h
          by_cases c16_3 : p1 = 3
          · replace h := xif_t c16_3 h
            refine ev_switch (tgt := 83) (off := 67) dX11_noteIs_16 (xsw_in (v := 3) (by rw [c16_3]; rfl) (by decide +kernel)) (by decide) ?_
            refine ev_aload_n 0 dX11_noteIs_83 rfl rfl ?_
            refine xv_getF (a := iC_notes) cl_11 lk_RX11_42 kd_0 (xl hF rfl) (fun _ => rfl) (fr_0_4 hF) dX11_noteIs_84 ?_
            refine ev_iload_n 1 dX11_noteIs_87 rfl rfl ?_
            obtain ⟨q5, hq5, h⟩ := xbd_some h
            refine ev_callV (ci := 4) (rest := []) 1 (kX4_madeOn (E := E) (d := 1) (QQ := (fun v τ n' => v = some (.int q5) ∧ τ = xσ μ R ∧ n = n')) (Nat.le_refl _) hF hq5 (⟨rfl, rfl, rfl⟩)) my_X4_madeOn ⟨m_810, m_811, m_812⟩ cl_4 kd_28 (xl hF rfl) rfl rfl (Nat.le_of_ble_eq_true rfl) (Nat.le_trans (by decide) hd) (xlo (by decide) (Nat.le_trans (by decide) hd)) (Nat.zero_le _) (Nat.zero_le _) dX11_noteIs_88 (fun v τ n' hv => ?_)
            obtain ⟨rfl, rfl, rfl⟩ := hv
            show Ev E (xcm E d 0 0 QQ) Y_X11_noteIs 91 [(0, .ref (E.2.2.2 + iC)), (1, .int p0), (2, .int p1)] [.int q5] (xσ μ R) n 0 0
            cases h
            exact ev_iret rfl (hQ) dX11_noteIs_91 (Nat.zero_le _) (Nat.zero_le _)
          · replace h := xif_f c16_3 h
            by_cases c16_4 : p1 = 4
            · replace h := xif_t c16_4 h
              refine ev_switch (tgt := 92) (off := 76) dX11_noteIs_16 (xsw_in (v := 4) (by rw [c16_4]; rfl) (by decide +kernel)) (by decide) ?_
              refine ev_aload_n 0 dX11_noteIs_92 rfl rfl ?_
              refine xv_getF (a := iC_notes) cl_11 lk_RX11_42 kd_0 (xl hF rfl) (fun _ => rfl) (fr_0_4 hF) dX11_noteIs_93 ?_
              refine ev_iload_n 1 dX11_noteIs_96 rfl rfl ?_
              obtain ⟨q6, hq6, h⟩ := xbd_some h
              refine ev_callV (ci := 4) (rest := []) 1 (kX4_lapsesOn (E := E) (d := 1) (QQ := (fun v τ n' => v = some (.int q6) ∧ τ = xσ μ R ∧ n = n')) (Nat.le_refl _) hF hq6 (⟨rfl, rfl, rfl⟩)) my_X4_lapsesOn ⟨m_814, m_815, m_816⟩ cl_4 kd_28 (xl hF rfl) rfl rfl (Nat.le_of_ble_eq_true rfl) (Nat.le_trans (by decide) hd) (xlo (by decide) (Nat.le_trans (by decide) hd)) (Nat.zero_le _) (Nat.zero_le _) dX11_noteIs_97 (fun v τ n' hv => ?_)
              obtain ⟨rfl, rfl, rfl⟩ := hv
              show Ev E (xcm E d 0 0 QQ) Y_X11_noteIs 100 [(0, .ref (E.2.2.2 + iC)), (1, .int p0), (2, .int p1)] [.int q6] (xσ μ R) n 0 0
              cases h
              exact ev_iret rfl (hQ) dX11_noteIs_100 (Nat.zero_le _) (Nat.zero_le _)
            · replace h := xif_f c16_4 h
              by_cases c16_5 : p1 = 5
              · replace h := xif_t c16_5 h
                refine ev_switch (tgt := 101) (off := 85) dX11_noteIs_16 (xsw_in (v := 5) (by rw [c16_5]; rfl) (by decide +kernel)) (by decide) ?_
                refine ev_aload_n 0 dX11_noteIs_101 rfl rfl ?_
                refine xv_getF (a := iC_notes) cl_11 lk_RX11_42 kd_0 (xl hF rfl) (fun _ => rfl) (fr_0_4 hF) dX11_noteIs_102 ?_
                refine ev_iload_n 1 dX11_noteIs_105 rfl rfl ?_
                refine ev_aload_n 0 dX11_noteIs_106 rfl rfl ?_
                refine xv_getI cl_11 lk_RX11_69 kd_0 (xl hF rfl) (fun _ => rfl) dX11_noteIs_107 ?_
                obtain ⟨q7, hq7, h⟩ := xbd_some h
                refine ev_callV (ci := 4) (rest := []) 2 (kX4_isLive (E := E) (d := 1) (QQ := (fun v τ n' => v = some (.int q7) ∧ τ = xσ μ R ∧ n = n')) (Nat.le_refl _) hF hq7 (⟨rfl, rfl, rfl⟩)) my_X4_isLive ⟨m_818, m_819, m_820⟩ cl_4 kd_28 (xl hF rfl) rfl rfl (Nat.le_of_ble_eq_true rfl) (Nat.le_trans (by decide) hd) (xlo (by decide) (Nat.le_trans (by decide) hd)) (Nat.zero_le _) (Nat.zero_le _) dX11_noteIs_110 (fun v τ n' hv => ?_)
                obtain ⟨rfl, rfl, rfl⟩ := hv
                show Ev E (xcm E d 0 0 QQ) Y_X11_noteIs 113 [(0, .ref (E.2.2.2 + iC)), (1, .int p0), (2, .int p1)] [.int q7] (xσ μ R) n 0 0
                refine ev_if_eq (tgt := 120) dX11_noteIs_113 (by decide) (fun c113 => ?_) (fun c113 => ?_)
                · replace h := xif_t c113 h
                  refine ev_iconst (v := 0) dX11_noteIs_120 (by decide) ?_
                  cases h
                  exact ev_iret rfl (hQ) dX11_noteIs_121 (Nat.zero_le _) (Nat.zero_le _)
                · replace h := xif_f c113 h
                  refine ev_iconst (v := 1) dX11_noteIs_116 (by decide) ?_
                  refine ev_goto (tgt := 121) dX11_noteIs_117 (by decide) ?_
                  cases h
                  exact ev_iret rfl (hQ) dX11_noteIs_121 (Nat.zero_le _) (Nat.zero_le _)
              · replace h := xif_f c16_5 h
                refine ev_switch (tgt := 122) (off := 106) dX11_noteIs_16 (xsw_out [0, 1, 2, 3, 4, 5] (List.forall_mem_cons.mpr ⟨(xne (c := 0) rfl c16_0), (List.forall_mem_cons.mpr ⟨(xne (c := 1) rfl c16_1), (List.forall_mem_cons.mpr ⟨(xne (c := 2) rfl c16_2), (List.forall_mem_cons.mpr ⟨(xne (c := 3) rfl c16_3), (List.forall_mem_cons.mpr ⟨(xne (c := 4) rfl c16_4), (List.forall_mem_cons.mpr ⟨(xne (c := 5) rfl c16_5), (fun _ e => absurd e List.not_mem_nil)⟩)⟩)⟩)⟩)⟩)⟩) (by decide +kernel)) (by decide) ?_
                refine ev_sipush (v := (-1000)) dX11_noteIs_122 (by decide) ?_
                cases h
                exact ev_iret rfl (hQ) dX11_noteIs_125 (Nat.zero_le _) (Nat.zero_le _)
  · replace h := xif_t c8 h
    refine ev_sipush (v := (-1000)) dX11_noteIs_11 (by decide) ?_
    cases h
    exact ev_iret rfl (hQ) dX11_noteIs_14 (Nat.zero_le _) (Nat.zero_le _)
def fX11_now (p0 : Int32) (μ : xm) : Option (Int32 × xm) := xbd (fX11_within p0 (μ.1 iC 8) 99) fun q1 => if q1 = 0 then (some (0, μ)) else (if p0 ≤ (μ.1 iC 8) then (xlt (xpI μ iC 8 p0) fun μ2 => some (1, μ2)) else (xbd (fX5_emptyHours μ) fun q3 => xlt (xpI q3 iC 8 p0) fun μ4 => some (1, μ4)))
set_option maxHeartbeats 4000000 in
set_option maxRecDepth 100000 in
theorem kX11_now {E : xE} {d : Nat} {QQ : xP} (hd : 2 ≤ d) {p0 : Int32} {μ : xm} {R : xr} {n : Nat} (hF : xFin R n)  {res : Int32 × xm} (h : fX11_now p0 μ = some res) (hQ : QQ (some (.int res.1)) (xσ res.2 R) n) : xCon E d Y_X11_now 0 0 [.ref (E.2.2.2 + iC), .int p0] (xσ μ R) n QQ := by
  refine xCon_of pn_RX11 (Nat.le_of_ble_eq_true rfl) (L0 := [(0, .ref (E.2.2.2 + iC)), (1, .int p0)]) rfl ?_
  unfold fX11_now at h
  refine ev_iload_n 1 dX11_now_0 rfl rfl ?_
  refine ev_aload_n 0 dX11_now_1 rfl rfl ?_
  refine xv_getI cl_11 lk_RX11_69 kd_0 (xl hF rfl) (fun _ => rfl) dX11_now_2 ?_
  refine ev_bipush (v := 99) dX11_now_5 (by decide) ?_
  obtain ⟨q1, hq1, h⟩ := xbd_some h
  refine ev_callS (As := [.int p0, .int (μ.1 iC 8), .int 99]) (rest := []) 3 (kX11_within (E := E) (d := 0) (QQ := (fun v τ n' => v = some (.int q1) ∧ τ = xσ μ R ∧ n = n')) (Nat.le_refl _)  hq1 (⟨rfl, rfl, rfl⟩)) my_X11_within ⟨m_424, m_425⟩ rfl rfl (Nat.le_of_ble_eq_true rfl) (Nat.le_trans (by decide) hd) (xlo (by decide) (Nat.le_trans (by decide) hd)) (Nat.zero_le _) (Nat.zero_le _) dX11_now_7 (fun v τ n' hv => ?_)
  obtain ⟨rfl, rfl, rfl⟩ := hv
  show Ev E (xcm E d 0 0 QQ) Y_X11_now 10 [(0, .ref (E.2.2.2 + iC)), (1, .int p0)] [.int q1] (xσ μ R) n 0 0
  refine ev_if_ne (tgt := 15) dX11_now_10 (by decide) (fun c10 => ?_) (fun c10 => ?_)
  · replace h := xif_f c10 h
    refine ev_iload_n 1 dX11_now_15 rfl rfl ?_
    refine ev_aload_n 0 dX11_now_16 rfl rfl ?_
    refine xv_getI cl_11 lk_RX11_69 kd_0 (xl hF rfl) (fun _ => rfl) dX11_now_17 ?_
    refine ev_icmp_le (tgt := 30) dX11_now_20 (by decide) (fun c20 => ?_) (fun c20 => ?_)
    · replace h := xif_t c20 h
      refine ev_aload_n 0 dX11_now_30 rfl rfl ?_
      refine ev_iload_n 1 dX11_now_31 rfl rfl ?_
      obtain ⟨μ2, hμ2, h⟩ := xlt_some h
      refine xv_putI cl_11 lk_RX11_69 rfl kd_0 (xl hF rfl) rfl rfl (fun _ => rfl) hμ2 dX11_now_32 ?_
      refine ev_iconst (v := 1) dX11_now_35 (by decide) ?_
      cases h
      exact ev_zret rfl (Or.inr rfl) (hQ) dX11_now_36 (Nat.zero_le _) (Nat.zero_le _)
    · replace h := xif_f c20 h
      refine ev_aload_n 0 dX11_now_23 rfl rfl ?_
      refine xv_getF (a := iC_people) cl_11 lk_RX11_26 kd_0 (xl hF rfl) (fun _ => rfl) (fr_0_2 hF) dX11_now_24 ?_
      obtain ⟨q3, hq3, h⟩ := xbd_some h
      refine ev_callV (ci := 5) (rest := []) 0 (kX5_emptyHours (E := E) (d := 1) (QQ := (fun v τ n' => v = none ∧ τ = xσ q3 R ∧ n = n')) (Nat.le_refl _) hF hq3 (⟨rfl, rfl, rfl⟩)) my_X5_emptyHours ⟨m_427, m_428, m_429⟩ cl_5 kd_19 (xl hF rfl) rfl rfl (Nat.le_of_ble_eq_true rfl) (Nat.le_trans (by decide) hd) (xlo (by decide) (Nat.le_trans (by decide) hd)) (Nat.zero_le _) (Nat.zero_le _) dX11_now_27 (fun v τ n' hv => ?_)
      obtain ⟨rfl, rfl, rfl⟩ := hv
      show Ev E (xcm E d 0 0 QQ) Y_X11_now 30 [(0, .ref (E.2.2.2 + iC)), (1, .int p0)] [] (xσ q3 R) n 0 0
      refine ev_aload_n 0 dX11_now_30 rfl rfl ?_
      refine ev_iload_n 1 dX11_now_31 rfl rfl ?_
      obtain ⟨μ4, hμ4, h⟩ := xlt_some h
      refine xv_putI cl_11 lk_RX11_69 rfl kd_0 (xl hF rfl) rfl rfl (fun _ => rfl) hμ4 dX11_now_32 ?_
      refine ev_iconst (v := 1) dX11_now_35 (by decide) ?_
      cases h
      exact ev_zret rfl (Or.inr rfl) (hQ) dX11_now_36 (Nat.zero_le _) (Nat.zero_le _)
  · replace h := xif_t c10 h
    refine ev_iconst (v := 0) dX11_now_13 (by decide) ?_
    cases h
    exact ev_zret rfl (Or.inl rfl) (hQ) dX11_now_14 (Nat.zero_le _) (Nat.zero_le _)
def fX11_take (p0 : Int32) (p1 : Int32) (p2 : Int32) (μ : xm) : Option (Int32 × xm) := xbd (fX4_isLive p0 (μ.1 iC 8) μ) fun q1 => if q1 = 0 then (some ((-1), μ)) else (xbd (fX11_within p2 0 23) fun q2 => if q2 = 0 then (some ((-1), μ)) else (xbd (fX11_within p1 1 60) fun q3 => if q3 = 0 then (some ((-1), μ)) else (xbd (fX4_minutesOf p0 μ) fun q4 => if p1 ≤ q4 then (xbd (fX4_owerOf p0 μ) fun q5 => xbd (fX4_holderOf p0 μ) fun q6 => xbd (fX5_givenIn q5 p2 μ) fun q7 => if (q7 + p1) ≤ 60 then (xbd (fX5_takenIn q6 p2 μ) fun q8 => if (q8 + p1) ≤ 60 then (xbd (fX5_countTaking q5 q6 p2 p1 μ) fun q9 => xbd (fX4_lessen p0 p1 q9) fun q10 => xbd (fX4_minutesOf p0 q10) fun q11 => some (q11, q10)) else (some ((-1), μ))) else (some ((-1), μ))) else (some ((-1), μ)))))
set_option maxHeartbeats 4000000 in
set_option maxRecDepth 100000 in
theorem kX11_take {E : xE} {d : Nat} {QQ : xP} (hd : 2 ≤ d) {p0 : Int32} {p1 : Int32} {p2 : Int32} {μ : xm} {R : xr} {n : Nat} (hF : xFin R n)  {res : Int32 × xm} (h : fX11_take p0 p1 p2 μ = some res) (hQ : QQ (some (.int res.1)) (xσ res.2 R) n) : xCon E d Y_X11_take 0 0 [.ref (E.2.2.2 + iC), .int p0, .int p1, .int p2] (xσ μ R) n QQ := by
  refine xCon_of pn_RX11 (Nat.le_of_ble_eq_true rfl) (L0 := [(0, .ref (E.2.2.2 + iC)), (1, .int p0), (2, .int p1), (3, .int p2)]) rfl ?_
  unfold fX11_take at h
  refine ev_aload_n 0 dX11_take_0 rfl rfl ?_
  refine xv_getF (a := iC_notes) cl_11 lk_RX11_42 kd_0 (xl hF rfl) (fun _ => rfl) (fr_0_4 hF) dX11_take_1 ?_
  refine ev_iload_n 1 dX11_take_4 rfl rfl ?_
  refine ev_aload_n 0 dX11_take_5 rfl rfl ?_
  refine xv_getI cl_11 lk_RX11_69 kd_0 (xl hF rfl) (fun _ => rfl) dX11_take_6 ?_
  obtain ⟨q1, hq1, h⟩ := xbd_some h
  refine ev_callV (ci := 4) (rest := []) 2 (kX4_isLive (E := E) (d := 1) (QQ := (fun v τ n' => v = some (.int q1) ∧ τ = xσ μ R ∧ n = n')) (Nat.le_refl _) hF hq1 (⟨rfl, rfl, rfl⟩)) my_X4_isLive ⟨m_818, m_819, m_820⟩ cl_4 kd_28 (xl hF rfl) rfl rfl (Nat.le_of_ble_eq_true rfl) (Nat.le_trans (by decide) hd) (xlo (by decide) (Nat.le_trans (by decide) hd)) (Nat.zero_le _) (Nat.zero_le _) dX11_take_9 (fun v τ n' hv => ?_)
  obtain ⟨rfl, rfl, rfl⟩ := hv
  show Ev E (xcm E d 0 0 QQ) Y_X11_take 12 [(0, .ref (E.2.2.2 + iC)), (1, .int p0), (2, .int p1), (3, .int p2)] [.int q1] (xσ μ R) n 0 0
  refine ev_if_eq (tgt := 25) dX11_take_12 (by decide) (fun c12 => ?_) (fun c12 => ?_)
  · replace h := xif_t c12 h
    refine ev_iconst (v := (-1)) dX11_take_25 (by decide) ?_
    cases h
    exact ev_iret rfl (hQ) dX11_take_26 (Nat.zero_le _) (Nat.zero_le _)
  · replace h := xif_f c12 h
    refine ev_iload_n 3 dX11_take_15 rfl rfl ?_
    refine ev_iconst (v := 0) dX11_take_16 (by decide) ?_
    refine ev_bipush (v := 23) dX11_take_17 (by decide) ?_
    obtain ⟨q2, hq2, h⟩ := xbd_some h
    refine ev_callS (As := [.int p2, .int 0, .int 23]) (rest := []) 3 (kX11_within (E := E) (d := 0) (QQ := (fun v τ n' => v = some (.int q2) ∧ τ = xσ μ R ∧ n = n')) (Nat.le_refl _)  hq2 (⟨rfl, rfl, rfl⟩)) my_X11_within ⟨m_424, m_425⟩ rfl rfl (Nat.le_of_ble_eq_true rfl) (Nat.le_trans (by decide) hd) (xlo (by decide) (Nat.le_trans (by decide) hd)) (Nat.zero_le _) (Nat.zero_le _) dX11_take_19 (fun v τ n' hv => ?_)
    obtain ⟨rfl, rfl, rfl⟩ := hv
    show Ev E (xcm E d 0 0 QQ) Y_X11_take 22 [(0, .ref (E.2.2.2 + iC)), (1, .int p0), (2, .int p1), (3, .int p2)] [.int q2] (xσ μ R) n 0 0
    refine ev_if_ne (tgt := 27) dX11_take_22 (by decide) (fun c22 => ?_) (fun c22 => ?_)
    · replace h := xif_f c22 h
      refine ev_iload_n 2 dX11_take_27 rfl rfl ?_
      refine ev_iconst (v := 1) dX11_take_28 (by decide) ?_
      refine ev_bipush (v := 60) dX11_take_29 (by decide) ?_
      obtain ⟨q3, hq3, h⟩ := xbd_some h
      refine ev_callS (As := [.int p1, .int 1, .int 60]) (rest := []) 3 (kX11_within (E := E) (d := 0) (QQ := (fun v τ n' => v = some (.int q3) ∧ τ = xσ μ R ∧ n = n')) (Nat.le_refl _)  hq3 (⟨rfl, rfl, rfl⟩)) my_X11_within ⟨m_424, m_425⟩ rfl rfl (Nat.le_of_ble_eq_true rfl) (Nat.le_trans (by decide) hd) (xlo (by decide) (Nat.le_trans (by decide) hd)) (Nat.zero_le _) (Nat.zero_le _) dX11_take_31 (fun v τ n' hv => ?_)
      obtain ⟨rfl, rfl, rfl⟩ := hv
      show Ev E (xcm E d 0 0 QQ) Y_X11_take 34 [(0, .ref (E.2.2.2 + iC)), (1, .int p0), (2, .int p1), (3, .int p2)] [.int q3] (xσ μ R) n 0 0
      refine ev_if_eq (tgt := 49) dX11_take_34 (by decide) (fun c34 => ?_) (fun c34 => ?_)
      · replace h := xif_t c34 h
        refine ev_iconst (v := (-1)) dX11_take_49 (by decide) ?_
        cases h
        exact ev_iret rfl (hQ) dX11_take_50 (Nat.zero_le _) (Nat.zero_le _)
      · replace h := xif_f c34 h
        refine ev_aload_n 0 dX11_take_37 rfl rfl ?_
        refine xv_getF (a := iC_notes) cl_11 lk_RX11_42 kd_0 (xl hF rfl) (fun _ => rfl) (fr_0_4 hF) dX11_take_38 ?_
        refine ev_iload_n 1 dX11_take_41 rfl rfl ?_
        obtain ⟨q4, hq4, h⟩ := xbd_some h
        refine ev_callV (ci := 4) (rest := []) 1 (kX4_minutesOf (E := E) (d := 1) (QQ := (fun v τ n' => v = some (.int q4) ∧ τ = xσ μ R ∧ n = n')) (Nat.le_refl _) hF hq4 (⟨rfl, rfl, rfl⟩)) my_X4_minutesOf ⟨m_806, m_807, m_808⟩ cl_4 kd_28 (xl hF rfl) rfl rfl (Nat.le_of_ble_eq_true rfl) (Nat.le_trans (by decide) hd) (xlo (by decide) (Nat.le_trans (by decide) hd)) (Nat.zero_le _) (Nat.zero_le _) dX11_take_42 (fun v τ n' hv => ?_)
        obtain ⟨rfl, rfl, rfl⟩ := hv
        show Ev E (xcm E d 0 0 QQ) Y_X11_take 45 [(0, .ref (E.2.2.2 + iC)), (1, .int p0), (2, .int p1), (3, .int p2)] [.int q4] (xσ μ R) n 0 0
        refine ev_iload_n 2 dX11_take_45 rfl rfl ?_
        refine ev_icmp_ge (tgt := 51) dX11_take_46 (by decide) (fun c46 => ?_) (fun c46 => ?_)
        · replace h := xif_t c46 h
          refine ev_aload_n 0 dX11_take_51 rfl rfl ?_
          refine xv_getF (a := iC_notes) cl_11 lk_RX11_42 kd_0 (xl hF rfl) (fun _ => rfl) (fr_0_4 hF) dX11_take_52 ?_
          refine ev_iload_n 1 dX11_take_55 rfl rfl ?_
          obtain ⟨q5, hq5, h⟩ := xbd_some h
          refine ev_callV (ci := 4) (rest := []) 1 (kX4_owerOf (E := E) (d := 1) (QQ := (fun v τ n' => v = some (.int q5) ∧ τ = xσ μ R ∧ n = n')) (Nat.le_refl _) hF hq5 (⟨rfl, rfl, rfl⟩)) my_X4_owerOf ⟨m_797, m_798, m_799⟩ cl_4 kd_28 (xl hF rfl) rfl rfl (Nat.le_of_ble_eq_true rfl) (Nat.le_trans (by decide) hd) (xlo (by decide) (Nat.le_trans (by decide) hd)) (Nat.zero_le _) (Nat.zero_le _) dX11_take_56 (fun v τ n' hv => ?_)
          obtain ⟨rfl, rfl, rfl⟩ := hv
          show Ev E (xcm E d 0 0 QQ) Y_X11_take 59 [(0, .ref (E.2.2.2 + iC)), (1, .int p0), (2, .int p1), (3, .int p2)] [.int q5] (xσ μ R) n 0 0
          refine xv_istore (L' := [(4, .int q5), (0, .ref (E.2.2.2 + iC)), (1, .int p0), (2, .int p1), (3, .int p2)]) rfl dX11_take_59 (Nat.le_of_ble_eq_true rfl) rfl ?_
          refine ev_aload_n 1 dX11_take_61 rfl rfl ?_
          refine xv_getF (a := iC_notes) cl_11 lk_RX11_42 kd_0 (xl hF rfl) (fun _ => rfl) (fr_0_4 hF) dX11_take_62 ?_
          refine ev_iload_n 2 dX11_take_65 rfl rfl ?_
          obtain ⟨q6, hq6, h⟩ := xbd_some h
          refine ev_callV (ci := 4) (rest := []) 1 (kX4_holderOf (E := E) (d := 1) (QQ := (fun v τ n' => v = some (.int q6) ∧ τ = xσ μ R ∧ n = n')) (Nat.le_refl _) hF hq6 (⟨rfl, rfl, rfl⟩)) my_X4_holderOf ⟨m_802, m_803, m_804⟩ cl_4 kd_28 (xl hF rfl) rfl rfl (Nat.le_of_ble_eq_true rfl) (Nat.le_trans (by decide) hd) (xlo (by decide) (Nat.le_trans (by decide) hd)) (Nat.zero_le _) (Nat.zero_le _) dX11_take_66 (fun v τ n' hv => ?_)
          obtain ⟨rfl, rfl, rfl⟩ := hv
          show Ev E (xcm E d 0 0 QQ) Y_X11_take 69 [(4, .int q5), (0, .ref (E.2.2.2 + iC)), (1, .int p0), (2, .int p1), (3, .int p2)] [.int q6] (xσ μ R) n 0 0
          refine xv_istore (L' := [(5, .int q6), (4, .int q5), (0, .ref (E.2.2.2 + iC)), (1, .int p0), (2, .int p1), (3, .int p2)]) rfl dX11_take_69 (Nat.le_of_ble_eq_true rfl) rfl ?_
          refine ev_aload_n 2 dX11_take_71 rfl rfl ?_
          refine xv_getF (a := iC_people) cl_11 lk_RX11_26 kd_0 (xl hF rfl) (fun _ => rfl) (fr_0_2 hF) dX11_take_72 ?_
          refine ev_iload 1 dX11_take_75 rfl ?_
          refine ev_iload_n 5 dX11_take_77 rfl rfl ?_
          obtain ⟨q7, hq7, h⟩ := xbd_some h
          refine ev_callV (ci := 5) (rest := []) 2 (kX5_givenIn (E := E) (d := 1) (QQ := (fun v τ n' => v = some (.int q7) ∧ τ = xσ μ R ∧ n = n')) (Nat.le_refl _) hF hq7 (⟨rfl, rfl, rfl⟩)) my_X5_givenIn ⟨m_843, m_844, m_845⟩ cl_5 kd_19 (xl hF rfl) rfl rfl (Nat.le_of_ble_eq_true rfl) (Nat.le_trans (by decide) hd) (xlo (by decide) (Nat.le_trans (by decide) hd)) (Nat.zero_le _) (Nat.zero_le _) dX11_take_78 (fun v τ n' hv => ?_)
          obtain ⟨rfl, rfl, rfl⟩ := hv
          show Ev E (xcm E d 0 0 QQ) Y_X11_take 81 [(5, .int q6), (4, .int q5), (0, .ref (E.2.2.2 + iC)), (1, .int p0), (2, .int p1), (3, .int p2)] [.int q7] (xσ μ R) n 0 0
          refine ev_iload_n 4 dX11_take_81 rfl rfl ?_
          refine ev_iadd dX11_take_82 ?_
          refine ev_bipush (v := 60) dX11_take_83 (by decide) ?_
          refine ev_icmp_le (tgt := 90) dX11_take_85 (by decide) (fun c85 => ?_) (fun c85 => ?_)
          · replace h := xif_t c85 h
            refine ev_aload_n 2 dX11_take_90 rfl rfl ?_
            refine xv_getF (a := iC_people) cl_11 lk_RX11_26 kd_0 (xl hF rfl) (fun _ => rfl) (fr_0_2 hF) dX11_take_91 ?_
            refine ev_iload 0 dX11_take_94 rfl ?_
            refine ev_iload_n 5 dX11_take_96 rfl rfl ?_
            obtain ⟨q8, hq8, h⟩ := xbd_some h
            refine ev_callV (ci := 5) (rest := []) 2 (kX5_takenIn (E := E) (d := 1) (QQ := (fun v τ n' => v = some (.int q8) ∧ τ = xσ μ R ∧ n = n')) (Nat.le_refl _) hF hq8 (⟨rfl, rfl, rfl⟩)) my_X5_takenIn ⟨m_847, m_848, m_849⟩ cl_5 kd_19 (xl hF rfl) rfl rfl (Nat.le_of_ble_eq_true rfl) (Nat.le_trans (by decide) hd) (xlo (by decide) (Nat.le_trans (by decide) hd)) (Nat.zero_le _) (Nat.zero_le _) dX11_take_97 (fun v τ n' hv => ?_)
            obtain ⟨rfl, rfl, rfl⟩ := hv
            show Ev E (xcm E d 0 0 QQ) Y_X11_take 100 [(5, .int q6), (4, .int q5), (0, .ref (E.2.2.2 + iC)), (1, .int p0), (2, .int p1), (3, .int p2)] [.int q8] (xσ μ R) n 0 0
            refine ev_iload_n 4 dX11_take_100 rfl rfl ?_
            refine ev_iadd dX11_take_101 ?_
            refine ev_bipush (v := 60) dX11_take_102 (by decide) ?_
            refine ev_icmp_le (tgt := 109) dX11_take_104 (by decide) (fun c104 => ?_) (fun c104 => ?_)
            · replace h := xif_t c104 h
              refine ev_aload_n 2 dX11_take_109 rfl rfl ?_
              refine xv_getF (a := iC_people) cl_11 lk_RX11_26 kd_0 (xl hF rfl) (fun _ => rfl) (fr_0_2 hF) dX11_take_110 ?_
              refine ev_iload 1 dX11_take_113 rfl ?_
              refine ev_iload 0 dX11_take_115 rfl ?_
              refine ev_iload_n 5 dX11_take_117 rfl rfl ?_
              refine ev_iload_n 4 dX11_take_118 rfl rfl ?_
              obtain ⟨q9, hq9, h⟩ := xbd_some h
              refine ev_callV (ci := 5) (rest := []) 4 (kX5_countTaking (E := E) (d := 1) (QQ := (fun v τ n' => v = none ∧ τ = xσ q9 R ∧ n = n')) (Nat.le_refl _) hF hq9 (⟨rfl, rfl, rfl⟩)) my_X5_countTaking ⟨m_851, m_852, m_853⟩ cl_5 kd_19 (xl hF rfl) rfl rfl (Nat.le_of_ble_eq_true rfl) (Nat.le_trans (by decide) hd) (xlo (by decide) (Nat.le_trans (by decide) hd)) (Nat.zero_le _) (Nat.zero_le _) dX11_take_119 (fun v τ n' hv => ?_)
              obtain ⟨rfl, rfl, rfl⟩ := hv
              show Ev E (xcm E d 0 0 QQ) Y_X11_take 122 [(5, .int q6), (4, .int q5), (0, .ref (E.2.2.2 + iC)), (1, .int p0), (2, .int p1), (3, .int p2)] [] (xσ q9 R) n 0 0
              refine ev_aload_n 2 dX11_take_122 rfl rfl ?_
              refine xv_getF (a := iC_notes) cl_11 lk_RX11_42 kd_0 (xl hF rfl) (fun _ => rfl) (fr_0_4 hF) dX11_take_123 ?_
              refine ev_iload_n 3 dX11_take_126 rfl rfl ?_
              refine ev_iload_n 4 dX11_take_127 rfl rfl ?_
              obtain ⟨q10, hq10, h⟩ := xbd_some h
              refine ev_callV (ci := 4) (rest := []) 2 (kX4_lessen (E := E) (d := 1) (QQ := (fun v τ n' => v = none ∧ τ = xσ q10 R ∧ n = n')) (Nat.le_refl _) hF hq10 (⟨rfl, rfl, rfl⟩)) my_X4_lessen ⟨m_858, m_859, m_860⟩ cl_4 kd_28 (xl hF rfl) rfl rfl (Nat.le_of_ble_eq_true rfl) (Nat.le_trans (by decide) hd) (xlo (by decide) (Nat.le_trans (by decide) hd)) (Nat.zero_le _) (Nat.zero_le _) dX11_take_128 (fun v τ n' hv => ?_)
              obtain ⟨rfl, rfl, rfl⟩ := hv
              show Ev E (xcm E d 0 0 QQ) Y_X11_take 131 [(5, .int q6), (4, .int q5), (0, .ref (E.2.2.2 + iC)), (1, .int p0), (2, .int p1), (3, .int p2)] [] (xσ q10 R) n 0 0
              refine ev_aload_n 2 dX11_take_131 rfl rfl ?_
              refine xv_getF (a := iC_notes) cl_11 lk_RX11_42 kd_0 (xl hF rfl) (fun _ => rfl) (fr_0_4 hF) dX11_take_132 ?_
              refine ev_iload_n 3 dX11_take_135 rfl rfl ?_
              obtain ⟨q11, hq11, h⟩ := xbd_some h
              refine ev_callV (ci := 4) (rest := []) 1 (kX4_minutesOf (E := E) (d := 1) (QQ := (fun v τ n' => v = some (.int q11) ∧ τ = xσ q10 R ∧ n = n')) (Nat.le_refl _) hF hq11 (⟨rfl, rfl, rfl⟩)) my_X4_minutesOf ⟨m_806, m_807, m_808⟩ cl_4 kd_28 (xl hF rfl) rfl rfl (Nat.le_of_ble_eq_true rfl) (Nat.le_trans (by decide) hd) (xlo (by decide) (Nat.le_trans (by decide) hd)) (Nat.zero_le _) (Nat.zero_le _) dX11_take_136 (fun v τ n' hv => ?_)
              obtain ⟨rfl, rfl, rfl⟩ := hv
              show Ev E (xcm E d 0 0 QQ) Y_X11_take 139 [(5, .int q6), (4, .int q5), (0, .ref (E.2.2.2 + iC)), (1, .int p0), (2, .int p1), (3, .int p2)] [.int q11] (xσ q10 R) n 0 0
              cases h
              exact ev_iret rfl (hQ) dX11_take_139 (Nat.zero_le _) (Nat.zero_le _)
            · replace h := xif_f c104 h
              refine ev_iconst (v := (-1)) dX11_take_107 (by decide) ?_
              cases h
              exact ev_iret rfl (hQ) dX11_take_108 (Nat.zero_le _) (Nat.zero_le _)
          · replace h := xif_f c85 h
            refine ev_iconst (v := (-1)) dX11_take_88 (by decide) ?_
            cases h
            exact ev_iret rfl (hQ) dX11_take_89 (Nat.zero_le _) (Nat.zero_le _)
        · replace h := xif_f c46 h
          refine ev_iconst (v := (-1)) dX11_take_49 (by decide) ?_
          cases h
          exact ev_iret rfl (hQ) dX11_take_50 (Nat.zero_le _) (Nat.zero_le _)
    · replace h := xif_t c22 h
      refine ev_iconst (v := (-1)) dX11_take_25 (by decide) ?_
      cases h
      exact ev_iret rfl (hQ) dX11_take_26 (Nat.zero_le _) (Nat.zero_le _)
def fX11_worth (p0 : Int32) (p1 : Int32) (p2 : Int32) (μ : xm) : Option (Int32 × xm) := xbd (fX11_isPerson p0) fun q1 => if q1 = 0 then (some (0, μ)) else (xbd (fX11_within p1 0 23) fun q2 => if q2 = 0 then (some (0, μ)) else (xbd (fX11_within p2 0 99) fun q3 => if q3 = 0 then (some (0, μ)) else (xbd (fX5_setWorth p0 p1 p2 μ) fun q4 => some (1, q4))))
set_option maxHeartbeats 4000000 in
set_option maxRecDepth 100000 in
theorem kX11_worth {E : xE} {d : Nat} {QQ : xP} (hd : 2 ≤ d) {p0 : Int32} {p1 : Int32} {p2 : Int32} {μ : xm} {R : xr} {n : Nat} (hF : xFin R n)  {res : Int32 × xm} (h : fX11_worth p0 p1 p2 μ = some res) (hQ : QQ (some (.int res.1)) (xσ res.2 R) n) : xCon E d Y_X11_worth 0 0 [.ref (E.2.2.2 + iC), .int p0, .int p1, .int p2] (xσ μ R) n QQ := by
  refine xCon_of pn_RX11 (Nat.le_of_ble_eq_true rfl) (L0 := [(0, .ref (E.2.2.2 + iC)), (1, .int p0), (2, .int p1), (3, .int p2)]) rfl ?_
  unfold fX11_worth at h
  refine ev_iload_n 1 dX11_worth_0 rfl rfl ?_
  obtain ⟨q1, hq1, h⟩ := xbd_some h
  refine ev_callS (As := [.int p0]) (rest := []) 1 (kX11_isPerson (E := E) (d := 0) (QQ := (fun v τ n' => v = some (.int q1) ∧ τ = xσ μ R ∧ n = n')) (Nat.le_refl _)  hq1 (⟨rfl, rfl, rfl⟩)) my_X11_isPerson ⟨m_435, m_436⟩ rfl rfl (Nat.le_of_ble_eq_true rfl) (Nat.le_trans (by decide) hd) (xlo (by decide) (Nat.le_trans (by decide) hd)) (Nat.zero_le _) (Nat.zero_le _) dX11_worth_1 (fun v τ n' hv => ?_)
  obtain ⟨rfl, rfl, rfl⟩ := hv
  show Ev E (xcm E d 0 0 QQ) Y_X11_worth 4 [(0, .ref (E.2.2.2 + iC)), (1, .int p0), (2, .int p1), (3, .int p2)] [.int q1] (xσ μ R) n 0 0
  refine ev_if_eq (tgt := 27) dX11_worth_4 (by decide) (fun c4 => ?_) (fun c4 => ?_)
  · replace h := xif_t c4 h
    refine ev_iconst (v := 0) dX11_worth_27 (by decide) ?_
    cases h
    exact ev_zret rfl (Or.inl rfl) (hQ) dX11_worth_28 (Nat.zero_le _) (Nat.zero_le _)
  · replace h := xif_f c4 h
    refine ev_iload_n 2 dX11_worth_7 rfl rfl ?_
    refine ev_iconst (v := 0) dX11_worth_8 (by decide) ?_
    refine ev_bipush (v := 23) dX11_worth_9 (by decide) ?_
    obtain ⟨q2, hq2, h⟩ := xbd_some h
    refine ev_callS (As := [.int p1, .int 0, .int 23]) (rest := []) 3 (kX11_within (E := E) (d := 0) (QQ := (fun v τ n' => v = some (.int q2) ∧ τ = xσ μ R ∧ n = n')) (Nat.le_refl _)  hq2 (⟨rfl, rfl, rfl⟩)) my_X11_within ⟨m_424, m_425⟩ rfl rfl (Nat.le_of_ble_eq_true rfl) (Nat.le_trans (by decide) hd) (xlo (by decide) (Nat.le_trans (by decide) hd)) (Nat.zero_le _) (Nat.zero_le _) dX11_worth_11 (fun v τ n' hv => ?_)
    obtain ⟨rfl, rfl, rfl⟩ := hv
    show Ev E (xcm E d 0 0 QQ) Y_X11_worth 14 [(0, .ref (E.2.2.2 + iC)), (1, .int p0), (2, .int p1), (3, .int p2)] [.int q2] (xσ μ R) n 0 0
    refine ev_if_eq (tgt := 27) dX11_worth_14 (by decide) (fun c14 => ?_) (fun c14 => ?_)
    · replace h := xif_t c14 h
      refine ev_iconst (v := 0) dX11_worth_27 (by decide) ?_
      cases h
      exact ev_zret rfl (Or.inl rfl) (hQ) dX11_worth_28 (Nat.zero_le _) (Nat.zero_le _)
    · replace h := xif_f c14 h
      refine ev_iload_n 3 dX11_worth_17 rfl rfl ?_
      refine ev_iconst (v := 0) dX11_worth_18 (by decide) ?_
      refine ev_bipush (v := 99) dX11_worth_19 (by decide) ?_
      obtain ⟨q3, hq3, h⟩ := xbd_some h
      refine ev_callS (As := [.int p2, .int 0, .int 99]) (rest := []) 3 (kX11_within (E := E) (d := 0) (QQ := (fun v τ n' => v = some (.int q3) ∧ τ = xσ μ R ∧ n = n')) (Nat.le_refl _)  hq3 (⟨rfl, rfl, rfl⟩)) my_X11_within ⟨m_424, m_425⟩ rfl rfl (Nat.le_of_ble_eq_true rfl) (Nat.le_trans (by decide) hd) (xlo (by decide) (Nat.le_trans (by decide) hd)) (Nat.zero_le _) (Nat.zero_le _) dX11_worth_21 (fun v τ n' hv => ?_)
      obtain ⟨rfl, rfl, rfl⟩ := hv
      show Ev E (xcm E d 0 0 QQ) Y_X11_worth 24 [(0, .ref (E.2.2.2 + iC)), (1, .int p0), (2, .int p1), (3, .int p2)] [.int q3] (xσ μ R) n 0 0
      refine ev_if_ne (tgt := 29) dX11_worth_24 (by decide) (fun c24 => ?_) (fun c24 => ?_)
      · replace h := xif_f c24 h
        refine ev_aload_n 0 dX11_worth_29 rfl rfl ?_
        refine xv_getF (a := iC_people) cl_11 lk_RX11_26 kd_0 (xl hF rfl) (fun _ => rfl) (fr_0_2 hF) dX11_worth_30 ?_
        refine ev_iload_n 1 dX11_worth_33 rfl rfl ?_
        refine ev_iload_n 2 dX11_worth_34 rfl rfl ?_
        refine ev_iload_n 3 dX11_worth_35 rfl rfl ?_
        obtain ⟨q4, hq4, h⟩ := xbd_some h
        refine ev_callV (ci := 5) (rest := []) 3 (kX5_setWorth (E := E) (d := 1) (QQ := (fun v τ n' => v = none ∧ τ = xσ q4 R ∧ n = n')) (Nat.le_refl _) hF hq4 (⟨rfl, rfl, rfl⟩)) my_X5_setWorth ⟨m_438, m_439, m_440⟩ cl_5 kd_19 (xl hF rfl) rfl rfl (Nat.le_of_ble_eq_true rfl) (Nat.le_trans (by decide) hd) (xlo (by decide) (Nat.le_trans (by decide) hd)) (Nat.zero_le _) (Nat.zero_le _) dX11_worth_36 (fun v τ n' hv => ?_)
        obtain ⟨rfl, rfl, rfl⟩ := hv
        show Ev E (xcm E d 0 0 QQ) Y_X11_worth 39 [(0, .ref (E.2.2.2 + iC)), (1, .int p0), (2, .int p1), (3, .int p2)] [] (xσ q4 R) n 0 0
        refine ev_iconst (v := 1) dX11_worth_39 (by decide) ?_
        cases h
        exact ev_zret rfl (Or.inr rfl) (hQ) dX11_worth_40 (Nat.zero_le _) (Nat.zero_le _)
      · replace h := xif_t c24 h
        refine ev_iconst (v := 0) dX11_worth_27 (by decide) ?_
        cases h
        exact ev_zret rfl (Or.inl rfl) (hQ) dX11_worth_28 (Nat.zero_le _) (Nat.zero_le _)
def fX2_lateness (o : Nat) (p0 : Int32) (μ : xm) : Option (Int32) := xbd (fX2_comingOf o p0 μ) fun q1 => some (xmax 0 (q1 - (μ.1 o 1)))
set_option maxHeartbeats 4000000 in
set_option maxRecDepth 100000 in
theorem kX2_lateness {E : xE} {d : Nat} {QQ : xP} (hd : 2 ≤ d) {o : Nat} {p0 : Int32} {μ : xm} {R : xr} {n : Nat} (hF : xFin R n) (hI : xIs 2 o n) {res : Int32} (h : fX2_lateness o p0 μ = some res) (hQ : QQ (some (.int res)) (xσ μ R) n) : xCon E d Y_X2_lateness 0 0 [.ref (E.2.2.2 + o), .int p0] (xσ μ R) n QQ := by
  refine xCon_of pn_RX2 (Nat.le_of_ble_eq_true rfl) (L0 := [(0, .ref (E.2.2.2 + o)), (1, .int p0)]) rfl ?_
  unfold fX2_lateness at h
  refine ev_iconst (v := 0) dX2_lateness_0 (by decide) ?_
  refine ev_aload_n 0 dX2_lateness_1 rfl rfl ?_
  refine ev_iload_n 1 dX2_lateness_2 rfl rfl ?_
  obtain ⟨q1, hq1, h⟩ := xbd_some h
  refine ev_callV (ci := 2) (rest := [.int 0]) 1 (kX2_comingOf (E := E) (d := 1) (QQ := (fun v τ n' => v = some (.int q1) ∧ τ = xσ μ R ∧ n = n')) (Nat.le_refl _) hF hI hq1 (⟨rfl, rfl, rfl⟩)) my_X2_comingOf ⟨m_639, m_632, m_633⟩ cl_2 (xIs2_kd hI) (xIs2_lt hI) rfl rfl (Nat.le_of_ble_eq_true rfl) (Nat.le_trans (by decide) hd) (xlo (by decide) (Nat.le_trans (by decide) hd)) (Nat.zero_le _) (Nat.zero_le _) dX2_lateness_3 (fun v τ n' hv => ?_)
  obtain ⟨rfl, rfl, rfl⟩ := hv
  show Ev E (xcm E d 0 0 QQ) Y_X2_lateness 6 [(0, .ref (E.2.2.2 + o)), (1, .int p0)] [.int q1, .int 0] (xσ μ R) n 0 0
  refine ev_aload_n 0 dX2_lateness_6 rfl rfl ?_
  refine xv_getI cl_2 lk_RX2_19 (xIs2_kd hI) (xIs2_lt hI) (fun _ => rfl) dX2_lateness_7 ?_
  refine ev_isub dX2_lateness_10 ?_
  refine ev_mmax ⟨m_626, m_534, m_124, m_535⟩ (Nat.le_trans (by decide) hd) (xlo2 (Nat.le_trans (by decide) hd)) (Nat.le_of_ble_eq_true rfl) (Nat.zero_le _) (Nat.zero_le _) dX2_lateness_11 ?_
  cases h
  exact ev_iret rfl (hQ) dX2_lateness_14 (Nat.zero_le _) (Nat.zero_le _)
