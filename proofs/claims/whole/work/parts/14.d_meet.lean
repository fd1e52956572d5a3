def xwl6_a : List Cond := [Cond.methodLink RX11 94 yX3_add, Cond.instanceMethod yX3_add, Cond.selects RX3 yX3_add yX3_add, Cond.instantiable RX2 5, Cond.methodLink RX3 35 yX2_init, Cond.instanceMethod yX2_init]
set_option maxRecDepth 100000 in
theorem xwi6_a : ∀ w ∈ xwl6_a, w ∈ xtb := xwi [455, 456, 457, 459, 460, 461] (by decide +kernel) (by decide +kernel)
theorem m_455 : Cond.methodLink RX11 94 yX3_add ∈ xtb := xwi6_a _ (List.mem_of_getElem? (i := 0) rfl)
theorem m_456 : Cond.instanceMethod yX3_add ∈ xtb := xwi6_a _ (List.mem_of_getElem? (i := 1) rfl)
theorem m_457 : Cond.selects RX3 yX3_add yX3_add ∈ xtb := xwi6_a _ (List.mem_of_getElem? (i := 2) rfl)
theorem m_459 : Cond.instantiable RX2 5 ∈ xtb := xwi6_a _ (List.mem_of_getElem? (i := 3) rfl)
theorem m_460 : Cond.methodLink RX3 35 yX2_init ∈ xtb := xwi6_a _ (List.mem_of_getElem? (i := 4) rfl)
theorem m_461 : Cond.instanceMethod yX2_init ∈ xtb := xwi6_a _ (List.mem_of_getElem? (i := 5) rfl)
/-! Meetings.add and LateMinutes.meeting -/
theorem xIs_mono {ci a n m : Nat} (h : xIs ci a n) (hm : n ≤ m) : xIs ci a m := by
  revert h
  unfold xIs
  split
  · exact fun h => ⟨h.1, Nat.le_trans h.2 hm⟩
  · exact fun h => ⟨h.1, Nat.le_trans h.2 hm⟩
  · exact fun ⟨k, h1, h2⟩ => ⟨k, h1, Nat.le_trans h2 hm⟩
  · exact fun h => h
theorem xfinl_lt : ∀ q ∈ xfinl, q.1 < 107 := by decide +kernel
theorem xdynl_lt : ∀ q ∈ xdynl, q.1 < 107 := by decide +kernel
theorem xfinl_24 : ∀ q ∈ xfinl, q.1 ≠ 24 := by decide +kernel
theorem xdynl_24 : ∀ q ∈ xdynl, q.1 ≠ 24 := by decide +kernel
theorem xFin_grow {R S : xr} {n : Nat} (hF : xFin R n) (hn : ∃ k, n = 107 + 2 * k) (hk : ∀ a, a < n → S a = R a) (hs : S n 3 = some (n + 1)) : xFin S (n + 2) := by
  obtain ⟨h1, h2, h3, h4, h5⟩ := hF
  refine ⟨by omega, fun q hq => ?_, fun k hk2 => ?_, fun q hq a ha => ?_, fun i a ha => ?_⟩
  · rw [hk _ (Nat.lt_of_lt_of_le (xfinl_lt q hq) h1)]; exact h2 q hq
  · obtain ⟨j, hj⟩ := hn
    by_cases e : 107 + 2 * k = n
    · rw [e]; exact hs
    · rw [hk _ (by omega)]; exact h3 k (by omega)
  · rw [hk _ (Nat.lt_of_lt_of_le (xdynl_lt q hq) h1)] at ha
    exact xIs_mono (h4 q hq a ha) (by omega)
  · rw [hk _ (by omega)] at ha
    exact xIs_mono (h5 i a ha) (by omega)
theorem xFin_list {R : xr} {n i x : Nat} (hF : xFin R n) (hx : xIs 2 x n) : xFin (xup R 24 i (some x)) n := by
  obtain ⟨h1, h2, h3, h4, h5⟩ := hF
  refine ⟨h1, fun q hq => ?_, fun k hk2 => ?_, fun q hq a ha => ?_, fun j a ha => ?_⟩
  · rw [xup_ne (xfinl_24 q hq)]; exact h2 q hq
  · rw [xup_ne (by omega)]; exact h3 k hk2
  · rw [xup_ne (xdynl_24 q hq)] at ha; exact h4 q hq a ha
  · by_cases e : j = i
    · subst e
      rw [show xup R 24 j (some x) 24 j = some x from xup_self] at ha
      cases ha; exact hx
    · rw [show xup R 24 i (some x) 24 j = R 24 j from xup_nek e] at ha
      exact h5 j a ha
theorem xkd_m0 {n : Nat} (h : ∃ k, n = 107 + 2 * k) : xkd n = (0, 2) := by
  obtain ⟨k, rfl⟩ := h
  unfold xkd
  rw [if_neg (by omega), if_pos (by omega)]
theorem xkd_m1 {n : Nat} (h : ∃ k, n = 107 + 2 * k) : xkd (n + 1) = (1, 8) := by
  obtain ⟨k, rfl⟩ := h
  unfold xkd
  rw [if_neg (by omega), if_neg (by omega)]
theorem com_X2_init {o : Nat} {p0 p1 p2 : Int32} {μ : xm} {R : xr} {res : xm × xr} (h : fX2_init o p0 p1 p2 μ R = some res) : res.2 o 3 = some (o + 1) := by
  unfold fX2_init at h
  obtain ⟨μ1, hμ1, h⟩ := xlt_some h
  obtain ⟨R2, hR2, h⟩ := xlt_some h
  obtain ⟨μ3, hμ3, h⟩ := xlt_some h
  obtain ⟨μ4, hμ4, h⟩ := xlt_some h
  obtain ⟨μ5, hμ5, h⟩ := xlt_some h
  obtain ⟨q6, hq6, h⟩ := xbd_some h
  cases h
  show R2 o 3 = some (o + 1)
  rw [← hR2]; exact xup_self
def fX3_add (p0 p1 p2 : Int32) (μ : xm) (R : xr) (n : Nat) : Option (Int32 × xm × xr × Nat) := if (μ.1 iC_meetings 5) < 0 then (some ((-1), μ, R, n)) else (if (μ.1 iC_meetings 5) < 24 then (xlt (xz0I (xz0J μ n) n) fun μ1 => xlt (xz0R R n) fun R1 => xbd (fX2_init n p0 p1 p2 μ1 R1) fun q2 => xbd (xsR q2.2 iC_meetings_list 24 (μ.1 iC_meetings 5) n) fun R3 => xlt (xpI q2.1 iC_meetings 5 ((q2.1.1 iC_meetings 5) + 1)) fun μ4 => some ((μ4.1 iC_meetings 5) - 1, μ4, R3, n + 2)) else (some ((-1), μ, R, n)))
set_option maxHeartbeats 4000000 in
set_option maxRecDepth 100000 in
theorem kX3_add {E : xE} {d : Nat} {QQ : xP} (hd : 2 ≤ d) {p0 p1 p2 : Int32} {μ : xm} {R : xr} {n : Nat} (hF : xFin R n) (hn : ∃ k, n = 107 + 2 * k) {res : Int32 × xm × xr × Nat} (h : fX3_add p0 p1 p2 μ R n = some res) (hQ : xFin res.2.2.1 res.2.2.2 → QQ (some (.int res.1)) (xσ res.2.1 res.2.2.1) res.2.2.2) : xCon E d Y_X3_add 2 13 [.ref (E.2.2.2 + iC_meetings), .int p0, .int p1, .int p2] (xσ μ R) n QQ := by
  refine xCon_of pn_RX3 (Nat.le_of_ble_eq_true rfl) (L0 := [(0, .ref (E.2.2.2 + iC_meetings)), (1, .int p0), (2, .int p1), (3, .int p2)]) rfl ?_
  unfold fX3_add at h
  refine ev_aload_n 0 dX3_add_0 rfl rfl ?_
  refine xv_getI cl_3 lk_RX3_31 kd_23 (xl hF rfl) (fun _ => rfl) dX3_add_1 ?_
  refine ev_if_lt (tgt := 19) dX3_add_4 (by decide) (fun c4 => ?_) (fun c4 => ?_)
  · replace h := xif_t c4 h
    refine ev_iconst (v := (-1)) dX3_add_19 (by decide) ?_
    cases h
    exact ev_iret rfl (hQ hF) dX3_add_20 (Nat.zero_le _) (Nat.zero_le _)
  · replace h := xif_f c4 h
    refine ev_aload_n 0 dX3_add_7 rfl rfl ?_
    refine xv_getI cl_3 lk_RX3_31 kd_23 (xl hF rfl) (fun _ => rfl) dX3_add_8 ?_
    refine ev_aload_n 0 dX3_add_11 rfl rfl ?_
    refine xv_getF (a := iC_meetings_list) cl_3 lk_RX3_11 kd_23 (xl hF rfl) (fun _ => rfl) (fr_23_1 hF) dX3_add_12 ?_
    refine ev_alen (v := 24) 4 (by decide) kd_24 (xl hF rfl) rfl dX3_add_15 ?_
    refine ev_icmp_lt (tgt := 21) dX3_add_16 (by decide) (fun c16 => ?_) (fun c16 => ?_)
    · replace h := xif_t c16 h
      refine ev_aload_n 0 dX3_add_21 rfl rfl ?_
      refine xv_getF (a := iC_meetings_list) cl_3 lk_RX3_11 kd_23 (xl hF rfl) (fun _ => rfl) (fr_23_1 hF) dX3_add_22 ?_
      refine ev_aload_n 0 dX3_add_25 rfl rfl ?_
      refine xv_getI cl_3 lk_RX3_31 kd_23 (xl hF rfl) (fun _ => rfl) dX3_add_26 ?_
      obtain ⟨μ1, hμ1, h⟩ := xlt_some h
      obtain ⟨R1, hR1, h⟩ := xlt_some h
      refine xv_new cl_2 (N := 5) rfl (xdf_ok xdf_2) m_230 m_459 m_123 (xkd_m0 hn) (Nat.le_of_ble_eq_true rfl) (Nat.le_of_ble_eq_true rfl) hμ1 hR1 dX3_add_29 ?_
      refine ev_dup dX3_add_32 rfl ?_
      refine ev_iload_n 1 dX3_add_33 rfl rfl ?_
      refine ev_iload_n 2 dX3_add_34 rfl rfl ?_
      refine ev_iload_n 3 dX3_add_35 rfl rfl ?_
      obtain ⟨q2, hq2, h⟩ := xbd_some h
      refine ev_callI (As := [.int p0, .int p1, .int p2]) (rest := [.ref (E.2.2.2 + n), .int (μ.1 iC_meetings 5), .ref (E.2.2.2 + iC_meetings_list)]) 3 rfl (kX2_init (E := E) (d := 1) (QQ := (fun v τ n' => v = none ∧ τ = xσ q2.1 q2.2 ∧ n' = n + 2)) (Nat.le_refl _) (xkd_m0 hn) (xkd_m1 hn) hq2 ⟨rfl, rfl, rfl⟩) my_X2_init ⟨m_460, rfl, m_461⟩ rfl rfl (Nat.le_of_ble_eq_true rfl) (Nat.le_trans (by decide) hd) (xlo (by decide) (Nat.le_trans (by decide) hd)) (Nat.le_of_ble_eq_true rfl) (Nat.le_of_ble_eq_true rfl) dX3_add_36 (fun v τ n' hv => ?_)
      obtain ⟨rfl, rfl, rfl⟩ := hv
      show Ev E (xcm E d 2 13 QQ) Y_X3_add 39 [(0, .ref (E.2.2.2 + iC_meetings)), (1, .int p0), (2, .int p1), (3, .int p2)] [.ref (E.2.2.2 + n), .int (μ.1 iC_meetings 5), .ref (E.2.2.2 + iC_meetings_list)] (xσ q2.1 q2.2) (n + 2) 2 13
      obtain ⟨R3, hR3, h⟩ := xbd_some h
      have hF1 : xFin q2.2 (n + 2) := xFin_grow hF hn (fun a ha => by rw [keep_X2_init hq2 a ha, ← hR1, xz0R_ne (Nat.ne_of_lt ha)]) (com_X2_init hq2)
      have hI : xIs 2 n (n + 2) := by obtain ⟨k, rfl⟩ := hn; exact ⟨k, rfl, Nat.le_refl _⟩
      refine xv_aast kd_24 (xl hF1 rfl) (xkd_m0 hn) (by omega) cl_2 hR3 dX3_add_39 ?_
      have hF3 : xFin R3 (n + 2) := by
        obtain ⟨-, rfl⟩ := xite_some hR3
        exact xFin_list hF1 hI
      refine ev_aload_n 0 dX3_add_40 rfl rfl ?_
      refine ev_dup dX3_add_41 rfl ?_
      refine xv_getI cl_3 lk_RX3_31 kd_23 (xl hF3 rfl) (fun _ => rfl) dX3_add_42 ?_
      refine ev_iconst (v := 1) dX3_add_45 (by decide) ?_
      refine ev_iadd dX3_add_46 ?_
      obtain ⟨μ4, hμ4, h⟩ := xlt_some h
      refine xv_putI cl_3 lk_RX3_31 rfl kd_23 (xl hF3 rfl) rfl rfl (fun _ => rfl) hμ4 dX3_add_47 ?_
      refine ev_aload_n 0 dX3_add_50 rfl rfl ?_
      refine xv_getI cl_3 lk_RX3_31 kd_23 (xl hF3 rfl) (fun _ => rfl) dX3_add_51 ?_
      refine ev_iconst (v := 1) dX3_add_54 (by decide) ?_
      refine ev_isub dX3_add_55 ?_
      cases h
      exact ev_iret rfl (hQ hF3) dX3_add_56 (Nat.le_of_ble_eq_true rfl) (Nat.le_of_ble_eq_true rfl)
    · replace h := xif_f c16 h
      refine ev_iconst (v := (-1)) dX3_add_19 (by decide) ?_
      cases h
      exact ev_iret rfl (hQ hF) dX3_add_20 (Nat.zero_le _) (Nat.zero_le _)
def fX11_meeting (p0 p1 p2 : Int32) (μ : xm) (R : xr) (n : Nat) : Option (Int32 × xm × xr × Nat) := xbd (fX11_within p0 0 99) fun q1 => if q1 = 0 then (some ((-1), μ, R, n)) else (xbd (fX11_within p1 0 1439) fun q2 => if q2 = 0 then (some ((-1), μ, R, n)) else (xbd (fX11_within p2 1 255) fun q3 => if q3 = 0 then (some ((-1), μ, R, n)) else (xbd (fJ6_bitCount_0f7a4 p2) fun q4 => if 2 ≤ q4 then (xbd (fX3_add p0 p1 p2 μ R n) fun q5 => some q5) else (some ((-1), μ, R, n)))))
set_option maxHeartbeats 4000000 in
set_option maxRecDepth 100000 in
theorem kX11_meeting {E : xE} {d : Nat} {QQ : xP} (hd : 3 ≤ d) {p0 p1 p2 : Int32} {μ : xm} {R : xr} {n : Nat} (hF : xFin R n) (hn : ∃ k, n = 107 + 2 * k) {res : Int32 × xm × xr × Nat} (h : fX11_meeting p0 p1 p2 μ R n = some res) (hQ : xFin res.2.2.1 res.2.2.2 → QQ (some (.int res.1)) (xσ res.2.1 res.2.2.1) res.2.2.2) : xCon E d Y_X11_meeting 2 13 [.ref (E.2.2.2 + iC), .int p0, .int p1, .int p2] (xσ μ R) n QQ := by
  refine xCon_of pn_RX11 (Nat.le_of_ble_eq_true rfl) (L0 := [(0, .ref (E.2.2.2 + iC)), (1, .int p0), (2, .int p1), (3, .int p2)]) rfl ?_
  unfold fX11_meeting at h
  refine ev_iload_n 1 dX11_meeting_0 rfl rfl ?_
  refine ev_iconst (v := 0) dX11_meeting_1 (by decide) ?_
  refine ev_bipush (v := 99) dX11_meeting_2 (by decide) ?_
  obtain ⟨q1, hq1, h⟩ := xbd_some h
  refine ev_callS (As := [.int p0, .int 0, .int 99]) (rest := []) 3 (kX11_within (E := E) (d := 0) (QQ := (fun v τ n' => v = some (.int q1) ∧ τ = xσ μ R ∧ n = n')) (Nat.le_refl _) hq1 ⟨rfl, rfl, rfl⟩) my_X11_within ⟨m_424, m_425⟩ rfl rfl (Nat.le_of_ble_eq_true rfl) (Nat.le_trans (by decide) hd) (xlo (by decide) (Nat.le_trans (by decide) hd)) (Nat.le_of_ble_eq_true rfl) (Nat.le_of_ble_eq_true rfl) dX11_meeting_4 (fun v τ n' hv => ?_)
  obtain ⟨rfl, rfl, rfl⟩ := hv
  show Ev E (xcm E d 2 13 QQ) Y_X11_meeting 7 [(0, .ref (E.2.2.2 + iC)), (1, .int p0), (2, .int p1), (3, .int p2)] [.int q1] (xσ μ R) n 0 0
  refine ev_if_eq (tgt := 21) dX11_meeting_7 (by decide) (fun c7 => ?_) (fun c7 => ?_)
  · replace h := xif_t c7 h
    refine ev_iconst (v := (-1)) dX11_meeting_21 (by decide) ?_
    cases h
    exact ev_iret rfl (hQ hF) dX11_meeting_22 (Nat.zero_le _) (Nat.zero_le _)
  · replace h := xif_f c7 h
    refine ev_iload_n 2 dX11_meeting_10 rfl rfl ?_
    refine ev_iconst (v := 0) dX11_meeting_11 (by decide) ?_
    refine ev_sipush (v := 1439) dX11_meeting_12 (by decide) ?_
    obtain ⟨q2, hq2, h⟩ := xbd_some h
    refine ev_callS (As := [.int p1, .int 0, .int 1439]) (rest := []) 3 (kX11_within (E := E) (d := 0) (QQ := (fun v τ n' => v = some (.int q2) ∧ τ = xσ μ R ∧ n = n')) (Nat.le_refl _) hq2 ⟨rfl, rfl, rfl⟩) my_X11_within ⟨m_424, m_425⟩ rfl rfl (Nat.le_of_ble_eq_true rfl) (Nat.le_trans (by decide) hd) (xlo (by decide) (Nat.le_trans (by decide) hd)) (Nat.le_of_ble_eq_true rfl) (Nat.le_of_ble_eq_true rfl) dX11_meeting_15 (fun v τ n' hv => ?_)
    obtain ⟨rfl, rfl, rfl⟩ := hv
    show Ev E (xcm E d 2 13 QQ) Y_X11_meeting 18 [(0, .ref (E.2.2.2 + iC)), (1, .int p0), (2, .int p1), (3, .int p2)] [.int q2] (xσ μ R) n 0 0
    refine ev_if_ne (tgt := 23) dX11_meeting_18 (by decide) (fun c18 => ?_) (fun c18 => ?_)
    · replace h := xif_f c18 h
      refine ev_iload_n 3 dX11_meeting_23 rfl rfl ?_
      refine ev_iconst (v := 1) dX11_meeting_24 (by decide) ?_
      refine ev_sipush (v := 255) dX11_meeting_25 (by decide) ?_
      obtain ⟨q3, hq3, h⟩ := xbd_some h
      refine ev_callS (As := [.int p2, .int 1, .int 255]) (rest := []) 3 (kX11_within (E := E) (d := 0) (QQ := (fun v τ n' => v = some (.int q3) ∧ τ = xσ μ R ∧ n = n')) (Nat.le_refl _) hq3 ⟨rfl, rfl, rfl⟩) my_X11_within ⟨m_424, m_425⟩ rfl rfl (Nat.le_of_ble_eq_true rfl) (Nat.le_trans (by decide) hd) (xlo (by decide) (Nat.le_trans (by decide) hd)) (Nat.le_of_ble_eq_true rfl) (Nat.le_of_ble_eq_true rfl) dX11_meeting_28 (fun v τ n' hv => ?_)
      obtain ⟨rfl, rfl, rfl⟩ := hv
      show Ev E (xcm E d 2 13 QQ) Y_X11_meeting 31 [(0, .ref (E.2.2.2 + iC)), (1, .int p0), (2, .int p1), (3, .int p2)] [.int q3] (xσ μ R) n 0 0
      refine ev_if_eq (tgt := 42) dX11_meeting_31 (by decide) (fun c31 => ?_) (fun c31 => ?_)
      · replace h := xif_t c31 h
        refine ev_iconst (v := (-1)) dX11_meeting_42 (by decide) ?_
        cases h
        exact ev_iret rfl (hQ hF) dX11_meeting_43 (Nat.zero_le _) (Nat.zero_le _)
      · replace h := xif_f c31 h
        refine ev_iload_n 3 dX11_meeting_34 rfl rfl ?_
        obtain ⟨q4, hq4, h⟩ := xbd_some h
        refine ev_callS (As := [.int p2]) (rest := []) 1 (kJ6_bitCount_0f7a4 (E := E) (d := 0) (QQ := (fun v τ n' => v = some (.int q4) ∧ τ = xσ μ R ∧ n = n')) (Nat.le_refl _) hq4 ⟨rfl, rfl, rfl⟩) my_J6_bitCount_0f7a4 ⟨m_449, m_450⟩ rfl rfl (Nat.le_of_ble_eq_true rfl) (Nat.le_trans (by decide) hd) (xlo (by decide) (Nat.le_trans (by decide) hd)) (Nat.le_of_ble_eq_true rfl) (Nat.le_of_ble_eq_true rfl) dX11_meeting_35 (fun v τ n' hv => ?_)
        obtain ⟨rfl, rfl, rfl⟩ := hv
        show Ev E (xcm E d 2 13 QQ) Y_X11_meeting 38 [(0, .ref (E.2.2.2 + iC)), (1, .int p0), (2, .int p1), (3, .int p2)] [.int q4] (xσ μ R) n 0 0
        refine ev_iconst (v := 2) dX11_meeting_38 (by decide) ?_
        refine ev_icmp_ge (tgt := 44) dX11_meeting_39 (by decide) (fun c39 => ?_) (fun c39 => ?_)
        · replace h := xif_t c39 h
          refine ev_aload_n 0 dX11_meeting_44 rfl rfl ?_
          refine xv_getF (a := iC_meetings) cl_11 lk_RX11_35 kd_0 (xl hF rfl) (fun _ => rfl) (fr_0_3 hF) dX11_meeting_45 ?_
          refine ev_iload_n 1 dX11_meeting_48 rfl rfl ?_
          refine ev_iload_n 2 dX11_meeting_49 rfl rfl ?_
          refine ev_iload_n 3 dX11_meeting_50 rfl rfl ?_
          obtain ⟨q5, hq5, h⟩ := xbd_some h
          refine ev_callV (ci := 3) (As := [.int p0, .int p1, .int p2]) (rest := []) 3 (kX3_add (E := E) (d := 2) (QQ := (fun v τ n' => v = some (.int q5.1) ∧ τ = xσ q5.2.1 q5.2.2.1 ∧ n' = q5.2.2.2 ∧ xFin q5.2.2.1 q5.2.2.2)) (Nat.le_refl _) hF hn hq5 (fun z => ⟨rfl, rfl, rfl, z⟩)) my_X3_add ⟨m_455, m_456, m_457⟩ cl_3 kd_23 (xl hF rfl) rfl rfl (Nat.le_of_ble_eq_true rfl) (Nat.le_trans (by decide) hd) (xlo (by decide) (Nat.le_trans (by decide) hd)) (Nat.le_of_ble_eq_true rfl) (Nat.le_of_ble_eq_true rfl) dX11_meeting_51 (fun v τ n' hv => ?_)
          obtain ⟨rfl, rfl, rfl, hF5⟩ := hv
          show Ev E (xcm E d 2 13 QQ) Y_X11_meeting 54 [(0, .ref (E.2.2.2 + iC)), (1, .int p0), (2, .int p1), (3, .int p2)] [.int q5.1] (xσ q5.2.1 q5.2.2.1) q5.2.2.2 2 13
          cases h
          exact ev_iret rfl (hQ hF5) dX11_meeting_54 (Nat.le_of_ble_eq_true rfl) (Nat.le_of_ble_eq_true rfl)
        · replace h := xif_f c39 h
          refine ev_iconst (v := (-1)) dX11_meeting_42 (by decide) ?_
          cases h
          exact ev_iret rfl (hQ hF) dX11_meeting_43 (Nat.zero_le _) (Nat.zero_le _)
    · replace h := xif_t c18 h
      refine ev_iconst (v := (-1)) dX11_meeting_21 (by decide) ?_
      cases h
      exact ev_iret rfl (hQ hF) dX11_meeting_22 (Nat.zero_le _) (Nat.zero_le _)
