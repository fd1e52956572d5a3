def fX2_laterThan_b11 (x2 : Int32) (x3 : Int32) (o : Nat) (μ : xm) (q1 : Int32) : Option ((Int32 × Int32) ⊕ (Int32)) := if 8 ≤ x3 then (some (.inr x2)) else (xbd (fX2_includes o x3 μ) fun q5 => if q5 = 0 then (xlt (x3 + 1) fun x6 => some (.inl (x2, x6))) else (xbd (xgI μ (o + 1) 8 x3) fun v7 => if v7 ≤ q1 then (xlt (x3 + 1) fun x8 => some (.inl (x2, x8))) else (xlt (x2 + 1) fun x9 => xlt (x3 + 1) fun x10 => some (.inl (x9, x10)))))
def fX2_laterThan (o : Nat) (p0 : Int32) (μ : xm) : Option (Int32) := xbd (fX2_comingOf o p0 μ) fun q1 => xbd (xloop xfu (fun v => fX2_laterThan_b11 v.1 v.2 o μ q1) (0, 0)) fun q11 => some q11
set_option maxHeartbeats 4000000 in
set_option maxRecDepth 100000 in
theorem kX2_laterThan {E : xE} {d : Nat} {QQ : xP} (hd : 2 ≤ d) {o : Nat} {p0 : Int32} {μ : xm} {R : xr} {n : Nat} (hF : xFin R n) (hI : xIs 2 o n) {res : Int32} (h : fX2_laterThan o p0 μ = some res) (hQ : QQ (some (.int res)) (xσ μ R) n) : xCon E d Y_X2_laterThan 0 0 [.ref (E.2.2.2 + o), .int p0] (xσ μ R) n QQ := by
  refine xCon_of pn_RX2 (Nat.le_of_ble_eq_true rfl) (L0 := [(0, .ref (E.2.2.2 + o)), (1, .int p0)]) rfl ?_
  unfold fX2_laterThan at h
  refine ev_aload_n 0 dX2_laterThan_0 rfl rfl ?_
  refine ev_iload_n 1 dX2_laterThan_1 rfl rfl ?_
  obtain ⟨q1, hq1, h⟩ := xbd_some h
  refine ev_callV (ci := 2) (rest := []) 1 (kX2_comingOf (E := E) (d := 1) (QQ := (fun v τ n' => v = some (.int q1) ∧ τ = xσ μ R ∧ n = n')) (Nat.le_refl _) hF hI hq1 (⟨rfl, rfl, rfl⟩)) my_X2_comingOf ⟨m_639, m_632, m_633⟩ cl_2 (xIs2_kd hI) (xIs2_lt hI) rfl rfl (Nat.le_of_ble_eq_true rfl) (Nat.le_trans (by decide) hd) (xlo (by decide) (Nat.le_trans (by decide) hd)) (Nat.zero_le _) (Nat.zero_le _) dX2_laterThan_2 (fun v τ n' hv => ?_)
  obtain ⟨rfl, rfl, rfl⟩ := hv
  show Ev E (xcm E d 0 0 QQ) Y_X2_laterThan 5 [(0, .ref (E.2.2.2 + o)), (1, .int p0)] [.int q1] (xσ μ R) n 0 0
  refine xv_istore_n (L' := [(2, .int q1), (0, .ref (E.2.2.2 + o)), (1, .int p0)]) rfl dX2_laterThan_5 rfl (Nat.le_of_ble_eq_true rfl) rfl ?_
  refine ev_iconst (v := 0) dX2_laterThan_6 (by decide) ?_
  refine xv_istore_n (L' := [(3, .int 0), (2, .int q1), (0, .ref (E.2.2.2 + o)), (1, .int p0)]) rfl dX2_laterThan_7 rfl (Nat.le_of_ble_eq_true rfl) rfl ?_
  refine ev_iconst (v := 0) dX2_laterThan_8 (by decide) ?_
  refine xv_istore (L' := [(4, .int 0), (3, .int 0), (2, .int q1), (0, .ref (E.2.2.2 + o)), (1, .int p0)]) rfl dX2_laterThan_9 (Nat.le_of_ble_eq_true rfl) rfl ?_
  obtain ⟨q11, hq11, h⟩ := xbd_some h
  refine ev_sub (L' := [(0, .ref (E.2.2.2 + o)), (2, .int q1), (3, .int 0), (4, .int 0)]) [3, 2, 1, 0] rfl ?_
  refine xloop_run (fun v => Ev E (xcm E d 0 0 QQ) Y_X2_laterThan 11 [(0, .ref (E.2.2.2 + o)), (2, .int q1), (3, .int v.1), (4, .int v.2)] [] (xσ μ R) n 0 0) (fun v => Ev E (xcm E d 0 0 QQ) Y_X2_laterThan 50 [(3, .int v)] [] (xσ μ R) n 0 0) ?_ _ _ _ hq11 ?_
  · rintro ⟨x2, x3⟩ y4 h hk
    replace h : fX2_laterThan_b11 x2 x3 o μ q1 = some y4 := h
    show Ev E (xcm E d 0 0 QQ) Y_X2_laterThan 11 [(0, .ref (E.2.2.2 + o)), (2, .int q1), (3, .int x2), (4, .int x3)] [] (xσ μ R) n 0 0
    unfold fX2_laterThan_b11 at h
    refine ev_iload 3 dX2_laterThan_11 rfl ?_
    refine ev_aload_n 0 dX2_laterThan_13 rfl rfl ?_
    refine xv_getF (a := (o + 1)) cl_2 lk_RX2_9 (xIs2_kd hI) (xIs2_lt hI) (fun _ => rfl) (xIs2_fr3 hF hI) dX2_laterThan_14 ?_
    refine ev_alen (v := 8) 0 (by decide) (xIs2_kd3 hI) (xIs2_lt3 hI) rfl dX2_laterThan_17 ?_
    refine ev_icmp_ge (tgt := 50) dX2_laterThan_18 (by decide) (fun c18 => ?_) (fun c18 => ?_)
    · replace h := xif_t c18 h
      cases h
      replace hk := xel_r hk
      exact ev_sub [2] rfl (hk)
    · replace h := xif_f c18 h
      refine ev_aload_n 0 dX2_laterThan_21 rfl rfl ?_
      refine ev_iload 3 dX2_laterThan_22 rfl ?_
      obtain ⟨q5, hq5, h⟩ := xbd_some h
      refine ev_callV (ci := 2) (rest := []) 1 (kX2_includes (E := E) (d := 0) (QQ := (fun v τ n' => v = some (.int q5) ∧ τ = xσ μ R ∧ n = n')) (Nat.le_refl _) hF hI hq5 (⟨rfl, rfl, rfl⟩)) my_X2_includes ⟨m_625, m_500, m_501⟩ cl_2 (xIs2_kd hI) (xIs2_lt hI) rfl rfl (Nat.le_of_ble_eq_true rfl) (Nat.le_trans (by decide) hd) (xlo (by decide) (Nat.le_trans (by decide) hd)) (Nat.zero_le _) (Nat.zero_le _) dX2_laterThan_24 (fun v τ n' hv => ?_)
      obtain ⟨rfl, rfl, rfl⟩ := hv
      show Ev E (xcm E d 0 0 QQ) Y_X2_laterThan 27 [(0, .ref (E.2.2.2 + o)), (2, .int q1), (3, .int x2), (4, .int x3)] [.int q5] (xσ μ R) n 0 0
      refine ev_if_eq (tgt := 44) dX2_laterThan_27 (by decide) (fun c27 => ?_) (fun c27 => ?_)
      · replace h := xif_t c27 h
        obtain ⟨x6, hx6, h⟩ := xlt_some h
        refine ev_iinc (L' := [(4, .int x6), (0, .ref (E.2.2.2 + o)), (2, .int q1), (3, .int x2)]) 3 dX2_laterThan_44 rfl ((by rfl : x3 + Int32.ofInt 1 = x3 + 1).trans hx6) (Nat.le_of_ble_eq_true rfl) rfl ?_
        refine ev_goto (tgt := 11) dX2_laterThan_47 (by decide) ?_
        cases h
        replace hk := xel_l hk
        exact ev_sub [1, 2, 3, 0] rfl (hk)
      · replace h := xif_f c27 h
        refine ev_aload_n 0 dX2_laterThan_30 rfl rfl ?_
        refine xv_getF (a := (o + 1)) cl_2 lk_RX2_9 (xIs2_kd hI) (xIs2_lt hI) (fun _ => rfl) (xIs2_fr3 hF hI) dX2_laterThan_31 ?_
        refine ev_iload 3 dX2_laterThan_34 rfl ?_
        obtain ⟨v7, hv7, h⟩ := xbd_some h
        refine xv_iald (xIs2_kd3 hI) (xIs2_lt3 hI) hv7 dX2_laterThan_36 ?_
        refine ev_iload_n 1 dX2_laterThan_37 rfl rfl ?_
        refine ev_icmp_le (tgt := 44) dX2_laterThan_38 (by decide) (fun c38 => ?_) (fun c38 => ?_)
        · replace h := xif_t c38 h
          obtain ⟨x8, hx8, h⟩ := xlt_some h
          refine ev_iinc (L' := [(4, .int x8), (0, .ref (E.2.2.2 + o)), (2, .int q1), (3, .int x2)]) 3 dX2_laterThan_44 rfl ((by rfl : x3 + Int32.ofInt 1 = x3 + 1).trans hx8) (Nat.le_of_ble_eq_true rfl) rfl ?_
          refine ev_goto (tgt := 11) dX2_laterThan_47 (by decide) ?_
          cases h
          replace hk := xel_l hk
          exact ev_sub [1, 2, 3, 0] rfl (hk)
        · replace h := xif_f c38 h
          obtain ⟨x9, hx9, h⟩ := xlt_some h
          refine ev_iinc (L' := [(3, .int x9), (0, .ref (E.2.2.2 + o)), (2, .int q1), (4, .int x3)]) 2 dX2_laterThan_41 rfl ((by rfl : x2 + Int32.ofInt 1 = x2 + 1).trans hx9) (Nat.le_of_ble_eq_true rfl) rfl ?_
          obtain ⟨x10, hx10, h⟩ := xlt_some h
          refine ev_iinc (L' := [(4, .int x10), (3, .int x9), (0, .ref (E.2.2.2 + o)), (2, .int q1)]) 3 dX2_laterThan_44 rfl ((by rfl : x3 + Int32.ofInt 1 = x3 + 1).trans hx10) (Nat.le_of_ble_eq_true rfl) rfl ?_
          refine ev_goto (tgt := 11) dX2_laterThan_47 (by decide) ?_
          cases h
          replace hk := xel_l hk
          exact ev_sub [2, 3, 1, 0] rfl (hk)
  · show Ev E (xcm E d 0 0 QQ) Y_X2_laterThan 50 [(3, .int q11)] [] (xσ μ R) n 0 0
    refine ev_iload_n 0 dX2_laterThan_50 rfl rfl ?_
    cases h
    exact ev_iret rfl (hQ) dX2_laterThan_51 (Nat.zero_le _) (Nat.zero_le _)
def fX2_waitFor (o : Nat) (p0 : Int32) (p1 : Int32) (μ : xm) : Option (Int32) := xbd (fX2_comingOf o p0 μ) fun q1 => xbd (fX2_comingOf o p1 μ) fun q2 => some (xmax 0 (q1 - (xmax q2 (μ.1 o 1))))
set_option maxHeartbeats 4000000 in
set_option maxRecDepth 100000 in
theorem kX2_waitFor {E : xE} {d : Nat} {QQ : xP} (hd : 2 ≤ d) {o : Nat} {p0 : Int32} {p1 : Int32} {μ : xm} {R : xr} {n : Nat} (hF : xFin R n) (hI : xIs 2 o n) {res : Int32} (h : fX2_waitFor o p0 p1 μ = some res) (hQ : QQ (some (.int res)) (xσ μ R) n) : xCon E d Y_X2_waitFor 0 0 [.ref (E.2.2.2 + o), .int p0, .int p1] (xσ μ R) n QQ := by
  refine xCon_of pn_RX2 (Nat.le_of_ble_eq_true rfl) (L0 := [(0, .ref (E.2.2.2 + o)), (1, .int p0), (2, .int p1)]) rfl ?_
  unfold fX2_waitFor at h
  refine ev_iconst (v := 0) dX2_waitFor_0 (by decide) ?_
  refine ev_aload_n 0 dX2_waitFor_1 rfl rfl ?_
  refine ev_iload_n 1 dX2_waitFor_2 rfl rfl ?_
  obtain ⟨q1, hq1, h⟩ := xbd_some h
  refine ev_callV (ci := 2) (rest := [.int 0]) 1 (kX2_comingOf (E := E) (d := 1) (QQ := (fun v τ n' => v = some (.int q1) ∧ τ = xσ μ R ∧ n = n')) (Nat.le_refl _) hF hI hq1 (⟨rfl, rfl, rfl⟩)) my_X2_comingOf ⟨m_639, m_632, m_633⟩ cl_2 (xIs2_kd hI) (xIs2_lt hI) rfl rfl (Nat.le_of_ble_eq_true rfl) (Nat.le_trans (by decide) hd) (xlo (by decide) (Nat.le_trans (by decide) hd)) (Nat.zero_le _) (Nat.zero_le _) dX2_waitFor_3 (fun v τ n' hv => ?_)
  obtain ⟨rfl, rfl, rfl⟩ := hv
  show Ev E (xcm E d 0 0 QQ) Y_X2_waitFor 6 [(0, .ref (E.2.2.2 + o)), (1, .int p0), (2, .int p1)] [.int q1, .int 0] (xσ μ R) n 0 0
  refine ev_aload_n 0 dX2_waitFor_6 rfl rfl ?_
  refine ev_iload_n 2 dX2_waitFor_7 rfl rfl ?_
  obtain ⟨q2, hq2, h⟩ := xbd_some h
  refine ev_callV (ci := 2) (rest := [.int q1, .int 0]) 1 (kX2_comingOf (E := E) (d := 1) (QQ := (fun v τ n' => v = some (.int q2) ∧ τ = xσ μ R ∧ n = n')) (Nat.le_refl _) hF hI hq2 (⟨rfl, rfl, rfl⟩)) my_X2_comingOf ⟨m_639, m_632, m_633⟩ cl_2 (xIs2_kd hI) (xIs2_lt hI) rfl rfl (Nat.le_of_ble_eq_true rfl) (Nat.le_trans (by decide) hd) (xlo (by decide) (Nat.le_trans (by decide) hd)) (Nat.zero_le _) (Nat.zero_le _) dX2_waitFor_8 (fun v τ n' hv => ?_)
  obtain ⟨rfl, rfl, rfl⟩ := hv
  show Ev E (xcm E d 0 0 QQ) Y_X2_waitFor 11 [(0, .ref (E.2.2.2 + o)), (1, .int p0), (2, .int p1)] [.int q2, .int q1, .int 0] (xσ μ R) n 0 0
  refine ev_aload_n 0 dX2_waitFor_11 rfl rfl ?_
  refine xv_getI cl_2 lk_RX2_19 (xIs2_kd hI) (xIs2_lt hI) (fun _ => rfl) dX2_waitFor_12 ?_
  refine ev_mmax ⟨m_626, m_534, m_124, m_535⟩ (Nat.le_trans (by decide) hd) (xlo2 (Nat.le_trans (by decide) hd)) (Nat.le_of_ble_eq_true rfl) (Nat.zero_le _) (Nat.zero_le _) dX2_waitFor_15 ?_
  refine ev_isub dX2_waitFor_18 ?_
  refine ev_mmax ⟨m_626, m_534, m_124, m_535⟩ (Nat.le_trans (by decide) hd) (xlo2 (Nat.le_trans (by decide) hd)) (Nat.le_of_ble_eq_true rfl) (Nat.zero_le _) (Nat.zero_le _) dX2_waitFor_19 ?_
  cases h
  exact ev_iret rfl (hQ) dX2_waitFor_22 (Nat.zero_le _) (Nat.zero_le _)
def fX2_waitedByAll_b9 (x2 : Int32) (x3 : Int32) (o : Nat) (μ : xm) (q1 : Int32) : Option ((Int32 × Int32) ⊕ (Int32)) := if 8 ≤ x3 then (some (.inr x2)) else (xbd (fX2_includes o x3 μ) fun q5 => if q5 = 0 then (xlt (x3 + 1) fun x6 => some (.inl (x2, x6))) else (xbd (xgI μ (o + 1) 8 x3) fun v7 => xlt (x2 + (q1 - (xmax (μ.1 o 1) v7))) fun x8 => xlt (x3 + 1) fun x9 => some (.inl (x8, x9))))
def fX2_waitedByAll (o : Nat) (μ : xm) : Option (Int32) := xbd (fX2_start o μ) fun q1 => xbd (xloop xfu (fun v => fX2_waitedByAll_b9 v.1 v.2 o μ q1) (0, 0)) fun q10 => some q10
set_option maxHeartbeats 4000000 in
set_option maxRecDepth 100000 in
theorem kX2_waitedByAll {E : xE} {d : Nat} {QQ : xP} (hd : 2 ≤ d) {o : Nat} {μ : xm} {R : xr} {n : Nat} (hF : xFin R n) (hI : xIs 2 o n) {res : Int32} (h : fX2_waitedByAll o μ = some res) (hQ : QQ (some (.int res)) (xσ μ R) n) : xCon E d Y_X2_waitedByAll 0 0 [.ref (E.2.2.2 + o)] (xσ μ R) n QQ := by
  refine xCon_of pn_RX2 (Nat.le_of_ble_eq_true rfl) (L0 := [(0, .ref (E.2.2.2 + o))]) rfl ?_
  unfold fX2_waitedByAll at h
  refine ev_aload_n 0 dX2_waitedByAll_0 rfl rfl ?_
  obtain ⟨q1, hq1, h⟩ := xbd_some h
  refine ev_callV (ci := 2) (rest := []) 0 (kX2_start (E := E) (d := 1) (QQ := (fun v τ n' => v = some (.int q1) ∧ τ = xσ μ R ∧ n = n')) (Nat.le_refl _) hF hI hq1 (⟨rfl, rfl, rfl⟩)) my_X2_start ⟨m_1173, m_622, m_623⟩ cl_2 (xIs2_kd hI) (xIs2_lt hI) rfl rfl (Nat.le_of_ble_eq_true rfl) (Nat.le_trans (by decide) hd) (xlo (by decide) (Nat.le_trans (by decide) hd)) (Nat.zero_le _) (Nat.zero_le _) dX2_waitedByAll_1 (fun v τ n' hv => ?_)
  obtain ⟨rfl, rfl, rfl⟩ := hv
  show Ev E (xcm E d 0 0 QQ) Y_X2_waitedByAll 4 [(0, .ref (E.2.2.2 + o))] [.int q1] (xσ μ R) n 0 0
  refine xv_istore_n (L' := [(1, .int q1), (0, .ref (E.2.2.2 + o))]) rfl dX2_waitedByAll_4 rfl (Nat.le_of_ble_eq_true rfl) rfl ?_
  refine ev_iconst (v := 0) dX2_waitedByAll_5 (by decide) ?_
  refine xv_istore_n (L' := [(2, .int 0), (1, .int q1), (0, .ref (E.2.2.2 + o))]) rfl dX2_waitedByAll_6 rfl (Nat.le_of_ble_eq_true rfl) rfl ?_
  refine ev_iconst (v := 0) dX2_waitedByAll_7 (by decide) ?_
  refine xv_istore_n (L' := [(3, .int 0), (2, .int 0), (1, .int q1), (0, .ref (E.2.2.2 + o))]) rfl dX2_waitedByAll_8 rfl (Nat.le_of_ble_eq_true rfl) rfl ?_
  obtain ⟨q10, hq10, h⟩ := xbd_some h
  refine ev_sub (L' := [(0, .ref (E.2.2.2 + o)), (1, .int q1), (2, .int 0), (3, .int 0)]) [3, 2, 1, 0] rfl ?_
  refine xloop_run (fun v => Ev E (xcm E d 0 0 QQ) Y_X2_waitedByAll 9 [(0, .ref (E.2.2.2 + o)), (1, .int q1), (2, .int v.1), (3, .int v.2)] [] (xσ μ R) n 0 0) (fun v => Ev E (xcm E d 0 0 QQ) Y_X2_waitedByAll 50 [(2, .int v)] [] (xσ μ R) n 0 0) ?_ _ _ _ hq10 ?_
  · rintro ⟨x2, x3⟩ y4 h hk
    replace h : fX2_waitedByAll_b9 x2 x3 o μ q1 = some y4 := h
    show Ev E (xcm E d 0 0 QQ) Y_X2_waitedByAll 9 [(0, .ref (E.2.2.2 + o)), (1, .int q1), (2, .int x2), (3, .int x3)] [] (xσ μ R) n 0 0
    unfold fX2_waitedByAll_b9 at h
    refine ev_iload_n 3 dX2_waitedByAll_9 rfl rfl ?_
    refine ev_aload_n 0 dX2_waitedByAll_10 rfl rfl ?_
    refine xv_getF (a := (o + 1)) cl_2 lk_RX2_9 (xIs2_kd hI) (xIs2_lt hI) (fun _ => rfl) (xIs2_fr3 hF hI) dX2_waitedByAll_11 ?_
    refine ev_alen (v := 8) 0 (by decide) (xIs2_kd3 hI) (xIs2_lt3 hI) rfl dX2_waitedByAll_14 ?_
    refine ev_icmp_ge (tgt := 50) dX2_waitedByAll_15 (by decide) (fun c15 => ?_) (fun c15 => ?_)
    · replace h := xif_t c15 h
      cases h
      replace hk := xel_r hk
      exact ev_sub [2] rfl (hk)
    · replace h := xif_f c15 h
      refine ev_aload_n 0 dX2_waitedByAll_18 rfl rfl ?_
      refine ev_iload_n 3 dX2_waitedByAll_19 rfl rfl ?_
      obtain ⟨q5, hq5, h⟩ := xbd_some h
      refine ev_callV (ci := 2) (rest := []) 1 (kX2_includes (E := E) (d := 0) (QQ := (fun v τ n' => v = some (.int q5) ∧ τ = xσ μ R ∧ n = n')) (Nat.le_refl _) hF hI hq5 (⟨rfl, rfl, rfl⟩)) my_X2_includes ⟨m_625, m_500, m_501⟩ cl_2 (xIs2_kd hI) (xIs2_lt hI) rfl rfl (Nat.le_of_ble_eq_true rfl) (Nat.le_trans (by decide) hd) (xlo (by decide) (Nat.le_trans (by decide) hd)) (Nat.zero_le _) (Nat.zero_le _) dX2_waitedByAll_20 (fun v τ n' hv => ?_)
      obtain ⟨rfl, rfl, rfl⟩ := hv
      show Ev E (xcm E d 0 0 QQ) Y_X2_waitedByAll 23 [(0, .ref (E.2.2.2 + o)), (1, .int q1), (2, .int x2), (3, .int x3)] [.int q5] (xσ μ R) n 0 0
      refine ev_if_eq (tgt := 44) dX2_waitedByAll_23 (by decide) (fun c23 => ?_) (fun c23 => ?_)
      · replace h := xif_t c23 h
        obtain ⟨x6, hx6, h⟩ := xlt_some h
        refine ev_iinc (L' := [(3, .int x6), (0, .ref (E.2.2.2 + o)), (1, .int q1), (2, .int x2)]) 3 dX2_waitedByAll_44 rfl ((by rfl : x3 + Int32.ofInt 1 = x3 + 1).trans hx6) (Nat.le_of_ble_eq_true rfl) rfl ?_
        refine ev_goto (tgt := 9) dX2_waitedByAll_47 (by decide) ?_
        cases h
        replace hk := xel_l hk
        exact ev_sub [1, 2, 3, 0] rfl (hk)
      · replace h := xif_f c23 h
        refine ev_iload_n 2 dX2_waitedByAll_26 rfl rfl ?_
        refine ev_iload_n 1 dX2_waitedByAll_27 rfl rfl ?_
        refine ev_aload_n 0 dX2_waitedByAll_28 rfl rfl ?_
        refine xv_getI cl_2 lk_RX2_19 (xIs2_kd hI) (xIs2_lt hI) (fun _ => rfl) dX2_waitedByAll_29 ?_
        refine ev_aload_n 0 dX2_waitedByAll_32 rfl rfl ?_
        refine xv_getF (a := (o + 1)) cl_2 lk_RX2_9 (xIs2_kd hI) (xIs2_lt hI) (fun _ => rfl) (xIs2_fr3 hF hI) dX2_waitedByAll_33 ?_
        refine ev_iload_n 3 dX2_waitedByAll_36 rfl rfl ?_
        obtain ⟨v7, hv7, h⟩ := xbd_some h
        refine xv_iald (xIs2_kd3 hI) (xIs2_lt3 hI) hv7 dX2_waitedByAll_37 ?_
        refine ev_mmax ⟨m_626, m_534, m_124, m_535⟩ (Nat.le_trans (by decide) hd) (xlo2 (Nat.le_trans (by decide) hd)) (Nat.le_of_ble_eq_true rfl) (Nat.zero_le _) (Nat.zero_le _) dX2_waitedByAll_38 ?_
        refine ev_isub dX2_waitedByAll_41 ?_
        refine ev_iadd dX2_waitedByAll_42 ?_
        obtain ⟨x8, hx8, h⟩ := xlt_some h
        refine xv_istore_n (L' := [(2, .int x8), (0, .ref (E.2.2.2 + o)), (1, .int q1), (3, .int x3)]) hx8 dX2_waitedByAll_43 rfl (Nat.le_of_ble_eq_true rfl) rfl ?_
        obtain ⟨x9, hx9, h⟩ := xlt_some h
        refine ev_iinc (L' := [(3, .int x9), (2, .int x8), (0, .ref (E.2.2.2 + o)), (1, .int q1)]) 3 dX2_waitedByAll_44 rfl ((by rfl : x3 + Int32.ofInt 1 = x3 + 1).trans hx9) (Nat.le_of_ble_eq_true rfl) rfl ?_
        refine ev_goto (tgt := 9) dX2_waitedByAll_47 (by decide) ?_
        cases h
        replace hk := xel_l hk
        exact ev_sub [2, 3, 1, 0] rfl (hk)
  · show Ev E (xcm E d 0 0 QQ) Y_X2_waitedByAll 50 [(2, .int q10)] [] (xσ μ R) n 0 0
    refine ev_iload_n 0 dX2_waitedByAll_50 rfl rfl ?_
    cases h
    exact ev_iret rfl (hQ) dX2_waitedByAll_51 (Nat.zero_le _) (Nat.zero_le _)
def fX3_didKeep (p0 : Nat) (p1 : Nat) (p2 : Int32) (μ : xm) : Option (Int32) := if (μ.1 p0 0) = (μ.1 p1 0) then (if (μ.1 p1 1) ≤ (μ.1 p0 1) then (some 0) else (xbd (fX2_includes p0 p2 μ) fun q1 => if q1 = 0 then (some 0) else (xbd (fX2_start p0 μ) fun q2 => xlt (q2 - (μ.1 p0 1)) fun x3 => if q2 = (-1) then (some 0) else (if x3 ≤ 0 then (some 0) else (xbd (fX2_keeper p0 μ) fun q4 => if q4 = p2 then (some 0) else (xbd (fX2_comingOf p1 p2 μ) fun q5 => if (μ.1 p1 1) < (q5 - x3) then (some 0) else (some 1))))))) else (some 0)
set_option maxHeartbeats 4000000 in
set_option maxRecDepth 100000 in
theorem kX3_didKeep {E : xE} {d : Nat} {QQ : xP} (hd : 2 ≤ d) {p0 : Nat} {p1 : Nat} {p2 : Int32} {μ : xm} {R : xr} {n : Nat} (hF : xFin R n) (hp0 : xIs 2 p0 n) (hp1 : xIs 2 p1 n) {res : Int32} (h : fX3_didKeep p0 p1 p2 μ = some res) (hQ : QQ (some (.int res)) (xσ μ R) n) : xCon E d Y_X3_didKeep 0 0 [.ref (E.2.2.2 + p0), .ref (E.2.2.2 + p1), .int p2] (xσ μ R) n QQ := by
  refine xCon_of pn_RX3 (Nat.le_of_ble_eq_true rfl) (L0 := [(0, .ref (E.2.2.2 + p0)), (1, .ref (E.2.2.2 + p1)), (2, .int p2)]) rfl ?_
  unfold fX3_didKeep at h
  refine ev_aload_n 0 dX3_didKeep_0 rfl rfl ?_
  refine xv_getIN cl_2 ln_RX3_64 (xIs2_kd hp0) (xIs2_lt hp0) (fun _ => rfl) dX3_didKeep_1 ?_
  refine ev_aload_n 1 dX3_didKeep_4 rfl rfl ?_
  refine xv_getIN cl_2 ln_RX3_64 (xIs2_kd hp1) (xIs2_lt hp1) (fun _ => rfl) dX3_didKeep_5 ?_
  refine ev_icmp_ne (tgt := 30) dX3_didKeep_8 (by decide) (fun c8 => ?_) (fun c8 => ?_)
  · replace h := xif_f c8 h
    refine ev_iconst (v := 0) dX3_didKeep_30 (by decide) ?_
    cases h
    exact ev_zret rfl (Or.inl rfl) (hQ) dX3_didKeep_31 (Nat.zero_le _) (Nat.zero_le _)
  · replace h := xif_t c8 h
    refine ev_aload_n 0 dX3_didKeep_11 rfl rfl ?_
    refine xv_getIN cl_2 ln_RX3_57 (xIs2_kd hp0) (xIs2_lt hp0) (fun _ => rfl) dX3_didKeep_12 ?_
    refine ev_aload_n 1 dX3_didKeep_15 rfl rfl ?_
    refine xv_getIN cl_2 ln_RX3_57 (xIs2_kd hp1) (xIs2_lt hp1) (fun _ => rfl) dX3_didKeep_16 ?_
    refine ev_icmp_ge (tgt := 30) dX3_didKeep_19 (by decide) (fun c19 => ?_) (fun c19 => ?_)
    · replace h := xif_t c19 h
      refine ev_iconst (v := 0) dX3_didKeep_30 (by decide) ?_
      cases h
      exact ev_zret rfl (Or.inl rfl) (hQ) dX3_didKeep_31 (Nat.zero_le _) (Nat.zero_le _)
    · replace h := xif_f c19 h
      refine ev_aload_n 0 dX3_didKeep_22 rfl rfl ?_
      refine ev_iload_n 2 dX3_didKeep_23 rfl rfl ?_
      obtain ⟨q1, hq1, h⟩ := xbd_some h
      refine ev_callV (ci := 2) (rest := []) 1 (kX2_includes (E := E) (d := 0) (QQ := (fun v τ n' => v = some (.int q1) ∧ τ = xσ μ R ∧ n = n')) (Nat.le_refl _) hF hp0 hq1 (⟨rfl, rfl, rfl⟩)) my_X2_includes ⟨m_656, m_500, m_501⟩ cl_2 (xIs2_kd hp0) (xIs2_lt hp0) rfl rfl (Nat.le_of_ble_eq_true rfl) (Nat.le_trans (by decide) hd) (xlo (by decide) (Nat.le_trans (by decide) hd)) (Nat.zero_le _) (Nat.zero_le _) dX3_didKeep_24 (fun v τ n' hv => ?_)
      obtain ⟨rfl, rfl, rfl⟩ := hv
      show Ev E (xcm E d 0 0 QQ) Y_X3_didKeep 27 [(0, .ref (E.2.2.2 + p0)), (1, .ref (E.2.2.2 + p1)), (2, .int p2)] [.int q1] (xσ μ R) n 0 0
      refine ev_if_ne (tgt := 32) dX3_didKeep_27 (by decide) (fun c27 => ?_) (fun c27 => ?_)
      · replace h := xif_f c27 h
        refine ev_aload_n 0 dX3_didKeep_32 rfl rfl ?_
        obtain ⟨q2, hq2, h⟩ := xbd_some h
        refine ev_callV (ci := 2) (rest := []) 0 (kX2_start (E := E) (d := 1) (QQ := (fun v τ n' => v = some (.int q2) ∧ τ = xσ μ R ∧ n = n')) (Nat.le_refl _) hF hp0 hq2 (⟨rfl, rfl, rfl⟩)) my_X2_start ⟨m_657, m_622, m_623⟩ cl_2 (xIs2_kd hp0) (xIs2_lt hp0) rfl rfl (Nat.le_of_ble_eq_true rfl) (Nat.le_trans (by decide) hd) (xlo (by decide) (Nat.le_trans (by decide) hd)) (Nat.zero_le _) (Nat.zero_le _) dX3_didKeep_33 (fun v τ n' hv => ?_)
        obtain ⟨rfl, rfl, rfl⟩ := hv
        show Ev E (xcm E d 0 0 QQ) Y_X3_didKeep 36 [(0, .ref (E.2.2.2 + p0)), (1, .ref (E.2.2.2 + p1)), (2, .int p2)] [.int q2] (xσ μ R) n 0 0
        refine xv_istore_n (L' := [(3, .int q2), (0, .ref (E.2.2.2 + p0)), (1, .ref (E.2.2.2 + p1)), (2, .int p2)]) rfl dX3_didKeep_36 rfl (Nat.le_of_ble_eq_true rfl) rfl ?_
        refine ev_iload_n 0 dX3_didKeep_37 rfl rfl ?_
        refine ev_aload_n 1 dX3_didKeep_38 rfl rfl ?_
        refine xv_getIN cl_2 ln_RX3_57 (xIs2_kd hp0) (xIs2_lt hp0) (fun _ => rfl) dX3_didKeep_39 ?_
        refine ev_isub dX3_didKeep_42 ?_
        obtain ⟨x3, hx3, h⟩ := xlt_some h
        refine xv_istore (L' := [(4, .int x3), (3, .int q2), (0, .ref (E.2.2.2 + p0)), (1, .ref (E.2.2.2 + p1)), (2, .int p2)]) hx3 dX3_didKeep_43 (Nat.le_of_ble_eq_true rfl) rfl ?_
        refine ev_iload_n 1 dX3_didKeep_45 rfl rfl ?_
        refine ev_iconst (v := (-1)) dX3_didKeep_46 (by decide) ?_
        refine ev_icmp_eq (tgt := 63) dX3_didKeep_47 (by decide) (fun c47 => ?_) (fun c47 => ?_)
        · replace h := xif_t c47 h
          refine ev_iconst (v := 0) dX3_didKeep_63 (by decide) ?_
          cases h
          exact ev_zret rfl (Or.inl rfl) (hQ) dX3_didKeep_64 (Nat.zero_le _) (Nat.zero_le _)
        · replace h := xif_f c47 h
          refine ev_iload 0 dX3_didKeep_50 rfl ?_
          refine ev_if_le (tgt := 63) dX3_didKeep_52 (by decide) (fun c52 => ?_) (fun c52 => ?_)
          · replace h := xif_t c52 h
            refine ev_iconst (v := 0) dX3_didKeep_63 (by decide) ?_
            cases h
            exact ev_zret rfl (Or.inl rfl) (hQ) dX3_didKeep_64 (Nat.zero_le _) (Nat.zero_le _)
          · replace h := xif_f c52 h
            refine ev_aload_n 2 dX3_didKeep_55 rfl rfl ?_
            obtain ⟨q4, hq4, h⟩ := xbd_some h
            refine ev_callV (ci := 2) (rest := []) 0 (kX2_keeper (E := E) (d := 1) (QQ := (fun v τ n' => v = some (.int q4) ∧ τ = xσ μ R ∧ n = n')) (Nat.le_refl _) hF hp0 hq4 (⟨rfl, rfl, rfl⟩)) my_X2_keeper ⟨m_658, m_659, m_660⟩ cl_2 (xIs2_kd hp0) (xIs2_lt hp0) rfl rfl (Nat.le_of_ble_eq_true rfl) (Nat.le_trans (by decide) hd) (xlo (by decide) (Nat.le_trans (by decide) hd)) (Nat.zero_le _) (Nat.zero_le _) dX3_didKeep_56 (fun v τ n' hv => ?_)
            obtain ⟨rfl, rfl, rfl⟩ := hv
            show Ev E (xcm E d 0 0 QQ) Y_X3_didKeep 59 [(4, .int x3), (3, .int q2), (0, .ref (E.2.2.2 + p0)), (1, .ref (E.2.2.2 + p1)), (2, .int p2)] [.int q4] (xσ μ R) n 0 0
            refine ev_iload_n 4 dX3_didKeep_59 rfl rfl ?_
            refine ev_icmp_ne (tgt := 65) dX3_didKeep_60 (by decide) (fun c60 => ?_) (fun c60 => ?_)
            · replace h := xif_f c60 h
              refine ev_aload_n 3 dX3_didKeep_65 rfl rfl ?_
              refine ev_iload_n 4 dX3_didKeep_66 rfl rfl ?_
              obtain ⟨q5, hq5, h⟩ := xbd_some h
              refine ev_callV (ci := 2) (rest := []) 1 (kX2_comingOf (E := E) (d := 1) (QQ := (fun v τ n' => v = some (.int q5) ∧ τ = xσ μ R ∧ n = n')) (Nat.le_refl _) hF hp1 hq5 (⟨rfl, rfl, rfl⟩)) my_X2_comingOf ⟨m_662, m_632, m_633⟩ cl_2 (xIs2_kd hp1) (xIs2_lt hp1) rfl rfl (Nat.le_of_ble_eq_true rfl) (Nat.le_trans (by decide) hd) (xlo (by decide) (Nat.le_trans (by decide) hd)) (Nat.zero_le _) (Nat.zero_le _) dX3_didKeep_67 (fun v τ n' hv => ?_)
              obtain ⟨rfl, rfl, rfl⟩ := hv
              show Ev E (xcm E d 0 0 QQ) Y_X3_didKeep 70 [(4, .int x3), (3, .int q2), (0, .ref (E.2.2.2 + p0)), (1, .ref (E.2.2.2 + p1)), (2, .int p2)] [.int q5] (xσ μ R) n 0 0
              refine ev_iload 0 dX3_didKeep_70 rfl ?_
              refine ev_isub dX3_didKeep_72 ?_
              refine ev_aload_n 3 dX3_didKeep_73 rfl rfl ?_
              refine xv_getIN cl_2 ln_RX3_57 (xIs2_kd hp1) (xIs2_lt hp1) (fun _ => rfl) dX3_didKeep_74 ?_
              refine ev_icmp_gt (tgt := 84) dX3_didKeep_77 (by decide) (fun c77 => ?_) (fun c77 => ?_)
              · replace h := xif_t c77 h
                refine ev_iconst (v := 0) dX3_didKeep_84 (by decide) ?_
                cases h
                exact ev_zret rfl (Or.inl rfl) (hQ) dX3_didKeep_85 (Nat.zero_le _) (Nat.zero_le _)
              · replace h := xif_f c77 h
                refine ev_iconst (v := 1) dX3_didKeep_80 (by decide) ?_
                refine ev_goto (tgt := 85) dX3_didKeep_81 (by decide) ?_
                cases h
                exact ev_zret rfl (Or.inr rfl) (hQ) dX3_didKeep_85 (Nat.zero_le _) (Nat.zero_le _)
            · replace h := xif_t c60 h
              refine ev_iconst (v := 0) dX3_didKeep_63 (by decide) ?_
              cases h
              exact ev_zret rfl (Or.inl rfl) (hQ) dX3_didKeep_64 (Nat.zero_le _) (Nat.zero_le _)
      · replace h := xif_t c27 h
        refine ev_iconst (v := 0) dX3_didKeep_30 (by decide) ?_
        cases h
        exact ev_zret rfl (Or.inl rfl) (hQ) dX3_didKeep_31 (Nat.zero_le _) (Nat.zero_le _)
def fX3_keeperAt (p0 : Int32) (μ : xm) (R : xr) : Option (Int32) := xbd (fX3_find p0 μ R) fun q1 => xop q1 (some (-1)) (fun a2 => xbd (fX2_keeper a2 μ) fun q3 => some q3)
set_option maxHeartbeats 4000000 in
set_option maxRecDepth 100000 in
theorem kX3_keeperAt {E : xE} {d : Nat} {QQ : xP} (hd : 2 ≤ d) {p0 : Int32} {μ : xm} {R : xr} {n : Nat} (hF : xFin R n)  {res : Int32} (h : fX3_keeperAt p0 μ R = some res) (hQ : QQ (some (.int res)) (xσ μ R) n) : xCon E d Y_X3_keeperAt 0 0 [.ref (E.2.2.2 + iC_meetings), .int p0] (xσ μ R) n QQ := by
  refine xCon_of pn_RX3 (Nat.le_of_ble_eq_true rfl) (L0 := [(0, .ref (E.2.2.2 + iC_meetings)), (1, .int p0)]) rfl ?_
  unfold fX3_keeperAt at h
  refine ev_aload_n 0 dX3_keeperAt_0 rfl rfl ?_
  refine ev_iload_n 1 dX3_keeperAt_1 rfl rfl ?_
  obtain ⟨q1, hq1, h⟩ := xbd_some h
  refine ev_callV (ci := 3) (rest := []) 1 (kX3_find (E := E) (d := 0) (QQ := (fun v τ n' => v = some (xrf E.2.2.2 q1) ∧ τ = xσ μ R ∧ n = n' ∧ (∀ a, q1 = some a → xIs 2 a n))) (Nat.le_refl _) hF hq1 (fun z0 => ⟨rfl, rfl, rfl, z0⟩)) my_X3_find ⟨m_648, m_492, m_493⟩ cl_3 kd_23 (xl hF rfl) rfl rfl (Nat.le_of_ble_eq_true rfl) (Nat.le_trans (by decide) hd) (xlo (by decide) (Nat.le_trans (by decide) hd)) (Nat.zero_le _) (Nat.zero_le _) dX3_keeperAt_2 (fun v τ n' hv => ?_)
  obtain ⟨rfl, rfl, rfl, hvq1⟩ := hv
  show Ev E (xcm E d 0 0 QQ) Y_X3_keeperAt 5 [(0, .ref (E.2.2.2 + iC_meetings)), (1, .int p0)] [xrf E.2.2.2 q1] (xσ μ R) n 0 0
  refine xv_astore_n (r := q1) (L' := [(2, xrf E.2.2.2 q1), (0, .ref (E.2.2.2 + iC_meetings)), (1, .int p0)]) dX3_keeperAt_5 rfl (Nat.le_of_ble_eq_true rfl) rfl ?_
  refine xv_aload_n (r := q1) 0 dX3_keeperAt_6 rfl rfl ?_
  refine ev_ifnonnull (r := q1) (tgt := 14) dX3_keeperAt_7 (by decide) (fun a2 hr => ?_) (fun hr => ?_)
  · subst hr
    replace h := xop_s h
    have ha2 := hvq1 a2 rfl
    refine ev_aload_n 0 dX3_keeperAt_14 rfl rfl ?_
    obtain ⟨q3, hq3, h⟩ := xbd_some h
    refine ev_callV (ci := 2) (rest := []) 0 (kX2_keeper (E := E) (d := 1) (QQ := (fun v τ n' => v = some (.int q3) ∧ τ = xσ μ R ∧ n = n')) (Nat.le_refl _) hF ha2 hq3 (⟨rfl, rfl, rfl⟩)) my_X2_keeper ⟨m_658, m_659, m_660⟩ cl_2 (xIs2_kd ha2) (xIs2_lt ha2) rfl rfl (Nat.le_of_ble_eq_true rfl) (Nat.le_trans (by decide) hd) (xlo (by decide) (Nat.le_trans (by decide) hd)) (Nat.zero_le _) (Nat.zero_le _) dX3_keeperAt_15 (fun v τ n' hv => ?_)
    obtain ⟨rfl, rfl, rfl⟩ := hv
    show Ev E (xcm E d 0 0 QQ) Y_X3_keeperAt 18 [(2, .ref (E.2.2.2 + a2)), (0, .ref (E.2.2.2 + iC_meetings)), (1, .int p0)] [.int q3] (xσ μ R) n 0 0
    cases h
    exact ev_iret rfl (hQ) dX3_keeperAt_18 (Nat.zero_le _) (Nat.zero_le _)
  · subst hr
    replace h := xop_n h
    refine ev_iconst (v := (-1)) dX3_keeperAt_10 (by decide) ?_
    refine ev_goto (tgt := 18) dX3_keeperAt_11 (by decide) ?_
    cases h
    exact ev_iret rfl (hQ) dX3_keeperAt_18 (Nat.zero_le _) (Nat.zero_le _)
def fX4_dropFrom (p0 : Int32) (μ : xm) : Option (xm) := xbd (fX11_held p0 0 60) fun q1 => xlt (xpI μ iC_notes 6 q1) fun μ2 => some μ2
set_option maxHeartbeats 4000000 in
set_option maxRecDepth 100000 in
theorem kX4_dropFrom {E : xE} {d : Nat} {QQ : xP} (hd : 2 ≤ d) {p0 : Int32} {μ : xm} {R : xr} {n : Nat} (hF : xFin R n)  {res : xm} (h : fX4_dropFrom p0 μ = some res) (hQ : QQ none (xσ res R) n) : xCon E d Y_X4_dropFrom 0 0 [.ref (E.2.2.2 + iC_notes), .int p0] (xσ μ R) n QQ := by
  refine xCon_of pn_RX4 (Nat.le_of_ble_eq_true rfl) (L0 := [(0, .ref (E.2.2.2 + iC_notes)), (1, .int p0)]) rfl ?_
  unfold fX4_dropFrom at h
  refine ev_aload_n 0 dX4_dropFrom_0 rfl rfl ?_
  refine ev_iload_n 1 dX4_dropFrom_1 rfl rfl ?_
  refine ev_iconst (v := 0) dX4_dropFrom_2 (by decide) ?_
  refine ev_bipush (v := 60) dX4_dropFrom_3 (by decide) ?_
  obtain ⟨q1, hq1, h⟩ := xbd_some h
  refine ev_callSN (As := [.int p0, .int 0, .int 60]) (rest := [.ref (E.2.2.2 + iC_notes)]) 3 (kX11_held (E := E) (d := 1) (QQ := (fun v τ n' => v = some (.int q1) ∧ τ = xσ μ R ∧ n = n')) (Nat.le_refl _)  hq1 (⟨rfl, rfl, rfl⟩)) my_X11_held ⟨⟨_, xnm_8⟩, m_528⟩ rfl rfl (Nat.le_of_ble_eq_true rfl) (Nat.le_trans (by decide) hd) (xlo (by decide) (Nat.le_trans (by decide) hd)) (Nat.zero_le _) (Nat.zero_le _) dX4_dropFrom_5 (fun v τ n' hv => ?_)
  obtain ⟨rfl, rfl, rfl⟩ := hv
  show Ev E (xcm E d 0 0 QQ) Y_X4_dropFrom 8 [(0, .ref (E.2.2.2 + iC_notes)), (1, .int p0)] [.int q1, .ref (E.2.2.2 + iC_notes)] (xσ μ R) n 0 0
  obtain ⟨μ2, hμ2, h⟩ := xlt_some h
  refine xv_putI cl_4 lk_RX4_30 rfl kd_28 (xl hF rfl) rfl rfl (fun _ => rfl) hμ2 dX4_dropFrom_8 ?_
  cases h
  exact ev_vret rfl (hQ) dX4_dropFrom_11 (Nat.zero_le _) (Nat.zero_le _)
def fX4_firstWrong_b6 (x1 : Int32) (x2 : Int32) (p1 : Int32) (p2 : Int32) (μ : xm) : Option ((Int32 × Int32) ⊕ ((Int32) ⊕ (Int32))) := if (μ.1 iC_notes 6) ≤ x2 then (some (.inr (.inl x1))) else (if 60 ≤ x2 then (some (.inr (.inl x1))) else (xbd (fX4_isLive x2 p2 μ) fun q4 => if q4 = 0 then (xlt (x2 + 1) fun x14 => some (.inl (x1, x14))) else (if (p1 * 4) ≤ x1 then (some (.inr (.inr x1))) else (xbd (fX9_wordAt x1 μ) fun q5 => if q5 = x2 then (xbd (fX9_wordAt (x1 + 1) μ) fun q6 => xbd (xgI μ iC_notes_owers 60 x2) fun v7 => if q6 = v7 then (xbd (fX9_wordAt (x1 + 2) μ) fun q8 => xbd (xgI μ iC_notes_holders 60 x2) fun v9 => if q8 = v9 then (xbd (fX9_wordAt (x1 + 3) μ) fun q10 => xbd (xgI μ iC_notes_minutes 60 x2) fun v11 => if q10 = v11 then (xlt (x1 + 4) fun x12 => xlt (x2 + 1) fun x13 => some (.inl (x12, x13))) else (some (.inr (.inr (x1 + 3))))) else (some (.inr (.inr (x1 + 2))))) else (some (.inr (.inr (x1 + 1))))) else (some (.inr (.inr x1)))))))
def fX4_firstWrong (p1 : Int32) (p2 : Int32) (μ : xm) : Option (Int32) := xbd (xloop xfu (fun v => fX4_firstWrong_b6 v.1 v.2 p1 p2 μ) (0, 0)) fun q15 => xsm q15 (fun q16 => if (p1 * 4) ≤ q16 then (some (-1)) else (some q16)) (fun q17 => some q17)
set_option maxHeartbeats 4000000 in
set_option maxRecDepth 100000 in
theorem kX4_firstWrong {E : xE} {d : Nat} {QQ : xP} (hd : 2 ≤ d) {p1 : Int32} {p2 : Int32} {μ : xm} {R : xr} {n : Nat} (hF : xFin R n)  {res : Int32} (h : fX4_firstWrong p1 p2 μ = some res) (hQ : QQ (some (.int res)) (xσ μ R) n) : xCon E d Y_X4_firstWrong 0 0 [.ref (E.2.2.2 + iC_notes), .ref (E.2.2.2 + iC_tape), .int p1, .int p2] (xσ μ R) n QQ := by
  refine xCon_of pn_RX4 (Nat.le_of_ble_eq_true rfl) (L0 := [(0, .ref (E.2.2.2 + iC_notes)), (1, .ref (E.2.2.2 + iC_tape)), (2, .int p1), (3, .int p2)]) rfl ?_
  unfold fX4_firstWrong at h
  refine ev_iconst (v := 0) dX4_firstWrong_0 (by decide) ?_
  refine xv_istore (L' := [(4, .int 0), (0, .ref (E.2.2.2 + iC_notes)), (1, .ref (E.2.2.2 + iC_tape)), (2, .int p1), (3, .int p2)]) rfl dX4_firstWrong_1 (Nat.le_of_ble_eq_true rfl) rfl ?_
  refine ev_iconst (v := 0) dX4_firstWrong_3 (by decide) ?_
  refine xv_istore (L' := [(5, .int 0), (4, .int 0), (0, .ref (E.2.2.2 + iC_notes)), (1, .ref (E.2.2.2 + iC_tape)), (2, .int p1), (3, .int p2)]) rfl dX4_firstWrong_4 (Nat.le_of_ble_eq_true rfl) rfl ?_
  obtain ⟨q15, hq15, h⟩ := xbd_some h
  refine ev_sub (L' := [(0, .ref (E.2.2.2 + iC_notes)), (1, .ref (E.2.2.2 + iC_tape)), (2, .int p1), (3, .int p2), (4, .int 0), (5, .int 0)]) [2, 3, 4, 5, 1, 0] rfl ?_
  refine xloop_run (fun v => Ev E (xcm E d 0 0 QQ) Y_X4_firstWrong 6 [(0, .ref (E.2.2.2 + iC_notes)), (1, .ref (E.2.2.2 + iC_tape)), (2, .int p1), (3, .int p2), (4, .int v.1), (5, .int v.2)] [] (xσ μ R) n 0 0) (xel (fun v => Ev E (xcm E d 0 0 QQ) Y_X4_firstWrong 135 [(2, .int p1), (4, .int v)] [] (xσ μ R) n 0 0) (fun v => QQ (some (.int v)) (xσ μ R) n)) ?_ _ _ _ hq15 ?_
  · rintro ⟨x1, x2⟩ y3 h hk
    replace h : fX4_firstWrong_b6 x1 x2 p1 p2 μ = some y3 := h
    show Ev E (xcm E d 0 0 QQ) Y_X4_firstWrong 6 [(0, .ref (E.2.2.2 + iC_notes)), (1, .ref (E.2.2.2 + iC_tape)), (2, .int p1), (3, .int p2), (4, .int x1), (5, .int x2)] [] (xσ μ R) n 0 0
    unfold fX4_firstWrong_b6 at h
    refine ev_iload 5 dX4_firstWrong_6 rfl ?_
    refine ev_aload_n 0 dX4_firstWrong_8 rfl rfl ?_
    refine xv_getI cl_4 lk_RX4_30 kd_28 (xl hF rfl) (fun _ => rfl) dX4_firstWrong_9 ?_
    refine ev_icmp_ge (tgt := 135) dX4_firstWrong_12 (by decide) (fun c12 => ?_) (fun c12 => ?_)
    · replace h := xif_t c12 h
      cases h
      replace hk := xel_r hk
      replace hk := xel_l hk
      exact ev_sub [2, 4] rfl (hk)
    · replace h := xif_f c12 h
      refine ev_iload 5 dX4_firstWrong_15 rfl ?_
      refine ev_bipush (v := 60) dX4_firstWrong_17 (by decide) ?_
      refine ev_icmp_ge (tgt := 135) dX4_firstWrong_19 (by decide) (fun c19 => ?_) (fun c19 => ?_)
      · replace h := xif_t c19 h
        cases h
        replace hk := xel_r hk
        replace hk := xel_l hk
        exact ev_sub [2, 4] rfl (hk)
      · replace h := xif_f c19 h
        refine ev_aload_n 0 dX4_firstWrong_22 rfl rfl ?_
        refine ev_iload 5 dX4_firstWrong_23 rfl ?_
        refine ev_iload_n 3 dX4_firstWrong_25 rfl rfl ?_
        obtain ⟨q4, hq4, h⟩ := xbd_some h
        refine ev_callV (ci := 4) (rest := []) 2 (kX4_isLive (E := E) (d := 1) (QQ := (fun v τ n' => v = some (.int q4) ∧ τ = xσ μ R ∧ n = n')) (Nat.le_refl _) hF hq4 (⟨rfl, rfl, rfl⟩)) my_X4_isLive ⟨m_870, m_819, m_820⟩ cl_4 kd_28 (xl hF rfl) rfl rfl (Nat.le_of_ble_eq_true rfl) (Nat.le_trans (by decide) hd) (xlo (by decide) (Nat.le_trans (by decide) hd)) (Nat.zero_le _) (Nat.zero_le _) dX4_firstWrong_26 (fun v τ n' hv => ?_)
        obtain ⟨rfl, rfl, rfl⟩ := hv
        show Ev E (xcm E d 0 0 QQ) Y_X4_firstWrong 29 [(0, .ref (E.2.2.2 + iC_notes)), (1, .ref (E.2.2.2 + iC_tape)), (2, .int p1), (3, .int p2), (4, .int x1), (5, .int x2)] [.int q4] (xσ μ R) n 0 0
        refine ev_if_ne (tgt := 35) dX4_firstWrong_29 (by decide) (fun c29 => ?_) (fun c29 => ?_)
        · replace h := xif_f c29 h
          refine ev_iload 4 dX4_firstWrong_35 rfl ?_
          refine ev_iload_n 2 dX4_firstWrong_37 rfl rfl ?_
          refine ev_iconst (v := 4) dX4_firstWrong_38 (by decide) ?_
          refine ev_imul dX4_firstWrong_39 ?_
          refine ev_icmp_ge (tgt := 54) dX4_firstWrong_40 (by decide) (fun c40 => ?_) (fun c40 => ?_)
          · replace h := xif_t c40 h
            refine ev_iload 4 dX4_firstWrong_54 rfl ?_
            cases h
            replace hk := xel_r hk
            replace hk := xel_r hk
            exact ev_iret rfl (hk) dX4_firstWrong_56 (Nat.zero_le _) (Nat.zero_le _)
          · replace h := xif_f c40 h
            refine ev_aload_n 1 dX4_firstWrong_43 rfl rfl ?_
            refine ev_iload 4 dX4_firstWrong_44 rfl ?_
            obtain ⟨q5, hq5, h⟩ := xbd_some h
            refine ev_callV (ci := 9) (rest := []) 1 (kX9_wordAt (E := E) (d := 1) (QQ := (fun v τ n' => v = some (.int q5) ∧ τ = xσ μ R ∧ n = n')) (Nat.le_refl _) hF hq5 (⟨rfl, rfl, rfl⟩)) my_X9_wordAt ⟨m_1211, m_1212, m_1213⟩ cl_9 kd_1 (xl hF rfl) rfl rfl (Nat.le_of_ble_eq_true rfl) (Nat.le_trans (by decide) hd) (xlo (by decide) (Nat.le_trans (by decide) hd)) (Nat.zero_le _) (Nat.zero_le _) dX4_firstWrong_46 (fun v τ n' hv => ?_)
            obtain ⟨rfl, rfl, rfl⟩ := hv
            show Ev E (xcm E d 0 0 QQ) Y_X4_firstWrong 49 [(0, .ref (E.2.2.2 + iC_notes)), (1, .ref (E.2.2.2 + iC_tape)), (2, .int p1), (3, .int p2), (4, .int x1), (5, .int x2)] [.int q5] (xσ μ R) n 0 0
            refine ev_iload 5 dX4_firstWrong_49 rfl ?_
            refine ev_icmp_eq (tgt := 57) dX4_firstWrong_51 (by decide) (fun c51 => ?_) (fun c51 => ?_)
            · replace h := xif_t c51 h
              refine ev_aload_n 1 dX4_firstWrong_57 rfl rfl ?_
              refine ev_iload 4 dX4_firstWrong_58 rfl ?_
              refine ev_iconst (v := 1) dX4_firstWrong_60 (by decide) ?_
              refine ev_iadd dX4_firstWrong_61 ?_
              obtain ⟨q6, hq6, h⟩ := xbd_some h
              refine ev_callV (ci := 9) (rest := []) 1 (kX9_wordAt (E := E) (d := 1) (QQ := (fun v τ n' => v = some (.int q6) ∧ τ = xσ μ R ∧ n = n')) (Nat.le_refl _) hF hq6 (⟨rfl, rfl, rfl⟩)) my_X9_wordAt ⟨m_1211, m_1212, m_1213⟩ cl_9 kd_1 (xl hF rfl) rfl rfl (Nat.le_of_ble_eq_true rfl) (Nat.le_trans (by decide) hd) (xlo (by decide) (Nat.le_trans (by decide) hd)) (Nat.zero_le _) (Nat.zero_le _) dX4_firstWrong_62 (fun v τ n' hv => ?_)
              obtain ⟨rfl, rfl, rfl⟩ := hv
              show Ev E (xcm E d 0 0 QQ) Y_X4_firstWrong 65 [(0, .ref (E.2.2.2 + iC_notes)), (1, .ref (E.2.2.2 + iC_tape)), (2, .int p1), (3, .int p2), (4, .int x1), (5, .int x2)] [.int q6] (xσ μ R) n 0 0
              refine ev_aload_n 0 dX4_firstWrong_65 rfl rfl ?_
              refine xv_getF (a := iC_notes_owers) cl_4 lk_RX4_9 kd_28 (xl hF rfl) (fun _ => rfl) (fr_28_0 hF) dX4_firstWrong_66 ?_
              refine ev_iload 5 dX4_firstWrong_69 rfl ?_
              obtain ⟨v7, hv7, h⟩ := xbd_some h
              refine xv_iald kd_29 (xl hF rfl) hv7 dX4_firstWrong_71 ?_
              refine ev_icmp_eq (tgt := 80) dX4_firstWrong_72 (by decide) (fun c72 => ?_) (fun c72 => ?_)
              · replace h := xif_t c72 h
                refine ev_aload_n 1 dX4_firstWrong_80 rfl rfl ?_
                refine ev_iload 4 dX4_firstWrong_81 rfl ?_
                refine ev_iconst (v := 2) dX4_firstWrong_83 (by decide) ?_
                refine ev_iadd dX4_firstWrong_84 ?_
                obtain ⟨q8, hq8, h⟩ := xbd_some h
                refine ev_callV (ci := 9) (rest := []) 1 (kX9_wordAt (E := E) (d := 1) (QQ := (fun v τ n' => v = some (.int q8) ∧ τ = xσ μ R ∧ n = n')) (Nat.le_refl _) hF hq8 (⟨rfl, rfl, rfl⟩)) my_X9_wordAt ⟨m_1211, m_1212, m_1213⟩ cl_9 kd_1 (xl hF rfl) rfl rfl (Nat.le_of_ble_eq_true rfl) (Nat.le_trans (by decide) hd) (xlo (by decide) (Nat.le_trans (by decide) hd)) (Nat.zero_le _) (Nat.zero_le _) dX4_firstWrong_85 (fun v τ n' hv => ?_)
                obtain ⟨rfl, rfl, rfl⟩ := hv
                show Ev E (xcm E d 0 0 QQ) Y_X4_firstWrong 88 [(0, .ref (E.2.2.2 + iC_notes)), (1, .ref (E.2.2.2 + iC_tape)), (2, .int p1), (3, .int p2), (4, .int x1), (5, .int x2)] [.int q8] (xσ μ R) n 0 0
                refine ev_aload_n 0 dX4_firstWrong_88 rfl rfl ?_
                refine xv_getF (a := iC_notes_holders) cl_4 lk_RX4_15 kd_28 (xl hF rfl) (fun _ => rfl) (fr_28_1 hF) dX4_firstWrong_89 ?_
                refine ev_iload 5 dX4_firstWrong_92 rfl ?_
                obtain ⟨v9, hv9, h⟩ := xbd_some h
                refine xv_iald kd_30 (xl hF rfl) hv9 dX4_firstWrong_94 ?_
                refine ev_icmp_eq (tgt := 103) dX4_firstWrong_95 (by decide) (fun c95 => ?_) (fun c95 => ?_)
                · replace h := xif_t c95 h
                  refine ev_aload_n 1 dX4_firstWrong_103 rfl rfl ?_
                  refine ev_iload 4 dX4_firstWrong_104 rfl ?_
                  refine ev_iconst (v := 3) dX4_firstWrong_106 (by decide) ?_
                  refine ev_iadd dX4_firstWrong_107 ?_
                  obtain ⟨q10, hq10, h⟩ := xbd_some h
                  refine ev_callV (ci := 9) (rest := []) 1 (kX9_wordAt (E := E) (d := 1) (QQ := (fun v τ n' => v = some (.int q10) ∧ τ = xσ μ R ∧ n = n')) (Nat.le_refl _) hF hq10 (⟨rfl, rfl, rfl⟩)) my_X9_wordAt ⟨m_1211, m_1212, m_1213⟩ cl_9 kd_1 (xl hF rfl) rfl rfl (Nat.le_of_ble_eq_true rfl) (Nat.le_trans (by decide) hd) (xlo (by decide) (Nat.le_trans (by decide) hd)) (Nat.zero_le _) (Nat.zero_le _) dX4_firstWrong_108 (fun v τ n' hv => ?_)
                  obtain ⟨rfl, rfl, rfl⟩ := hv
                  show Ev E (xcm E d 0 0 QQ) Y_X4_firstWrong 111 [(0, .ref (E.2.2.2 + iC_notes)), (1, .ref (E.2.2.2 + iC_tape)), (2, .int p1), (3, .int p2), (4, .int x1), (5, .int x2)] [.int q10] (xσ μ R) n 0 0
                  refine ev_aload_n 0 dX4_firstWrong_111 rfl rfl ?_
                  refine xv_getF (a := iC_notes_minutes) cl_4 lk_RX4_18 kd_28 (xl hF rfl) (fun _ => rfl) (fr_28_2 hF) dX4_firstWrong_112 ?_
                  refine ev_iload 5 dX4_firstWrong_115 rfl ?_
                  obtain ⟨v11, hv11, h⟩ := xbd_some h
                  refine xv_iald kd_31 (xl hF rfl) hv11 dX4_firstWrong_117 ?_
                  refine ev_icmp_eq (tgt := 126) dX4_firstWrong_118 (by decide) (fun c118 => ?_) (fun c118 => ?_)
                  · replace h := xif_t c118 h
                    obtain ⟨x12, hx12, h⟩ := xlt_some h
                    refine ev_iinc (L' := [(4, .int x12), (0, .ref (E.2.2.2 + iC_notes)), (1, .ref (E.2.2.2 + iC_tape)), (2, .int p1), (3, .int p2), (5, .int x2)]) 4 dX4_firstWrong_126 rfl ((by rfl : x1 + Int32.ofInt 4 = x1 + 4).trans hx12) (Nat.le_of_ble_eq_true rfl) rfl ?_
                    obtain ⟨x13, hx13, h⟩ := xlt_some h
                    refine ev_iinc (L' := [(5, .int x13), (4, .int x12), (0, .ref (E.2.2.2 + iC_notes)), (1, .ref (E.2.2.2 + iC_tape)), (2, .int p1), (3, .int p2)]) 5 dX4_firstWrong_129 rfl ((by rfl : x2 + Int32.ofInt 1 = x2 + 1).trans hx13) (Nat.le_of_ble_eq_true rfl) rfl ?_
                    refine ev_goto (tgt := 6) dX4_firstWrong_132 (by decide) ?_
                    cases h
                    replace hk := xel_l hk
                    exact ev_sub [2, 3, 4, 5, 1, 0] rfl (hk)
                  · replace h := xif_f c118 h
                    refine ev_iload 4 dX4_firstWrong_121 rfl ?_
                    refine ev_iconst (v := 3) dX4_firstWrong_123 (by decide) ?_
                    refine ev_iadd dX4_firstWrong_124 ?_
                    cases h
                    replace hk := xel_r hk
                    replace hk := xel_r hk
                    exact ev_iret rfl (hk) dX4_firstWrong_125 (Nat.zero_le _) (Nat.zero_le _)
                · replace h := xif_f c95 h
                  refine ev_iload 4 dX4_firstWrong_98 rfl ?_
                  refine ev_iconst (v := 2) dX4_firstWrong_100 (by decide) ?_
                  refine ev_iadd dX4_firstWrong_101 ?_
                  cases h
                  replace hk := xel_r hk
                  replace hk := xel_r hk
                  exact ev_iret rfl (hk) dX4_firstWrong_102 (Nat.zero_le _) (Nat.zero_le _)
              · replace h := xif_f c72 h
                refine ev_iload 4 dX4_firstWrong_75 rfl ?_
                refine ev_iconst (v := 1) dX4_firstWrong_77 (by decide) ?_
                refine ev_iadd dX4_firstWrong_78 ?_
                cases h
                replace hk := xel_r hk
                replace hk := xel_r hk
                exact ev_iret rfl (hk) dX4_firstWrong_79 (Nat.zero_le _) (Nat.zero_le _)
            · replace h := xif_f c51 h
              refine ev_iload 4 dX4_firstWrong_54 rfl ?_
              cases h
              replace hk := xel_r hk
              replace hk := xel_r hk
              exact ev_iret rfl (hk) dX4_firstWrong_56 (Nat.zero_le _) (Nat.zero_le _)
        · replace h := xif_t c29 h
          refine ev_goto (tgt := 129) dX4_firstWrong_32 (by decide) ?_
          obtain ⟨x14, hx14, h⟩ := xlt_some h
          refine ev_iinc (L' := [(5, .int x14), (0, .ref (E.2.2.2 + iC_notes)), (1, .ref (E.2.2.2 + iC_tape)), (2, .int p1), (3, .int p2), (4, .int x1)]) 5 dX4_firstWrong_129 rfl ((by rfl : x2 + Int32.ofInt 1 = x2 + 1).trans hx14) (Nat.le_of_ble_eq_true rfl) rfl ?_
          refine ev_goto (tgt := 6) dX4_firstWrong_132 (by decide) ?_
          cases h
          replace hk := xel_l hk
          exact ev_sub [1, 2, 3, 4, 5, 0] rfl (hk)
  · rcases q15 with q16 | q17
    · replace h := xsm_l h
      show Ev E (xcm E d 0 0 QQ) Y_X4_firstWrong 135 [(2, .int p1), (4, .int q16)] [] (xσ μ R) n 0 0
      refine ev_iload 1 dX4_firstWrong_135 rfl ?_
      refine ev_iload_n 0 dX4_firstWrong_137 rfl rfl ?_
      refine ev_iconst (v := 4) dX4_firstWrong_138 (by decide) ?_
      refine ev_imul dX4_firstWrong_139 ?_
      refine ev_icmp_ge (tgt := 148) dX4_firstWrong_140 (by decide) (fun c140 => ?_) (fun c140 => ?_)
      · replace h := xif_t c140 h
        refine ev_iconst (v := (-1)) dX4_firstWrong_148 (by decide) ?_
        cases h
        exact ev_iret rfl (hQ) dX4_firstWrong_149 (Nat.zero_le _) (Nat.zero_le _)
      · replace h := xif_f c140 h
        refine ev_iload 1 dX4_firstWrong_143 rfl ?_
        refine ev_goto (tgt := 149) dX4_firstWrong_145 (by decide) ?_
        cases h
        exact ev_iret rfl (hQ) dX4_firstWrong_149 (Nat.zero_le _) (Nat.zero_le _)
    · replace h := xsm_r h
      cases h
      exact hQ
def fX4_sumOf_j57 (p2 : Int32) (μ : xm) (x1 : Int32) (x2 : Int32) : Option ((Int32 × Int32) ⊕ (Int32)) := xbd (fX4_isLive x2 p2 μ) fun q4 => if q4 = 0 then (xlt (x2 + 1) fun x5 => some (.inl (x1, x5))) else (xbd (xgI μ iC_notes_minutes 60 x2) fun v6 => xlt (x1 + v6) fun x7 => xlt (x2 + 1) fun x8 => some (.inl (x7, x8)))
def fX4_sumOf_j38 (p1 : Int32) (p2 : Int32) (μ : xm) (x1 : Int32) (x2 : Int32) : Option ((Int32 × Int32) ⊕ (Int32)) := if p1 = (-1) then (fX4_sumOf_j57 p2 μ x1 x2) else (xbd (xgI μ iC_notes_holders 60 x2) fun v9 => if v9 = p1 then (fX4_sumOf_j57 p2 μ x1 x2) else (xlt (x2 + 1) fun x10 => some (.inl (x1, x10))))
def fX4_sumOf_b6 (x1 : Int32) (x2 : Int32) (p0 : Int32) (p1 : Int32) (p2 : Int32) (μ : xm) : Option ((Int32 × Int32) ⊕ (Int32)) := if (μ.1 iC_notes 6) ≤ x2 then (some (.inr x1)) else (if 60 ≤ x2 then (some (.inr x1)) else (if p0 = (-1) then (fX4_sumOf_j38 p1 p2 μ x1 x2) else (xbd (xgI μ iC_notes_owers 60 x2) fun v11 => if v11 = p0 then (fX4_sumOf_j38 p1 p2 μ x1 x2) else (xlt (x2 + 1) fun x12 => some (.inl (x1, x12))))))
def fX4_sumOf (p0 : Int32) (p1 : Int32) (p2 : Int32) (μ : xm) : Option (Int32) := xbd (xloop xfu (fun v => fX4_sumOf_b6 v.1 v.2 p0 p1 p2 μ) (0, 0)) fun q13 => some q13
set_option maxHeartbeats 4000000 in
set_option maxRecDepth 100000 in
theorem kX4_sumOf {E : xE} {d : Nat} {QQ : xP} (hd : 2 ≤ d) {p0 : Int32} {p1 : Int32} {p2 : Int32} {μ : xm} {R : xr} {n : Nat} (hF : xFin R n)  {res : Int32} (h : fX4_sumOf p0 p1 p2 μ = some res) (hQ : QQ (some (.int res)) (xσ μ R) n) : xCon E d Y_X4_sumOf 0 0 [.ref (E.2.2.2 + iC_notes), .int p0, .int p1, .int p2] (xσ μ R) n QQ := by
  refine xCon_of pn_RX4 (Nat.le_of_ble_eq_true rfl) (L0 := [(0, .ref (E.2.2.2 + iC_notes)), (1, .int p0), (2, .int p1), (3, .int p2)]) rfl ?_
  unfold fX4_sumOf at h
  refine ev_iconst (v := 0) dX4_sumOf_0 (by decide) ?_
  refine xv_istore (L' := [(4, .int 0), (0, .ref (E.2.2.2 + iC_notes)), (1, .int p0), (2, .int p1), (3, .int p2)]) rfl dX4_sumOf_1 (Nat.le_of_ble_eq_true rfl) rfl ?_
  refine ev_iconst (v := 0) dX4_sumOf_3 (by decide) ?_
  refine xv_istore (L' := [(5, .int 0), (4, .int 0), (0, .ref (E.2.2.2 + iC_notes)), (1, .int p0), (2, .int p1), (3, .int p2)]) rfl dX4_sumOf_4 (Nat.le_of_ble_eq_true rfl) rfl ?_
  obtain ⟨q13, hq13, h⟩ := xbd_some h
  refine ev_sub (L' := [(0, .ref (E.2.2.2 + iC_notes)), (1, .int p0), (2, .int p1), (3, .int p2), (4, .int 0), (5, .int 0)]) [2, 3, 4, 5, 1, 0] rfl ?_
  refine xloop_run (fun v => Ev E (xcm E d 0 0 QQ) Y_X4_sumOf 6 [(0, .ref (E.2.2.2 + iC_notes)), (1, .int p0), (2, .int p1), (3, .int p2), (4, .int v.1), (5, .int v.2)] [] (xσ μ R) n 0 0) (fun v => Ev E (xcm E d 0 0 QQ) Y_X4_sumOf 85 [(4, .int v)] [] (xσ μ R) n 0 0) ?_ _ _ _ hq13 ?_
  · rintro ⟨x1, x2⟩ y3 h hk
    replace h : fX4_sumOf_b6 x1 x2 p0 p1 p2 μ = some y3 := h
    show Ev E (xcm E d 0 0 QQ) Y_X4_sumOf 6 [(0, .ref (E.2.2.2 + iC_notes)), (1, .int p0), (2, .int p1), (3, .int p2), (4, .int x1), (5, .int x2)] [] (xσ μ R) n 0 0
    unfold fX4_sumOf_b6 at h
    refine ev_iload 5 dX4_sumOf_6 rfl ?_
    refine ev_aload_n 0 dX4_sumOf_8 rfl rfl ?_
    refine xv_getI cl_4 lk_RX4_30 kd_28 (xl hF rfl) (fun _ => rfl) dX4_sumOf_9 ?_
    refine ev_icmp_ge (tgt := 85) dX4_sumOf_12 (by decide) (fun c12 => ?_) (fun c12 => ?_)
    · replace h := xif_t c12 h
      cases h
      replace hk := xel_r hk
      exact ev_sub [4] rfl (hk)
    · replace h := xif_f c12 h
      refine ev_iload 5 dX4_sumOf_15 rfl ?_
      refine ev_bipush (v := 60) dX4_sumOf_17 (by decide) ?_
      refine ev_icmp_ge (tgt := 85) dX4_sumOf_19 (by decide) (fun c19 => ?_) (fun c19 => ?_)
      · replace h := xif_t c19 h
        cases h
        replace hk := xel_r hk
        exact ev_sub [4] rfl (hk)
      · replace h := xif_f c19 h
        refine ev_iload_n 1 dX4_sumOf_22 rfl rfl ?_
        refine ev_iconst (v := (-1)) dX4_sumOf_23 (by decide) ?_
        have j38 : fX4_sumOf_j38 p1 p2 μ x1 x2 = some y3 → Ev E (xcm E d 0 0 QQ) Y_X4_sumOf 38 [(0, .ref (E.2.2.2 + iC_notes)), (1, .int p0), (2, .int p1), (3, .int p2), (4, .int x1), (5, .int x2)] [] (xσ μ R) n 0 0 := by
          intro h
          unfold fX4_sumOf_j38 at h
          refine ev_iload_n 2 dX4_sumOf_38 rfl rfl ?_
          refine ev_iconst (v := (-1)) dX4_sumOf_39 (by decide) ?_
          have j57 : fX4_sumOf_j57 p2 μ x1 x2 = some y3 → Ev E (xcm E d 0 0 QQ) Y_X4_sumOf 57 [(0, .ref (E.2.2.2 + iC_notes)), (1, .int p0), (2, .int p1), (3, .int p2), (4, .int x1), (5, .int x2)] [] (xσ μ R) n 0 0 := by
            intro h
            unfold fX4_sumOf_j57 at h
            refine ev_aload_n 0 dX4_sumOf_57 rfl rfl ?_
            refine ev_iload 5 dX4_sumOf_58 rfl ?_
            refine ev_iload_n 3 dX4_sumOf_60 rfl rfl ?_
            obtain ⟨q4, hq4, h⟩ := xbd_some h
            refine ev_callV (ci := 4) (rest := []) 2 (kX4_isLive (E := E) (d := 1) (QQ := (fun v τ n' => v = some (.int q4) ∧ τ = xσ μ R ∧ n = n')) (Nat.le_refl _) hF hq4 (⟨rfl, rfl, rfl⟩)) my_X4_isLive ⟨m_870, m_819, m_820⟩ cl_4 kd_28 (xl hF rfl) rfl rfl (Nat.le_of_ble_eq_true rfl) (Nat.le_trans (by decide) hd) (xlo (by decide) (Nat.le_trans (by decide) hd)) (Nat.zero_le _) (Nat.zero_le _) dX4_sumOf_61 (fun v τ n' hv => ?_)
            obtain ⟨rfl, rfl, rfl⟩ := hv
            show Ev E (xcm E d 0 0 QQ) Y_X4_sumOf 64 [(0, .ref (E.2.2.2 + iC_notes)), (1, .int p0), (2, .int p1), (3, .int p2), (4, .int x1), (5, .int x2)] [.int q4] (xσ μ R) n 0 0
            refine ev_if_eq (tgt := 79) dX4_sumOf_64 (by decide) (fun c64 => ?_) (fun c64 => ?_)
            · replace h := xif_t c64 h
              obtain ⟨x5, hx5, h⟩ := xlt_some h
              refine ev_iinc (L' := [(5, .int x5), (0, .ref (E.2.2.2 + iC_notes)), (1, .int p0), (2, .int p1), (3, .int p2), (4, .int x1)]) 5 dX4_sumOf_79 rfl ((by rfl : x2 + Int32.ofInt 1 = x2 + 1).trans hx5) (Nat.le_of_ble_eq_true rfl) rfl ?_
              refine ev_goto (tgt := 6) dX4_sumOf_82 (by decide) ?_
              cases h
              replace hk := xel_l hk
              exact ev_sub [1, 2, 3, 4, 5, 0] rfl (hk)
            · replace h := xif_f c64 h
              refine ev_iload 4 dX4_sumOf_67 rfl ?_
              refine ev_aload_n 0 dX4_sumOf_69 rfl rfl ?_
              refine xv_getF (a := iC_notes_minutes) cl_4 lk_RX4_18 kd_28 (xl hF rfl) (fun _ => rfl) (fr_28_2 hF) dX4_sumOf_70 ?_
              refine ev_iload 5 dX4_sumOf_73 rfl ?_
              obtain ⟨v6, hv6, h⟩ := xbd_some h
              refine xv_iald kd_31 (xl hF rfl) hv6 dX4_sumOf_75 ?_
              refine ev_iadd dX4_sumOf_76 ?_
              obtain ⟨x7, hx7, h⟩ := xlt_some h
              refine xv_istore (L' := [(4, .int x7), (0, .ref (E.2.2.2 + iC_notes)), (1, .int p0), (2, .int p1), (3, .int p2), (5, .int x2)]) hx7 dX4_sumOf_77 (Nat.le_of_ble_eq_true rfl) rfl ?_
              obtain ⟨x8, hx8, h⟩ := xlt_some h
              refine ev_iinc (L' := [(5, .int x8), (4, .int x7), (0, .ref (E.2.2.2 + iC_notes)), (1, .int p0), (2, .int p1), (3, .int p2)]) 5 dX4_sumOf_79 rfl ((by rfl : x2 + Int32.ofInt 1 = x2 + 1).trans hx8) (Nat.le_of_ble_eq_true rfl) rfl ?_
              refine ev_goto (tgt := 6) dX4_sumOf_82 (by decide) ?_
              cases h
              replace hk := xel_l hk
              exact ev_sub [2, 3, 4, 5, 1, 0] rfl (hk)
          refine ev_icmp_eq (tgt := 57) dX4_sumOf_40 (by decide) (fun c40 => ?_) (fun c40 => ?_)
          · replace h := xif_t c40 h
            exact ev_sub [0, 1, 2, 3, 4, 5] rfl (j57 h)
          · replace h := xif_f c40 h
            refine ev_aload_n 0 dX4_sumOf_43 rfl rfl ?_
            refine xv_getF (a := iC_notes_holders) cl_4 lk_RX4_15 kd_28 (xl hF rfl) (fun _ => rfl) (fr_28_1 hF) dX4_sumOf_44 ?_
            refine ev_iload 5 dX4_sumOf_47 rfl ?_
            obtain ⟨v9, hv9, h⟩ := xbd_some h
            refine xv_iald kd_30 (xl hF rfl) hv9 dX4_sumOf_49 ?_
            refine ev_iload_n 2 dX4_sumOf_50 rfl rfl ?_
            refine ev_icmp_eq (tgt := 57) dX4_sumOf_51 (by decide) (fun c51 => ?_) (fun c51 => ?_)
            · replace h := xif_t c51 h
              exact ev_sub [0, 1, 2, 3, 4, 5] rfl (j57 h)
            · replace h := xif_f c51 h
              refine ev_goto (tgt := 79) dX4_sumOf_54 (by decide) ?_
              obtain ⟨x10, hx10, h⟩ := xlt_some h
              refine ev_iinc (L' := [(5, .int x10), (0, .ref (E.2.2.2 + iC_notes)), (1, .int p0), (2, .int p1), (3, .int p2), (4, .int x1)]) 5 dX4_sumOf_79 rfl ((by rfl : x2 + Int32.ofInt 1 = x2 + 1).trans hx10) (Nat.le_of_ble_eq_true rfl) rfl ?_
              refine ev_goto (tgt := 6) dX4_sumOf_82 (by decide) ?_
              cases h
              replace hk := xel_l hk
              exact ev_sub [1, 2, 3, 4, 5, 0] rfl (hk)
        refine ev_icmp_eq (tgt := 38) dX4_sumOf_24 (by decide) (fun c24 => ?_) (fun c24 => ?_)
        · replace h := xif_t c24 h
          exact ev_sub [0, 1, 2, 3, 4, 5] rfl (j38 h)
        · replace h := xif_f c24 h
          refine ev_aload_n 0 dX4_sumOf_27 rfl rfl ?_
          refine xv_getF (a := iC_notes_owers) cl_4 lk_RX4_9 kd_28 (xl hF rfl) (fun _ => rfl) (fr_28_0 hF) dX4_sumOf_28 ?_
          refine ev_iload 5 dX4_sumOf_31 rfl ?_
          obtain ⟨v11, hv11, h⟩ := xbd_some h
          refine xv_iald kd_29 (xl hF rfl) hv11 dX4_sumOf_33 ?_
          refine ev_iload_n 1 dX4_sumOf_34 rfl rfl ?_
          refine ev_icmp_ne (tgt := 79) dX4_sumOf_35 (by decide) (fun c35 => ?_) (fun c35 => ?_)
          · replace h := xif_f c35 h
            obtain ⟨x12, hx12, h⟩ := xlt_some h
            refine ev_iinc (L' := [(5, .int x12), (0, .ref (E.2.2.2 + iC_notes)), (1, .int p0), (2, .int p1), (3, .int p2), (4, .int x1)]) 5 dX4_sumOf_79 rfl ((by rfl : x2 + Int32.ofInt 1 = x2 + 1).trans hx12) (Nat.le_of_ble_eq_true rfl) rfl ?_
            refine ev_goto (tgt := 6) dX4_sumOf_82 (by decide) ?_
            cases h
            replace hk := xel_l hk
            exact ev_sub [1, 2, 3, 4, 5, 0] rfl (hk)
          · replace h := xif_t c35 h
            exact ev_sub [0, 1, 2, 3, 4, 5] rfl (j38 h)
  · show Ev E (xcm E d 0 0 QQ) Y_X4_sumOf 85 [(4, .int q13)] [] (xσ μ R) n 0 0
    refine ev_iload 0 dX4_sumOf_85 rfl ?_
    cases h
    exact ev_iret rfl (hQ) dX4_sumOf_87 (Nat.zero_le _) (Nat.zero_le _)
def fX6_costOf_b20 (x3 : Int64) (x4 : Int32) (p1 : Int32) (p2 : Int32) (p3 : Int32) (p4 : Int32) (μ : xm) (R : xr) (q2 : Int32) : Option ((Int64 × Int32) ⊕ (Int64)) := xbd (fX10_endsOf p1 μ) fun q6 => if q6 ≤ x4 then (some (.inr x3)) else (xbd (fX10_takes p1 x4 p3 μ) fun q7 => xlt (p2 + q7) fun x8 => xbd (fX10_weightOf p1 x4 μ) fun q9 => xbd (R iC_rest 4) fun a10 => xbd (fX8_above a10 x8 μ) fun q11 => xbd (fX8_below iC_rest_each x8 μ) fun q12 => xlt (x3 + (q9.toInt64 * ((q2.toInt64 * q11) + (p4.toInt64 * q12)))) fun x13 => xlt (x4 + 1) fun x14 => some (.inl (x13, x14)))
def fX6_costOf (p0 : Nat) (p1 : Int32) (p2 : Int32) (p3 : Int32) (p4 : Int32) (μ : xm) (R : xr) : Option (Int64) := xbd (fX2_hour p0 μ) fun q1 => xbd (fX5_worthAt p1 q1 μ) fun q2 => xbd (xloop xfu (fun v => fX6_costOf_b20 v.1 v.2 p1 p2 p3 p4 μ R q2) (0, 0)) fun q15 => some q15
set_option maxHeartbeats 4000000 in
set_option maxRecDepth 100000 in
theorem kX6_costOf {E : xE} {d : Nat} {QQ : xP} (hd : 2 ≤ d) {p0 : Nat} {p1 : Int32} {p2 : Int32} {p3 : Int32} {p4 : Int32} {μ : xm} {R : xr} {n : Nat} (hF : xFin R n) (hp0 : xIs 2 p0 n) {res : Int64} (h : fX6_costOf p0 p1 p2 p3 p4 μ R = some res) (hQ : QQ (some (.long res)) (xσ μ R) n) : xCon E d Y_X6_costOf 0 0 [.ref (E.2.2.2 + iC_rest), .ref (E.2.2.2 + p0), .int p1, .int p2, .int p3, .int p4] (xσ μ R) n QQ := by
  refine xCon_of pn_RX6 (Nat.le_of_ble_eq_true rfl) (L0 := [(0, .ref (E.2.2.2 + iC_rest)), (1, .ref (E.2.2.2 + p0)), (2, .int p1), (3, .int p2), (4, .int p3), (5, .int p4)]) rfl ?_
  unfold fX6_costOf at h
  refine ev_aload_n 0 dX6_costOf_0 rfl rfl ?_
  refine xv_getF (a := iC_people) cl_6 lk_RX6_32 kd_49 (xl hF rfl) (fun _ => rfl) (fr_49_0 hF) dX6_costOf_1 ?_
  refine ev_iload_n 2 dX6_costOf_4 rfl rfl ?_
  refine ev_aload_n 1 dX6_costOf_5 rfl rfl ?_
  obtain ⟨q1, hq1, h⟩ := xbd_some h
  refine ev_callV (ci := 2) (rest := [.int p1, .ref (E.2.2.2 + iC_people)]) 0 (kX2_hour (E := E) (d := 0) (QQ := (fun v τ n' => v = some (.int q1) ∧ τ = xσ μ R ∧ n = n')) (Nat.le_refl _) hF hp0 hq1 (⟨rfl, rfl, rfl⟩)) my_X2_hour ⟨m_1146, m_695, m_696⟩ cl_2 (xIs2_kd hp0) (xIs2_lt hp0) rfl rfl (Nat.le_of_ble_eq_true rfl) (Nat.le_trans (by decide) hd) (xlo (by decide) (Nat.le_trans (by decide) hd)) (Nat.zero_le _) (Nat.zero_le _) dX6_costOf_6 (fun v τ n' hv => ?_)
  obtain ⟨rfl, rfl, rfl⟩ := hv
  show Ev E (xcm E d 0 0 QQ) Y_X6_costOf 9 [(0, .ref (E.2.2.2 + iC_rest)), (1, .ref (E.2.2.2 + p0)), (2, .int p1), (3, .int p2), (4, .int p3), (5, .int p4)] [.int q1, .int p1, .ref (E.2.2.2 + iC_people)] (xσ μ R) n 0 0
  obtain ⟨q2, hq2, h⟩ := xbd_some h
  refine ev_callV (ci := 5) (rest := []) 2 (kX5_worthAt (E := E) (d := 1) (QQ := (fun v τ n' => v = some (.int q2) ∧ τ = xσ μ R ∧ n = n')) (Nat.le_refl _) hF hq2 (⟨rfl, rfl, rfl⟩)) my_X5_worthAt ⟨m_1147, m_699, m_700⟩ cl_5 kd_19 (xl hF rfl) rfl rfl (Nat.le_of_ble_eq_true rfl) (Nat.le_trans (by decide) hd) (xlo (by decide) (Nat.le_trans (by decide) hd)) (Nat.zero_le _) (Nat.zero_le _) dX6_costOf_9 (fun v τ n' hv => ?_)
  obtain ⟨rfl, rfl, rfl⟩ := hv
  show Ev E (xcm E d 0 0 QQ) Y_X6_costOf 12 [(0, .ref (E.2.2.2 + iC_rest)), (1, .ref (E.2.2.2 + p0)), (2, .int p1), (3, .int p2), (4, .int p3), (5, .int p4)] [.int q2] (xσ μ R) n 0 0
  refine xv_istore (L' := [(6, .int q2), (0, .ref (E.2.2.2 + iC_rest)), (1, .ref (E.2.2.2 + p0)), (2, .int p1), (3, .int p2), (4, .int p3), (5, .int p4)]) rfl dX6_costOf_12 (Nat.le_of_ble_eq_true rfl) rfl ?_
  refine ev_lconst (v := 0) dX6_costOf_14 (by decide) ?_
  refine xv_lstore (L' := [(7, .long 0), (6, .int q2), (0, .ref (E.2.2.2 + iC_rest)), (1, .ref (E.2.2.2 + p0)), (2, .int p1), (3, .int p2), (4, .int p3), (5, .int p4)]) rfl dX6_costOf_15 (Nat.le_of_ble_eq_true rfl) rfl ?_
  refine ev_iconst (v := 0) dX6_costOf_17 (by decide) ?_
  refine xv_istore (L' := [(9, .int 0), (7, .long 0), (6, .int q2), (0, .ref (E.2.2.2 + iC_rest)), (1, .ref (E.2.2.2 + p0)), (2, .int p1), (3, .int p2), (4, .int p3), (5, .int p4)]) rfl dX6_costOf_18 (Nat.le_of_ble_eq_true rfl) rfl ?_
  obtain ⟨q15, hq15, h⟩ := xbd_some h
  refine ev_sub (L' := [(0, .ref (E.2.2.2 + iC_rest)), (2, .int p1), (3, .int p2), (4, .int p3), (5, .int p4), (6, .int q2), (7, .long 0), (9, .int 0)]) [3, 5, 6, 7, 8, 2, 1, 0] rfl ?_
  refine xloop_run (fun v => Ev E (xcm E d 0 0 QQ) Y_X6_costOf 20 [(0, .ref (E.2.2.2 + iC_rest)), (2, .int p1), (3, .int p2), (4, .int p3), (5, .int p4), (6, .int q2), (7, .long v.1), (9, .int v.2)] [] (xσ μ R) n 0 0) (fun v => Ev E (xcm E d 0 0 QQ) Y_X6_costOf 99 [(7, .long v)] [] (xσ μ R) n 0 0) ?_ _ _ _ hq15 ?_
  · rintro ⟨x3, x4⟩ y5 h hk
    replace h : fX6_costOf_b20 x3 x4 p1 p2 p3 p4 μ R q2 = some y5 := h
    show Ev E (xcm E d 0 0 QQ) Y_X6_costOf 20 [(0, .ref (E.2.2.2 + iC_rest)), (2, .int p1), (3, .int p2), (4, .int p3), (5, .int p4), (6, .int q2), (7, .long x3), (9, .int x4)] [] (xσ μ R) n 0 0
    unfold fX6_costOf_b20 at h
    refine ev_iload 7 dX6_costOf_20 rfl ?_
    refine ev_aload_n 0 dX6_costOf_22 rfl rfl ?_
    refine xv_getF (a := iC_ways) cl_6 lk_RX6_36 kd_49 (xl hF rfl) (fun _ => rfl) (fr_49_1 hF) dX6_costOf_23 ?_
    refine ev_iload_n 1 dX6_costOf_26 rfl rfl ?_
    obtain ⟨q6, hq6, h⟩ := xbd_some h
    refine ev_callV (ci := 10) (rest := [.int x4]) 1 (kX10_endsOf (E := E) (d := 1) (QQ := (fun v τ n' => v = some (.int q6) ∧ τ = xσ μ R ∧ n = n')) (Nat.le_refl _) hF hq6 (⟨rfl, rfl, rfl⟩)) my_X10_endsOf ⟨m_1122, m_1000, m_1001⟩ cl_10 kd_42 (xl hF rfl) rfl rfl (Nat.le_of_ble_eq_true rfl) (Nat.le_trans (by decide) hd) (xlo (by decide) (Nat.le_trans (by decide) hd)) (Nat.zero_le _) (Nat.zero_le _) dX6_costOf_27 (fun v τ n' hv => ?_)
    obtain ⟨rfl, rfl, rfl⟩ := hv
    show Ev E (xcm E d 0 0 QQ) Y_X6_costOf 30 [(0, .ref (E.2.2.2 + iC_rest)), (2, .int p1), (3, .int p2), (4, .int p3), (5, .int p4), (6, .int q2), (7, .long x3), (9, .int x4)] [.int q6, .int x4] (xσ μ R) n 0 0
    refine ev_icmp_ge (tgt := 99) dX6_costOf_30 (by decide) (fun c30 => ?_) (fun c30 => ?_)
    · replace h := xif_t c30 h
      cases h
      replace hk := xel_r hk
      exact ev_sub [6] rfl (hk)
    · replace h := xif_f c30 h
      refine ev_iload_n 2 dX6_costOf_33 rfl rfl ?_
      refine ev_aload_n 0 dX6_costOf_34 rfl rfl ?_
      refine xv_getF (a := iC_ways) cl_6 lk_RX6_36 kd_49 (xl hF rfl) (fun _ => rfl) (fr_49_1 hF) dX6_costOf_35 ?_
      refine ev_iload_n 1 dX6_costOf_38 rfl rfl ?_
      refine ev_iload 7 dX6_costOf_39 rfl ?_
      refine ev_iload 3 dX6_costOf_41 rfl ?_
      obtain ⟨q7, hq7, h⟩ := xbd_some h
      refine ev_callV (ci := 10) (rest := [.int p2]) 3 (kX10_takes (E := E) (d := 1) (QQ := (fun v τ n' => v = some (.int q7) ∧ τ = xσ μ R ∧ n = n')) (Nat.le_refl _) hF hq7 (⟨rfl, rfl, rfl⟩)) my_X10_takes ⟨m_1123, m_1005, m_1006⟩ cl_10 kd_42 (xl hF rfl) rfl rfl (Nat.le_of_ble_eq_true rfl) (Nat.le_trans (by decide) hd) (xlo (by decide) (Nat.le_trans (by decide) hd)) (Nat.zero_le _) (Nat.zero_le _) dX6_costOf_43 (fun v τ n' hv => ?_)
      obtain ⟨rfl, rfl, rfl⟩ := hv
      show Ev E (xcm E d 0 0 QQ) Y_X6_costOf 46 [(0, .ref (E.2.2.2 + iC_rest)), (2, .int p1), (3, .int p2), (4, .int p3), (5, .int p4), (6, .int q2), (7, .long x3), (9, .int x4)] [.int q7, .int p2] (xσ μ R) n 0 0
      refine ev_iadd dX6_costOf_46 ?_
      obtain ⟨x8, hx8, h⟩ := xlt_some h
      refine xv_istore (L' := [(10, .int x8), (0, .ref (E.2.2.2 + iC_rest)), (2, .int p1), (3, .int p2), (4, .int p3), (5, .int p4), (6, .int q2), (7, .long x3), (9, .int x4)]) hx8 dX6_costOf_47 (Nat.le_of_ble_eq_true rfl) rfl ?_
      refine ev_lload 7 dX6_costOf_49 rfl ?_
      refine ev_aload_n 1 dX6_costOf_51 rfl rfl ?_
      refine xv_getF (a := iC_ways) cl_6 lk_RX6_36 kd_49 (xl hF rfl) (fun _ => rfl) (fr_49_1 hF) dX6_costOf_52 ?_
      refine ev_iload_n 2 dX6_costOf_55 rfl rfl ?_
      refine ev_iload 8 dX6_costOf_56 rfl ?_
      obtain ⟨q9, hq9, h⟩ := xbd_some h
      refine ev_callV (ci := 10) (rest := [.long x3]) 2 (kX10_weightOf (E := E) (d := 1) (QQ := (fun v τ n' => v = some (.int q9) ∧ τ = xσ μ R ∧ n = n')) (Nat.le_refl _) hF hq9 (⟨rfl, rfl, rfl⟩)) my_X10_weightOf ⟨m_1125, m_1010, m_1011⟩ cl_10 kd_42 (xl hF rfl) rfl rfl (Nat.le_of_ble_eq_true rfl) (Nat.le_trans (by decide) hd) (xlo (by decide) (Nat.le_trans (by decide) hd)) (Nat.zero_le _) (Nat.zero_le _) dX6_costOf_58 (fun v τ n' hv => ?_)
      obtain ⟨rfl, rfl, rfl⟩ := hv
      show Ev E (xcm E d 0 0 QQ) Y_X6_costOf 61 [(10, .int x8), (0, .ref (E.2.2.2 + iC_rest)), (2, .int p1), (3, .int p2), (4, .int p3), (5, .int p4), (6, .int q2), (7, .long x3), (9, .int x4)] [.int q9, .long x3] (xσ μ R) n 0 0
      refine ev_i2l dX6_costOf_61 ?_
      refine ev_iload 6 dX6_costOf_62 rfl ?_
      refine ev_i2l dX6_costOf_64 ?_
      refine ev_aload_n 1 dX6_costOf_65 rfl rfl ?_
      refine xv_getR cl_6 lk_RX6_22 kd_49 (xl hF rfl) (fun _ => rfl) dX6_costOf_66 ?_
      obtain ⟨a10, ha10, h⟩ := xbd_some h
      refine xv_nn ha10 ?_
      replace ha10 := dy_49_4 hF _ ha10
      refine ev_iload 0 dX6_costOf_69 rfl ?_
      obtain ⟨q11, hq11, h⟩ := xbd_some h
      refine ev_callV (ci := 8) (rest := [.long (q2.toInt64), .long (q9.toInt64), .long x3]) 1 (kX8_above (E := E) (d := 0) (QQ := (fun v τ n' => v = some (.long q11) ∧ τ = xσ μ R ∧ n = n')) (Nat.le_refl _) hF ha10 hq11 (⟨rfl, rfl, rfl⟩)) my_X8_above ⟨m_1148, m_1149, m_1150⟩ cl_8 (xIs8_kd ha10) (xIs8_lt ha10) rfl rfl (Nat.le_of_ble_eq_true rfl) (Nat.le_trans (by decide) hd) (xlo (by decide) (Nat.le_trans (by decide) hd)) (Nat.zero_le _) (Nat.zero_le _) dX6_costOf_71 (fun v τ n' hv => ?_)
      obtain ⟨rfl, rfl, rfl⟩ := hv
      show Ev E (xcm E d 0 0 QQ) Y_X6_costOf 74 [(10, .int x8), (0, .ref (E.2.2.2 + iC_rest)), (2, .int p1), (3, .int p2), (4, .int p3), (5, .int p4), (6, .int q2), (7, .long x3), (9, .int x4)] [.long q11, .long (q2.toInt64), .long (q9.toInt64), .long x3] (xσ μ R) n 0 0
      refine ev_lmul dX6_costOf_74 ?_
      refine ev_iload 5 dX6_costOf_75 rfl ?_
      refine ev_i2l dX6_costOf_77 ?_
      refine ev_aload_n 1 dX6_costOf_78 rfl rfl ?_
      refine xv_getF (a := iC_rest_each) cl_6 lk_RX6_29 kd_49 (xl hF rfl) (fun _ => rfl) (fr_49_6 hF) dX6_costOf_79 ?_
      refine ev_iload 0 dX6_costOf_82 rfl ?_
      obtain ⟨q12, hq12, h⟩ := xbd_some h
      refine ev_callV (ci := 8) (rest := [.long (p4.toInt64), .long (q2.toInt64 * q11), .long (q9.toInt64), .long x3]) 1 (kX8_below (E := E) (d := 0) (QQ := (fun v τ n' => v = some (.long q12) ∧ τ = xσ μ R ∧ n = n')) (Nat.le_refl _) hF (st_58 hF) hq12 (⟨rfl, rfl, rfl⟩)) my_X8_below ⟨m_1152, m_1153, m_1154⟩ cl_8 kd_58 (xl hF rfl) rfl rfl (Nat.le_of_ble_eq_true rfl) (Nat.le_trans (by decide) hd) (xlo (by decide) (Nat.le_trans (by decide) hd)) (Nat.zero_le _) (Nat.zero_le _) dX6_costOf_84 (fun v τ n' hv => ?_)
      obtain ⟨rfl, rfl, rfl⟩ := hv
      show Ev E (xcm E d 0 0 QQ) Y_X6_costOf 87 [(10, .int x8), (0, .ref (E.2.2.2 + iC_rest)), (2, .int p1), (3, .int p2), (4, .int p3), (5, .int p4), (6, .int q2), (7, .long x3), (9, .int x4)] [.long q12, .long (p4.toInt64), .long (q2.toInt64 * q11), .long (q9.toInt64), .long x3] (xσ μ R) n 0 0
      refine ev_lmul dX6_costOf_87 ?_
      refine ev_ladd dX6_costOf_88 ?_
      refine ev_lmul dX6_costOf_89 ?_
      refine ev_ladd dX6_costOf_90 ?_
      obtain ⟨x13, hx13, h⟩ := xlt_some h
      refine xv_lstore (L' := [(7, .long x13), (10, .int x8), (0, .ref (E.2.2.2 + iC_rest)), (2, .int p1), (3, .int p2), (4, .int p3), (5, .int p4), (6, .int q2), (9, .int x4)]) hx13 dX6_costOf_91 (Nat.le_of_ble_eq_true rfl) rfl ?_
      obtain ⟨x14, hx14, h⟩ := xlt_some h
      refine ev_iinc (L' := [(9, .int x14), (7, .long x13), (10, .int x8), (0, .ref (E.2.2.2 + iC_rest)), (2, .int p1), (3, .int p2), (4, .int p3), (5, .int p4), (6, .int q2)]) 8 dX6_costOf_93 rfl ((by rfl : x4 + Int32.ofInt 1 = x4 + 1).trans hx14) (Nat.le_of_ble_eq_true rfl) rfl ?_
      refine ev_goto (tgt := 20) dX6_costOf_96 (by decide) ?_
      cases h
      replace hk := xel_l hk
      exact ev_sub [3, 4, 5, 6, 7, 8, 1, 0] rfl (hk)
  · show Ev E (xcm E d 0 0 QQ) Y_X6_costOf 99 [(7, .long q15)] [] (xσ μ R) n 0 0
    refine ev_lload 0 dX6_costOf_99 rfl ?_
    cases h
    exact ev_lret rfl (hQ) dX6_costOf_101 (Nat.zero_le _) (Nat.zero_le _)
def fX6_weightsWithout_b6 (x1 : Int64) (x2 : Int32) (p0 : Nat) (p1 : Int32) (p2 : Int32) (μ : xm) : Option ((Int64 × Int32) ⊕ (Int64)) := if 8 ≤ x2 then (some (.inr x1)) else (if x2 = p1 then (xlt (x2 + 1) fun x4 => some (.inl (x1, x4))) else (if x2 = p2 then (xlt (x2 + 1) fun x5 => some (.inl (x1, x5))) else (xbd (fX2_includes p0 x2 μ) fun q6 => if q6 = 0 then (xlt (x2 + 1) fun x7 => some (.inl (x1, x7))) else (xbd (fX10_weightsOf x2 μ) fun q8 => xlt (x1 * q8.toInt64) fun x9 => xlt (x2 + 1) fun x10 => some (.inl (x9, x10))))))
def fX6_weightsWithout (p0 : Nat) (p1 : Int32) (p2 : Int32) (μ : xm) : Option (Int64) := xbd (xloop xfu (fun v => fX6_weightsWithout_b6 v.1 v.2 p0 p1 p2 μ) (1, 0)) fun q11 => some q11
set_option maxHeartbeats 4000000 in
set_option maxRecDepth 100000 in
theorem kX6_weightsWithout {E : xE} {d : Nat} {QQ : xP} (hd : 2 ≤ d) {p0 : Nat} {p1 : Int32} {p2 : Int32} {μ : xm} {R : xr} {n : Nat} (hF : xFin R n) (hp0 : xIs 2 p0 n) {res : Int64} (h : fX6_weightsWithout p0 p1 p2 μ = some res) (hQ : QQ (some (.long res)) (xσ μ R) n) : xCon E d Y_X6_weightsWithout 0 0 [.ref (E.2.2.2 + iC_rest), .ref (E.2.2.2 + p0), .int p1, .int p2] (xσ μ R) n QQ := by
  refine xCon_of pn_RX6 (Nat.le_of_ble_eq_true rfl) (L0 := [(0, .ref (E.2.2.2 + iC_rest)), (1, .ref (E.2.2.2 + p0)), (2, .int p1), (3, .int p2)]) rfl ?_
  unfold fX6_weightsWithout at h
  refine ev_lconst (v := 1) dX6_weightsWithout_0 (by decide) ?_
  refine xv_lstore (L' := [(4, .long 1), (0, .ref (E.2.2.2 + iC_rest)), (1, .ref (E.2.2.2 + p0)), (2, .int p1), (3, .int p2)]) rfl dX6_weightsWithout_1 (Nat.le_of_ble_eq_true rfl) rfl ?_
  refine ev_iconst (v := 0) dX6_weightsWithout_3 (by decide) ?_
  refine xv_istore (L' := [(6, .int 0), (4, .long 1), (0, .ref (E.2.2.2 + iC_rest)), (1, .ref (E.2.2.2 + p0)), (2, .int p1), (3, .int p2)]) rfl dX6_weightsWithout_4 (Nat.le_of_ble_eq_true rfl) rfl ?_
  obtain ⟨q11, hq11, h⟩ := xbd_some h
  refine ev_sub (L' := [(0, .ref (E.2.2.2 + iC_rest)), (1, .ref (E.2.2.2 + p0)), (2, .int p1), (3, .int p2), (4, .long 1), (6, .int 0)]) [2, 3, 4, 5, 1, 0] rfl ?_
  refine xloop_run (fun v => Ev E (xcm E d 0 0 QQ) Y_X6_weightsWithout 6 [(0, .ref (E.2.2.2 + iC_rest)), (1, .ref (E.2.2.2 + p0)), (2, .int p1), (3, .int p2), (4, .long v.1), (6, .int v.2)] [] (xσ μ R) n 0 0) (fun v => Ev E (xcm E d 0 0 QQ) Y_X6_weightsWithout 55 [(4, .long v)] [] (xσ μ R) n 0 0) ?_ _ _ _ hq11 ?_
  · rintro ⟨x1, x2⟩ y3 h hk
    replace h : fX6_weightsWithout_b6 x1 x2 p0 p1 p2 μ = some y3 := h
    show Ev E (xcm E d 0 0 QQ) Y_X6_weightsWithout 6 [(0, .ref (E.2.2.2 + iC_rest)), (1, .ref (E.2.2.2 + p0)), (2, .int p1), (3, .int p2), (4, .long x1), (6, .int x2)] [] (xσ μ R) n 0 0
    unfold fX6_weightsWithout_b6 at h
    refine ev_iload 5 dX6_weightsWithout_6 rfl ?_
    refine ev_bipush (v := 8) dX6_weightsWithout_8 (by decide) ?_
    refine ev_icmp_ge (tgt := 55) dX6_weightsWithout_10 (by decide) (fun c10 => ?_) (fun c10 => ?_)
    · replace h := xif_t c10 h
      cases h
      replace hk := xel_r hk
      exact ev_sub [4] rfl (hk)
    · replace h := xif_f c10 h
      refine ev_iload 5 dX6_weightsWithout_13 rfl ?_
      refine ev_iload_n 2 dX6_weightsWithout_15 rfl rfl ?_
      refine ev_icmp_eq (tgt := 49) dX6_weightsWithout_16 (by decide) (fun c16 => ?_) (fun c16 => ?_)
      · replace h := xif_t c16 h
        obtain ⟨x4, hx4, h⟩ := xlt_some h
        refine ev_iinc (L' := [(6, .int x4), (0, .ref (E.2.2.2 + iC_rest)), (1, .ref (E.2.2.2 + p0)), (2, .int p1), (3, .int p2), (4, .long x1)]) 5 dX6_weightsWithout_49 rfl ((by rfl : x2 + Int32.ofInt 1 = x2 + 1).trans hx4) (Nat.le_of_ble_eq_true rfl) rfl ?_
        refine ev_goto (tgt := 6) dX6_weightsWithout_52 (by decide) ?_
        cases h
        replace hk := xel_l hk
        exact ev_sub [1, 2, 3, 4, 5, 0] rfl (hk)
      · replace h := xif_f c16 h
        refine ev_iload 5 dX6_weightsWithout_19 rfl ?_
        refine ev_iload_n 3 dX6_weightsWithout_21 rfl rfl ?_
        refine ev_icmp_eq (tgt := 49) dX6_weightsWithout_22 (by decide) (fun c22 => ?_) (fun c22 => ?_)
        · replace h := xif_t c22 h
          obtain ⟨x5, hx5, h⟩ := xlt_some h
          refine ev_iinc (L' := [(6, .int x5), (0, .ref (E.2.2.2 + iC_rest)), (1, .ref (E.2.2.2 + p0)), (2, .int p1), (3, .int p2), (4, .long x1)]) 5 dX6_weightsWithout_49 rfl ((by rfl : x2 + Int32.ofInt 1 = x2 + 1).trans hx5) (Nat.le_of_ble_eq_true rfl) rfl ?_
          refine ev_goto (tgt := 6) dX6_weightsWithout_52 (by decide) ?_
          cases h
          replace hk := xel_l hk
          exact ev_sub [1, 2, 3, 4, 5, 0] rfl (hk)
        · replace h := xif_f c22 h
          refine ev_aload_n 1 dX6_weightsWithout_25 rfl rfl ?_
          refine ev_iload 5 dX6_weightsWithout_26 rfl ?_
          obtain ⟨q6, hq6, h⟩ := xbd_some h
          refine ev_callV (ci := 2) (rest := []) 1 (kX2_includes (E := E) (d := 0) (QQ := (fun v τ n' => v = some (.int q6) ∧ τ = xσ μ R ∧ n = n')) (Nat.le_refl _) hF hp0 hq6 (⟨rfl, rfl, rfl⟩)) my_X2_includes ⟨m_1098, m_500, m_501⟩ cl_2 (xIs2_kd hp0) (xIs2_lt hp0) rfl rfl (Nat.le_of_ble_eq_true rfl) (Nat.le_trans (by decide) hd) (xlo (by decide) (Nat.le_trans (by decide) hd)) (Nat.zero_le _) (Nat.zero_le _) dX6_weightsWithout_28 (fun v τ n' hv => ?_)
          obtain ⟨rfl, rfl, rfl⟩ := hv
          show Ev E (xcm E d 0 0 QQ) Y_X6_weightsWithout 31 [(0, .ref (E.2.2.2 + iC_rest)), (1, .ref (E.2.2.2 + p0)), (2, .int p1), (3, .int p2), (4, .long x1), (6, .int x2)] [.int q6] (xσ μ R) n 0 0
          refine ev_if_eq (tgt := 49) dX6_weightsWithout_31 (by decide) (fun c31 => ?_) (fun c31 => ?_)
          · replace h := xif_t c31 h
            obtain ⟨x7, hx7, h⟩ := xlt_some h
            refine ev_iinc (L' := [(6, .int x7), (0, .ref (E.2.2.2 + iC_rest)), (1, .ref (E.2.2.2 + p0)), (2, .int p1), (3, .int p2), (4, .long x1)]) 5 dX6_weightsWithout_49 rfl ((by rfl : x2 + Int32.ofInt 1 = x2 + 1).trans hx7) (Nat.le_of_ble_eq_true rfl) rfl ?_
            refine ev_goto (tgt := 6) dX6_weightsWithout_52 (by decide) ?_
            cases h
            replace hk := xel_l hk
            exact ev_sub [1, 2, 3, 4, 5, 0] rfl (hk)
          · replace h := xif_f c31 h
            refine ev_lload 4 dX6_weightsWithout_34 rfl ?_
            refine ev_aload_n 0 dX6_weightsWithout_36 rfl rfl ?_
            refine xv_getF (a := iC_ways) cl_6 lk_RX6_36 kd_49 (xl hF rfl) (fun _ => rfl) (fr_49_1 hF) dX6_weightsWithout_37 ?_
            refine ev_iload 5 dX6_weightsWithout_40 rfl ?_
            obtain ⟨q8, hq8, h⟩ := xbd_some h
            refine ev_callV (ci := 10) (rest := [.long x1]) 1 (kX10_weightsOf (E := E) (d := 1) (QQ := (fun v τ n' => v = some (.int q8) ∧ τ = xσ μ R ∧ n = n')) (Nat.le_refl _) hF hq8 (⟨rfl, rfl, rfl⟩)) my_X10_weightsOf ⟨m_1121, m_1018, m_1019⟩ cl_10 kd_42 (xl hF rfl) rfl rfl (Nat.le_of_ble_eq_true rfl) (Nat.le_trans (by decide) hd) (xlo (by decide) (Nat.le_trans (by decide) hd)) (Nat.zero_le _) (Nat.zero_le _) dX6_weightsWithout_42 (fun v τ n' hv => ?_)
            obtain ⟨rfl, rfl, rfl⟩ := hv
            show Ev E (xcm E d 0 0 QQ) Y_X6_weightsWithout 45 [(0, .ref (E.2.2.2 + iC_rest)), (1, .ref (E.2.2.2 + p0)), (2, .int p1), (3, .int p2), (4, .long x1), (6, .int x2)] [.int q8, .long x1] (xσ μ R) n 0 0
            refine ev_i2l dX6_weightsWithout_45 ?_
            refine ev_lmul dX6_weightsWithout_46 ?_
            obtain ⟨x9, hx9, h⟩ := xlt_some h
            refine xv_lstore (L' := [(4, .long x9), (0, .ref (E.2.2.2 + iC_rest)), (1, .ref (E.2.2.2 + p0)), (2, .int p1), (3, .int p2), (6, .int x2)]) hx9 dX6_weightsWithout_47 (Nat.le_of_ble_eq_true rfl) rfl ?_
            obtain ⟨x10, hx10, h⟩ := xlt_some h
            refine ev_iinc (L' := [(6, .int x10), (4, .long x9), (0, .ref (E.2.2.2 + iC_rest)), (1, .ref (E.2.2.2 + p0)), (2, .int p1), (3, .int p2)]) 5 dX6_weightsWithout_49 rfl ((by rfl : x2 + Int32.ofInt 1 = x2 + 1).trans hx10) (Nat.le_of_ble_eq_true rfl) rfl ?_
            refine ev_goto (tgt := 6) dX6_weightsWithout_52 (by decide) ?_
            cases h
            replace hk := xel_l hk
            exact ev_sub [2, 3, 4, 5, 1, 0] rfl (hk)
  · show Ev E (xcm E d 0 0 QQ) Y_X6_weightsWithout 55 [(4, .long q11)] [] (xσ μ R) n 0 0
    refine ev_lload 0 dX6_weightsWithout_55 rfl ?_
    cases h
    exact ev_lret rfl (hQ) dX6_weightsWithout_57 (Nat.zero_le _) (Nat.zero_le _)
def fX7_length (p0 : Int32) (p1 : Int32) (μ : xm) : Option (Int32) := xbd (fX7_leftFrom p1 p0 μ) fun q1 => if q1 ≤ 0 then (some 1) else (some (-1))
set_option maxHeartbeats 4000000 in
set_option maxRecDepth 100000 in
theorem kX7_length {E : xE} {d : Nat} {QQ : xP} (hd : 2 ≤ d) {p0 : Int32} {p1 : Int32} {μ : xm} {R : xr} {n : Nat} (hF : xFin R n)  {res : Int32} (h : fX7_length p0 p1 μ = some res) (hQ : QQ (some (.int res)) (xσ μ R) n) : xCon E d Y_X7_length 0 0 [.ref (E.2.2.2 + iC_striking), .int p0, .int p1] (xσ μ R) n QQ := by
  refine xCon_of pn_RX7 (Nat.le_of_ble_eq_true rfl) (L0 := [(0, .ref (E.2.2.2 + iC_striking)), (1, .int p0), (2, .int p1)]) rfl ?_
  unfold fX7_length at h
  refine ev_aload_n 0 dX7_length_0 rfl rfl ?_
  refine ev_iload_n 2 dX7_length_1 rfl rfl ?_
  refine ev_iload_n 1 dX7_length_2 rfl rfl ?_
  obtain ⟨q1, hq1, h⟩ := xbd_some h
  refine ev_callV (ci := 7) (rest := []) 2 (kX7_leftFrom (E := E) (d := 1) (QQ := (fun v τ n' => v = some (.int q1) ∧ τ = xσ μ R ∧ n = n')) (Nat.le_refl _) hF hq1 (⟨rfl, rfl, rfl⟩)) my_X7_leftFrom ⟨m_920, m_922, m_22⟩ cl_7 kd_35 (xl hF rfl) rfl rfl (Nat.le_of_ble_eq_true rfl) (Nat.le_trans (by decide) hd) (xlo (by decide) (Nat.le_trans (by decide) hd)) (Nat.zero_le _) (Nat.zero_le _) dX7_length_3 (fun v τ n' hv => ?_)
  obtain ⟨rfl, rfl, rfl⟩ := hv
  show Ev E (xcm E d 0 0 QQ) Y_X7_length 6 [(0, .ref (E.2.2.2 + iC_striking)), (1, .int p0), (2, .int p1)] [.int q1] (xσ μ R) n 0 0
  refine ev_if_le (tgt := 13) dX7_length_6 (by decide) (fun c6 => ?_) (fun c6 => ?_)
  · replace h := xif_t c6 h
    refine ev_iconst (v := 1) dX7_length_13 (by decide) ?_
    cases h
    exact ev_iret rfl (hQ) dX7_length_14 (Nat.zero_le _) (Nat.zero_le _)
  · replace h := xif_f c6 h
    refine ev_iconst (v := (-1)) dX7_length_9 (by decide) ?_
    refine ev_goto (tgt := 14) dX7_length_10 (by decide) ?_
    cases h
    exact ev_iret rfl (hQ) dX7_length_14 (Nat.zero_le _) (Nat.zero_le _)
