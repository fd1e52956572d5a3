def fX7_widen_b13 (x2 : Int32) (x3 : Int32) (μ4 : xm) (p0 : Int32) : Option ((Int32 × Int32 × xm) ⊕ (Int32 × xm)) := if 8 ≤ x3 then (some (.inr (x2, μ4))) else (xbd (fX7_room p0 x3 μ4) fun q6 => if q6 ≤ 0 then (xlt (x3 + 1) fun x7 => some (.inl (x2, x7, μ4))) else (xbd (xgI μ4 iC_striking_away 8 p0) fun v8 => xbd (fX7_length p0 x3 μ4) fun q9 => xbd (xgI μ4 iC_striking_away 8 x3) fun v10 => if (v8 + q9) < v10 then (xbd (xgI μ4 iC_striking_away 8 p0) fun v11 => xbd (fX7_length p0 x3 μ4) fun q12 => xbd (xsI μ4 iC_striking_away 8 x3 (v11 + q12)) fun μ13 => xbd (xsI μ13 iC_striking_from 8 x3 p0) fun μ14 => xlt (x3 + 1) fun x15 => some (.inl (1, x15, μ14))) else (xlt (x3 + 1) fun x16 => some (.inl (x2, x16, μ4)))))
def fX7_widen (p0 : Int32) (μ : xm) : Option (Int32 × xm) := xbd (fX11_isPerson p0) fun q1 => if q1 = 0 then (some (0, μ)) else (xbd (xloop xfu (fun v => fX7_widen_b13 v.1 v.2.1 v.2.2 p0) (0, 0, μ)) fun q17 => xbd (xz q17.1) fun z18 => some (z18, q17.2))
set_option maxHeartbeats 4000000 in
set_option maxRecDepth 100000 in
theorem kX7_widen {E : xE} {d : Nat} {QQ : xP} (hd : 3 ≤ d) {p0 : Int32} {μ : xm} {R : xr} {n : Nat} (hF : xFin R n)  {res : Int32 × xm} (h : fX7_widen p0 μ = some res) (hQ : QQ (some (.int res.1)) (xσ res.2 R) n) : xCon E d Y_X7_widen 0 0 [.ref (E.2.2.2 + iC_striking), .int p0] (xσ μ R) n QQ := by
  refine xCon_of pn_RX7 (Nat.le_of_ble_eq_true rfl) (L0 := [(0, .ref (E.2.2.2 + iC_striking)), (1, .int p0)]) rfl ?_
  unfold fX7_widen at h
  refine ev_iload_n 1 dX7_widen_0 rfl rfl ?_
  obtain ⟨q1, hq1, h⟩ := xbd_some h
  refine ev_callSN (As := [.int p0]) (rest := []) 1 (kX11_isPerson (E := E) (d := 0) (QQ := (fun v τ n' => v = some (.int q1) ∧ τ = xσ μ R ∧ n = n')) (Nat.le_refl _)  hq1 (⟨rfl, rfl, rfl⟩)) my_X11_isPerson ⟨⟨_, xnm_9⟩, m_436⟩ rfl rfl (Nat.le_of_ble_eq_true rfl) (Nat.le_trans (by decide) hd) (xlo (by decide) (Nat.le_trans (by decide) hd)) (Nat.zero_le _) (Nat.zero_le _) dX7_widen_1 (fun v τ n' hv => ?_)
  obtain ⟨rfl, rfl, rfl⟩ := hv
  show Ev E (xcm E d 0 0 QQ) Y_X7_widen 4 [(0, .ref (E.2.2.2 + iC_striking)), (1, .int p0)] [.int q1] (xσ μ R) n 0 0
  refine ev_if_ne (tgt := 9) dX7_widen_4 (by decide) (fun c4 => ?_) (fun c4 => ?_)
  · replace h := xif_f c4 h
    refine ev_iconst (v := 0) dX7_widen_9 (by decide) ?_
    refine xv_istore_n (L' := [(2, .int 0), (0, .ref (E.2.2.2 + iC_striking)), (1, .int p0)]) rfl dX7_widen_10 rfl (Nat.le_of_ble_eq_true rfl) rfl ?_
    refine ev_iconst (v := 0) dX7_widen_11 (by decide) ?_
    refine xv_istore_n (L' := [(3, .int 0), (2, .int 0), (0, .ref (E.2.2.2 + iC_striking)), (1, .int p0)]) rfl dX7_widen_12 rfl (Nat.le_of_ble_eq_true rfl) rfl ?_
    obtain ⟨q17, hq17, h⟩ := xbd_some h
    refine ev_sub (L' := [(0, .ref (E.2.2.2 + iC_striking)), (1, .int p0), (2, .int 0), (3, .int 0)]) [2, 3, 1, 0] rfl ?_
    refine xloop_run (fun v => Ev E (xcm E d 0 0 QQ) Y_X7_widen 13 [(0, .ref (E.2.2.2 + iC_striking)), (1, .int p0), (2, .int v.1), (3, .int v.2.1)] [] (xσ v.2.2 R) n 0 0) (fun v => Ev E (xcm E d 0 0 QQ) Y_X7_widen 87 [(2, .int v.1)] [] (xσ v.2 R) n 0 0) ?_ _ _ _ hq17 ?_
    · rintro ⟨x2, x3, μ4⟩ y5 h hk
      replace h : fX7_widen_b13 x2 x3 μ4 p0 = some y5 := h
      show Ev E (xcm E d 0 0 QQ) Y_X7_widen 13 [(0, .ref (E.2.2.2 + iC_striking)), (1, .int p0), (2, .int x2), (3, .int x3)] [] (xσ μ4 R) n 0 0
      unfold fX7_widen_b13 at h
      refine ev_iload_n 3 dX7_widen_13 rfl rfl ?_
      refine ev_bipush (v := 8) dX7_widen_14 (by decide) ?_
      refine ev_icmp_ge (tgt := 87) dX7_widen_16 (by decide) (fun c16 => ?_) (fun c16 => ?_)
      · replace h := xif_t c16 h
        cases h
        replace hk := xel_r hk
        exact ev_sub [2] rfl (hk)
      · replace h := xif_f c16 h
        refine ev_aload_n 0 dX7_widen_19 rfl rfl ?_
        refine ev_iload_n 1 dX7_widen_20 rfl rfl ?_
        refine ev_iload_n 3 dX7_widen_21 rfl rfl ?_
        obtain ⟨q6, hq6, h⟩ := xbd_some h
        refine ev_callV (ci := 7) (rest := []) 2 (kX7_room (E := E) (d := 2) (QQ := (fun v τ n' => v = some (.int q6) ∧ τ = xσ μ4 R ∧ n = n')) (Nat.le_refl _) hF hq6 (⟨rfl, rfl, rfl⟩)) my_X7_room ⟨m_916, m_918, m_21⟩ cl_7 kd_35 (xl hF rfl) rfl rfl (Nat.le_of_ble_eq_true rfl) (Nat.le_trans (by decide) hd) (xlo (by decide) (Nat.le_trans (by decide) hd)) (Nat.zero_le _) (Nat.zero_le _) dX7_widen_22 (fun v τ n' hv => ?_)
        obtain ⟨rfl, rfl, rfl⟩ := hv
        show Ev E (xcm E d 0 0 QQ) Y_X7_widen 25 [(0, .ref (E.2.2.2 + iC_striking)), (1, .int p0), (2, .int x2), (3, .int x3)] [.int q6] (xσ μ4 R) n 0 0
        refine ev_if_le (tgt := 81) dX7_widen_25 (by decide) (fun c25 => ?_) (fun c25 => ?_)
        · replace h := xif_t c25 h
          obtain ⟨x7, hx7, h⟩ := xlt_some h
          refine ev_iinc (L' := [(3, .int x7), (0, .ref (E.2.2.2 + iC_striking)), (1, .int p0), (2, .int x2)]) 3 dX7_widen_81 rfl ((by rfl : x3 + Int32.ofInt 1 = x3 + 1).trans hx7) (Nat.le_of_ble_eq_true rfl) rfl ?_
          refine ev_goto (tgt := 13) dX7_widen_84 (by decide) ?_
          cases h
          replace hk := xel_l hk
          exact ev_sub [1, 2, 3, 0] rfl (hk)
        · replace h := xif_f c25 h
          refine ev_aload_n 0 dX7_widen_28 rfl rfl ?_
          refine xv_getF (a := iC_striking_away) cl_7 lk_RX7_21 kd_35 (xl hF rfl) (fun _ => rfl) (fr_35_3 hF) dX7_widen_29 ?_
          refine ev_iload_n 1 dX7_widen_32 rfl rfl ?_
          obtain ⟨v8, hv8, h⟩ := xbd_some h
          refine xv_iald kd_39 (xl hF rfl) hv8 dX7_widen_33 ?_
          refine ev_aload_n 0 dX7_widen_34 rfl rfl ?_
          refine ev_iload_n 1 dX7_widen_35 rfl rfl ?_
          refine ev_iload_n 3 dX7_widen_36 rfl rfl ?_
          obtain ⟨q9, hq9, h⟩ := xbd_some h
          refine ev_callV (ci := 7) (rest := [.int v8]) 2 (kX7_length (E := E) (d := 2) (QQ := (fun v τ n' => v = some (.int q9) ∧ τ = xσ μ4 R ∧ n = n')) (Nat.le_refl _) hF hq9 (⟨rfl, rfl, rfl⟩)) my_X7_length ⟨m_928, m_930, m_24⟩ cl_7 kd_35 (xl hF rfl) rfl rfl (Nat.le_of_ble_eq_true rfl) (Nat.le_trans (by decide) hd) (xlo (by decide) (Nat.le_trans (by decide) hd)) (Nat.zero_le _) (Nat.zero_le _) dX7_widen_37 (fun v τ n' hv => ?_)
          obtain ⟨rfl, rfl, rfl⟩ := hv
          show Ev E (xcm E d 0 0 QQ) Y_X7_widen 40 [(0, .ref (E.2.2.2 + iC_striking)), (1, .int p0), (2, .int x2), (3, .int x3)] [.int q9, .int v8] (xσ μ4 R) n 0 0
          refine ev_iadd dX7_widen_40 ?_
          refine ev_aload_n 0 dX7_widen_41 rfl rfl ?_
          refine xv_getF (a := iC_striking_away) cl_7 lk_RX7_21 kd_35 (xl hF rfl) (fun _ => rfl) (fr_35_3 hF) dX7_widen_42 ?_
          refine ev_iload_n 3 dX7_widen_45 rfl rfl ?_
          obtain ⟨v10, hv10, h⟩ := xbd_some h
          refine xv_iald kd_39 (xl hF rfl) hv10 dX7_widen_46 ?_
          refine ev_icmp_lt (tgt := 53) dX7_widen_47 (by decide) (fun c47 => ?_) (fun c47 => ?_)
          · replace h := xif_t c47 h
            refine ev_aload_n 0 dX7_widen_53 rfl rfl ?_
            refine xv_getF (a := iC_striking_away) cl_7 lk_RX7_21 kd_35 (xl hF rfl) (fun _ => rfl) (fr_35_3 hF) dX7_widen_54 ?_
            refine ev_iload_n 3 dX7_widen_57 rfl rfl ?_
            refine ev_aload_n 0 dX7_widen_58 rfl rfl ?_
            refine xv_getF (a := iC_striking_away) cl_7 lk_RX7_21 kd_35 (xl hF rfl) (fun _ => rfl) (fr_35_3 hF) dX7_widen_59 ?_
            refine ev_iload_n 1 dX7_widen_62 rfl rfl ?_
            obtain ⟨v11, hv11, h⟩ := xbd_some h
            refine xv_iald kd_39 (xl hF rfl) hv11 dX7_widen_63 ?_
            refine ev_aload_n 0 dX7_widen_64 rfl rfl ?_
            refine ev_iload_n 1 dX7_widen_65 rfl rfl ?_
            refine ev_iload_n 3 dX7_widen_66 rfl rfl ?_
            obtain ⟨q12, hq12, h⟩ := xbd_some h
            refine ev_callV (ci := 7) (rest := [.int v11, .int x3, .ref (E.2.2.2 + iC_striking_away)]) 2 (kX7_length (E := E) (d := 2) (QQ := (fun v τ n' => v = some (.int q12) ∧ τ = xσ μ4 R ∧ n = n')) (Nat.le_refl _) hF hq12 (⟨rfl, rfl, rfl⟩)) my_X7_length ⟨m_928, m_930, m_24⟩ cl_7 kd_35 (xl hF rfl) rfl rfl (Nat.le_of_ble_eq_true rfl) (Nat.le_trans (by decide) hd) (xlo (by decide) (Nat.le_trans (by decide) hd)) (Nat.zero_le _) (Nat.zero_le _) dX7_widen_67 (fun v τ n' hv => ?_)
            obtain ⟨rfl, rfl, rfl⟩ := hv
            show Ev E (xcm E d 0 0 QQ) Y_X7_widen 70 [(0, .ref (E.2.2.2 + iC_striking)), (1, .int p0), (2, .int x2), (3, .int x3)] [.int q12, .int v11, .int x3, .ref (E.2.2.2 + iC_striking_away)] (xσ μ4 R) n 0 0
            refine ev_iadd dX7_widen_70 ?_
            obtain ⟨μ13, hμ13, h⟩ := xbd_some h
            refine xv_iast kd_39 (xl hF rfl) hμ13 dX7_widen_71 ?_
            refine ev_aload_n 0 dX7_widen_72 rfl rfl ?_
            refine xv_getF (a := iC_striking_from) cl_7 lk_RX7_24 kd_35 (xl hF rfl) (fun _ => rfl) (fr_35_4 hF) dX7_widen_73 ?_
            refine ev_iload_n 3 dX7_widen_76 rfl rfl ?_
            refine ev_iload_n 1 dX7_widen_77 rfl rfl ?_
            obtain ⟨μ14, hμ14, h⟩ := xbd_some h
            refine xv_iast kd_40 (xl hF rfl) hμ14 dX7_widen_78 ?_
            refine ev_iconst (v := 1) dX7_widen_79 (by decide) ?_
            refine xv_istore_n (L' := [(2, .int 1), (0, .ref (E.2.2.2 + iC_striking)), (1, .int p0), (3, .int x3)]) rfl dX7_widen_80 rfl (Nat.le_of_ble_eq_true rfl) rfl ?_
            obtain ⟨x15, hx15, h⟩ := xlt_some h
            refine ev_iinc (L' := [(3, .int x15), (2, .int 1), (0, .ref (E.2.2.2 + iC_striking)), (1, .int p0)]) 3 dX7_widen_81 rfl ((by rfl : x3 + Int32.ofInt 1 = x3 + 1).trans hx15) (Nat.le_of_ble_eq_true rfl) rfl ?_
            refine ev_goto (tgt := 13) dX7_widen_84 (by decide) ?_
            cases h
            replace hk := xel_l hk
            exact ev_sub [2, 3, 1, 0] rfl (hk)
          · replace h := xif_f c47 h
            refine ev_goto (tgt := 81) dX7_widen_50 (by decide) ?_
            obtain ⟨x16, hx16, h⟩ := xlt_some h
            refine ev_iinc (L' := [(3, .int x16), (0, .ref (E.2.2.2 + iC_striking)), (1, .int p0), (2, .int x2)]) 3 dX7_widen_81 rfl ((by rfl : x3 + Int32.ofInt 1 = x3 + 1).trans hx16) (Nat.le_of_ble_eq_true rfl) rfl ?_
            refine ev_goto (tgt := 13) dX7_widen_84 (by decide) ?_
            cases h
            replace hk := xel_l hk
            exact ev_sub [1, 2, 3, 0] rfl (hk)
    · show Ev E (xcm E d 0 0 QQ) Y_X7_widen 87 [(2, .int q17.1)] [] (xσ q17.2 R) n 0 0
      refine ev_iload_n 0 dX7_widen_87 rfl rfl ?_
      obtain ⟨z18, hz18, h⟩ := xbd_some h
      obtain ⟨hzz18, hez18⟩ := xz_some hz18
      rw [hez18]
      cases h
      exact ev_zret rfl hzz18 (hQ) dX7_widen_88 (Nat.zero_le _) (Nat.zero_le _)
  · replace h := xif_t c4 h
    refine ev_iconst (v := 0) dX7_widen_7 (by decide) ?_
    cases h
    exact ev_zret rfl (Or.inl rfl) (hQ) dX7_widen_8 (Nat.zero_le _) (Nat.zero_le _)
def fX10_costOfBoth_j71 (x10 : Int64) (p0 : Nat) (p2 : Int32) (p6 : Int32) (μ : xm) (x1 : Int64) (x4 : Int32) (x8 : Int32) (x9 : Int32) : Option ((Int64 × Int64 × Int32 × Int32) ⊕ (Int64)) := xbd (fX10_weightOf p2 x4 μ) fun q11 => xbd (fX10_weightsOf p2 μ) fun q12 => xbd (fX10_costOfComing p0 p2 x8 p6 μ) fun q13 => xlt (x1 + (q11.toInt64 * ((q12.toInt64 * q13) + x10))) fun x14 => xlt (x4 + 1) fun x15 => some (.inl (x14, x10, x9, x15))
def fX10_costOfBoth_b12 (x1 : Int64) (x2 : Int64) (x3 : Int32) (x4 : Int32) (p0 : Nat) (p1 : Nat) (p2 : Int32) (p3 : Int32) (p4 : Int32) (p5 : Int32) (p6 : Int32) (μ : xm) : Option ((Int64 × Int64 × Int32 × Int32) ⊕ (Int64)) := xbd (fX10_endsOf p2 μ) fun q6 => if q6 ≤ x4 then (some (.inr x1)) else (xbd (fX10_takes p2 x4 p5 μ) fun q7 => xlt (p4 + q7) fun x8 => xlt ((xmax x8 (μ.1 p0 1)) + p3) fun x9 => if x9 = x3 then (fX10_costOfBoth_j71 x2 p0 p2 p6 μ x1 x4 x8 x9) else (xbd (fX10_costOfWay p1 p2 x9 p5 p6 μ) fun q16 => fX10_costOfBoth_j71 q16 p0 p2 p6 μ x1 x4 x8 x9))
def fX10_costOfBoth (p0 : Nat) (p1 : Nat) (p2 : Int32) (p3 : Int32) (p4 : Int32) (p5 : Int32) (p6 : Int32) (μ : xm) : Option (Int64) := xbd (xloop xfu (fun v => fX10_costOfBoth_b12 v.1 v.2.1 v.2.2.1 v.2.2.2 p0 p1 p2 p3 p4 p5 p6 μ) (0, 0, (-1), 0)) fun q17 => some q17
set_option maxHeartbeats 4000000 in
set_option maxRecDepth 100000 in
theorem kX10_costOfBoth {E : xE} {d : Nat} {QQ : xP} (hd : 4 ≤ d) {p0 : Nat} {p1 : Nat} {p2 : Int32} {p3 : Int32} {p4 : Int32} {p5 : Int32} {p6 : Int32} {μ : xm} {R : xr} {n : Nat} (hF : xFin R n) (hp0 : xIs 2 p0 n) (hp1 : xIs 2 p1 n) {res : Int64} (h : fX10_costOfBoth p0 p1 p2 p3 p4 p5 p6 μ = some res) (hQ : QQ (some (.long res)) (xσ μ R) n) : xCon E d Y_X10_costOfBoth 0 0 [.ref (E.2.2.2 + iC_ways), .ref (E.2.2.2 + p0), .ref (E.2.2.2 + p1), .int p2, .int p3, .int p4, .int p5, .int p6] (xσ μ R) n QQ := by
  refine xCon_of pn_RX10 (Nat.le_of_ble_eq_true rfl) (L0 := [(0, .ref (E.2.2.2 + iC_ways)), (1, .ref (E.2.2.2 + p0)), (2, .ref (E.2.2.2 + p1)), (3, .int p2), (4, .int p3), (5, .int p4), (6, .int p5), (7, .int p6)]) rfl ?_
  unfold fX10_costOfBoth at h
  refine ev_lconst (v := 0) dX10_costOfBoth_0 (by decide) ?_
  refine xv_lstore (L' := [(8, .long 0), (0, .ref (E.2.2.2 + iC_ways)), (1, .ref (E.2.2.2 + p0)), (2, .ref (E.2.2.2 + p1)), (3, .int p2), (4, .int p3), (5, .int p4), (6, .int p5), (7, .int p6)]) rfl dX10_costOfBoth_1 (Nat.le_of_ble_eq_true rfl) rfl ?_
  refine ev_lconst (v := 0) dX10_costOfBoth_3 (by decide) ?_
  refine xv_lstore (L' := [(10, .long 0), (8, .long 0), (0, .ref (E.2.2.2 + iC_ways)), (1, .ref (E.2.2.2 + p0)), (2, .ref (E.2.2.2 + p1)), (3, .int p2), (4, .int p3), (5, .int p4), (6, .int p5), (7, .int p6)]) rfl dX10_costOfBoth_4 (Nat.le_of_ble_eq_true rfl) rfl ?_
  refine ev_iconst (v := (-1)) dX10_costOfBoth_6 (by decide) ?_
  refine xv_istore (L' := [(12, .int (-1)), (10, .long 0), (8, .long 0), (0, .ref (E.2.2.2 + iC_ways)), (1, .ref (E.2.2.2 + p0)), (2, .ref (E.2.2.2 + p1)), (3, .int p2), (4, .int p3), (5, .int p4), (6, .int p5), (7, .int p6)]) rfl dX10_costOfBoth_7 (Nat.le_of_ble_eq_true rfl) rfl ?_
  refine ev_iconst (v := 0) dX10_costOfBoth_9 (by decide) ?_
  refine xv_istore (L' := [(13, .int 0), (12, .int (-1)), (10, .long 0), (8, .long 0), (0, .ref (E.2.2.2 + iC_ways)), (1, .ref (E.2.2.2 + p0)), (2, .ref (E.2.2.2 + p1)), (3, .int p2), (4, .int p3), (5, .int p4), (6, .int p5), (7, .int p6)]) rfl dX10_costOfBoth_10 (Nat.le_of_ble_eq_true rfl) rfl ?_
  obtain ⟨q17, hq17, h⟩ := xbd_some h
  refine ev_sub (L' := [(0, .ref (E.2.2.2 + iC_ways)), (1, .ref (E.2.2.2 + p0)), (2, .ref (E.2.2.2 + p1)), (3, .int p2), (4, .int p3), (5, .int p4), (6, .int p5), (7, .int p6), (8, .long 0), (10, .long 0), (12, .int (-1)), (13, .int 0)]) [4, 5, 6, 7, 8, 9, 10, 11, 3, 2, 1, 0] rfl ?_
  refine xloop_run (fun v => Ev E (xcm E d 0 0 QQ) Y_X10_costOfBoth 12 [(0, .ref (E.2.2.2 + iC_ways)), (1, .ref (E.2.2.2 + p0)), (2, .ref (E.2.2.2 + p1)), (3, .int p2), (4, .int p3), (5, .int p4), (6, .int p5), (7, .int p6), (8, .long v.1), (10, .long v.2.1), (12, .int v.2.2.1), (13, .int v.2.2.2)] [] (xσ μ R) n 0 0) (fun v => Ev E (xcm E d 0 0 QQ) Y_X10_costOfBoth 115 [(8, .long v)] [] (xσ μ R) n 0 0) ?_ _ _ _ hq17 ?_
  · rintro ⟨x1, x2, x3, x4⟩ y5 h hk
    replace h : fX10_costOfBoth_b12 x1 x2 x3 x4 p0 p1 p2 p3 p4 p5 p6 μ = some y5 := h
    show Ev E (xcm E d 0 0 QQ) Y_X10_costOfBoth 12 [(0, .ref (E.2.2.2 + iC_ways)), (1, .ref (E.2.2.2 + p0)), (2, .ref (E.2.2.2 + p1)), (3, .int p2), (4, .int p3), (5, .int p4), (6, .int p5), (7, .int p6), (8, .long x1), (10, .long x2), (12, .int x3), (13, .int x4)] [] (xσ μ R) n 0 0
    unfold fX10_costOfBoth_b12 at h
    refine ev_iload 11 dX10_costOfBoth_12 rfl ?_
    refine ev_aload_n 0 dX10_costOfBoth_14 rfl rfl ?_
    refine ev_iload_n 3 dX10_costOfBoth_15 rfl rfl ?_
    obtain ⟨q6, hq6, h⟩ := xbd_some h
    refine ev_callV (ci := 10) (rest := [.int x4]) 1 (kX10_endsOf (E := E) (d := 1) (QQ := (fun v τ n' => v = some (.int q6) ∧ τ = xσ μ R ∧ n = n')) (Nat.le_refl _) hF hq6 (⟨rfl, rfl, rfl⟩)) my_X10_endsOf ⟨m_999, m_1000, m_1001⟩ cl_10 kd_42 (xl hF rfl) rfl rfl (Nat.le_of_ble_eq_true rfl) (Nat.le_trans (by decide) hd) (xlo (by decide) (Nat.le_trans (by decide) hd)) (Nat.zero_le _) (Nat.zero_le _) dX10_costOfBoth_16 (fun v τ n' hv => ?_)
    obtain ⟨rfl, rfl, rfl⟩ := hv
    show Ev E (xcm E d 0 0 QQ) Y_X10_costOfBoth 19 [(0, .ref (E.2.2.2 + iC_ways)), (1, .ref (E.2.2.2 + p0)), (2, .ref (E.2.2.2 + p1)), (3, .int p2), (4, .int p3), (5, .int p4), (6, .int p5), (7, .int p6), (8, .long x1), (10, .long x2), (12, .int x3), (13, .int x4)] [.int q6, .int x4] (xσ μ R) n 0 0
    refine ev_icmp_ge (tgt := 115) dX10_costOfBoth_19 (by decide) (fun c19 => ?_) (fun c19 => ?_)
    · replace h := xif_t c19 h
      cases h
      replace hk := xel_r hk
      exact ev_sub [8] rfl (hk)
    · replace h := xif_f c19 h
      refine ev_iload 5 dX10_costOfBoth_22 rfl ?_
      refine ev_aload_n 0 dX10_costOfBoth_24 rfl rfl ?_
      refine ev_iload_n 3 dX10_costOfBoth_25 rfl rfl ?_
      refine ev_iload 11 dX10_costOfBoth_26 rfl ?_
      refine ev_iload 6 dX10_costOfBoth_28 rfl ?_
      obtain ⟨q7, hq7, h⟩ := xbd_some h
      refine ev_callV (ci := 10) (rest := [.int p4]) 3 (kX10_takes (E := E) (d := 1) (QQ := (fun v τ n' => v = some (.int q7) ∧ τ = xσ μ R ∧ n = n')) (Nat.le_refl _) hF hq7 (⟨rfl, rfl, rfl⟩)) my_X10_takes ⟨m_1004, m_1005, m_1006⟩ cl_10 kd_42 (xl hF rfl) rfl rfl (Nat.le_of_ble_eq_true rfl) (Nat.le_trans (by decide) hd) (xlo (by decide) (Nat.le_trans (by decide) hd)) (Nat.zero_le _) (Nat.zero_le _) dX10_costOfBoth_30 (fun v τ n' hv => ?_)
      obtain ⟨rfl, rfl, rfl⟩ := hv
      show Ev E (xcm E d 0 0 QQ) Y_X10_costOfBoth 33 [(0, .ref (E.2.2.2 + iC_ways)), (1, .ref (E.2.2.2 + p0)), (2, .ref (E.2.2.2 + p1)), (3, .int p2), (4, .int p3), (5, .int p4), (6, .int p5), (7, .int p6), (8, .long x1), (10, .long x2), (12, .int x3), (13, .int x4)] [.int q7, .int p4] (xσ μ R) n 0 0
      refine ev_iadd dX10_costOfBoth_33 ?_
      obtain ⟨x8, hx8, h⟩ := xlt_some h
      refine xv_istore (L' := [(14, .int x8), (0, .ref (E.2.2.2 + iC_ways)), (1, .ref (E.2.2.2 + p0)), (2, .ref (E.2.2.2 + p1)), (3, .int p2), (4, .int p3), (5, .int p4), (6, .int p5), (7, .int p6), (8, .long x1), (10, .long x2), (12, .int x3), (13, .int x4)]) hx8 dX10_costOfBoth_34 (Nat.le_of_ble_eq_true rfl) rfl ?_
      refine ev_iload 0 dX10_costOfBoth_36 rfl ?_
      refine ev_aload_n 2 dX10_costOfBoth_38 rfl rfl ?_
      refine xv_getIN cl_2 ln_RX10_93 (xIs2_kd hp0) (xIs2_lt hp0) (fun _ => rfl) dX10_costOfBoth_39 ?_
      refine ev_mmax ⟨m_1003, m_534, m_124, m_535⟩ (Nat.le_trans (by decide) hd) (xlo2 (Nat.le_trans (by decide) hd)) (Nat.le_of_ble_eq_true rfl) (Nat.zero_le _) (Nat.zero_le _) dX10_costOfBoth_42 ?_
      refine ev_iload 5 dX10_costOfBoth_45 rfl ?_
      refine ev_iadd dX10_costOfBoth_47 ?_
      obtain ⟨x9, hx9, h⟩ := xlt_some h
      refine xv_istore (L' := [(15, .int x9), (14, .int x8), (0, .ref (E.2.2.2 + iC_ways)), (1, .ref (E.2.2.2 + p0)), (2, .ref (E.2.2.2 + p1)), (3, .int p2), (4, .int p3), (5, .int p4), (6, .int p5), (7, .int p6), (8, .long x1), (10, .long x2), (12, .int x3), (13, .int x4)]) hx9 dX10_costOfBoth_48 (Nat.le_of_ble_eq_true rfl) rfl ?_
      refine ev_iload 0 dX10_costOfBoth_50 rfl ?_
      refine ev_iload 12 dX10_costOfBoth_52 rfl ?_
      have j71 : ∀ (x10 : Int64), fX10_costOfBoth_j71 x10 p0 p2 p6 μ x1 x4 x8 x9 = some y5 → Ev E (xcm E d 0 0 QQ) Y_X10_costOfBoth 71 [(0, .ref (E.2.2.2 + iC_ways)), (1, .ref (E.2.2.2 + p0)), (2, .ref (E.2.2.2 + p1)), (3, .int p2), (4, .int p3), (5, .int p4), (6, .int p5), (7, .int p6), (8, .long x1), (10, .long x10), (13, .int x4), (14, .int x8), (15, .int x9)] [] (xσ μ R) n 0 0 := by
        intro x10 h
        unfold fX10_costOfBoth_j71 at h
        refine ev_iload 12 dX10_costOfBoth_71 rfl ?_
        refine xv_istore (L' := [(12, .int x9), (0, .ref (E.2.2.2 + iC_ways)), (1, .ref (E.2.2.2 + p0)), (2, .ref (E.2.2.2 + p1)), (3, .int p2), (4, .int p3), (5, .int p4), (6, .int p5), (7, .int p6), (8, .long x1), (10, .long x10), (13, .int x4), (14, .int x8), (15, .int x9)]) rfl dX10_costOfBoth_73 (Nat.le_of_ble_eq_true rfl) rfl ?_
        refine ev_lload 9 dX10_costOfBoth_75 rfl ?_
        refine ev_aload_n 1 dX10_costOfBoth_77 rfl rfl ?_
        refine ev_iload_n 4 dX10_costOfBoth_78 rfl rfl ?_
        refine ev_iload 11 dX10_costOfBoth_79 rfl ?_
        obtain ⟨q11, hq11, h⟩ := xbd_some h
        refine ev_callV (ci := 10) (rest := [.long x1]) 2 (kX10_weightOf (E := E) (d := 1) (QQ := (fun v τ n' => v = some (.int q11) ∧ τ = xσ μ R ∧ n = n')) (Nat.le_refl _) hF hq11 (⟨rfl, rfl, rfl⟩)) my_X10_weightOf ⟨m_1009, m_1010, m_1011⟩ cl_10 kd_42 (xl hF rfl) rfl rfl (Nat.le_of_ble_eq_true rfl) (Nat.le_trans (by decide) hd) (xlo (by decide) (Nat.le_trans (by decide) hd)) (Nat.zero_le _) (Nat.zero_le _) dX10_costOfBoth_81 (fun v τ n' hv => ?_)
        obtain ⟨rfl, rfl, rfl⟩ := hv
        show Ev E (xcm E d 0 0 QQ) Y_X10_costOfBoth 84 [(12, .int x9), (0, .ref (E.2.2.2 + iC_ways)), (1, .ref (E.2.2.2 + p0)), (2, .ref (E.2.2.2 + p1)), (3, .int p2), (4, .int p3), (5, .int p4), (6, .int p5), (7, .int p6), (8, .long x1), (10, .long x10), (13, .int x4), (14, .int x8), (15, .int x9)] [.int q11, .long x1] (xσ μ R) n 0 0
        refine ev_i2l dX10_costOfBoth_84 ?_
        refine ev_aload_n 1 dX10_costOfBoth_85 rfl rfl ?_
        refine ev_iload_n 4 dX10_costOfBoth_86 rfl rfl ?_
        obtain ⟨q12, hq12, h⟩ := xbd_some h
        refine ev_callV (ci := 10) (rest := [.long (q11.toInt64), .long x1]) 1 (kX10_weightsOf (E := E) (d := 1) (QQ := (fun v τ n' => v = some (.int q12) ∧ τ = xσ μ R ∧ n = n')) (Nat.le_refl _) hF hq12 (⟨rfl, rfl, rfl⟩)) my_X10_weightsOf ⟨m_1045, m_1018, m_1019⟩ cl_10 kd_42 (xl hF rfl) rfl rfl (Nat.le_of_ble_eq_true rfl) (Nat.le_trans (by decide) hd) (xlo (by decide) (Nat.le_trans (by decide) hd)) (Nat.zero_le _) (Nat.zero_le _) dX10_costOfBoth_87 (fun v τ n' hv => ?_)
        obtain ⟨rfl, rfl, rfl⟩ := hv
        show Ev E (xcm E d 0 0 QQ) Y_X10_costOfBoth 90 [(12, .int x9), (0, .ref (E.2.2.2 + iC_ways)), (1, .ref (E.2.2.2 + p0)), (2, .ref (E.2.2.2 + p1)), (3, .int p2), (4, .int p3), (5, .int p4), (6, .int p5), (7, .int p6), (8, .long x1), (10, .long x10), (13, .int x4), (14, .int x8), (15, .int x9)] [.int q12, .long (q11.toInt64), .long x1] (xσ μ R) n 0 0
        refine ev_i2l dX10_costOfBoth_90 ?_
        refine ev_aload_n 1 dX10_costOfBoth_91 rfl rfl ?_
        refine ev_aload_n 2 dX10_costOfBoth_92 rfl rfl ?_
        refine ev_iload_n 4 dX10_costOfBoth_93 rfl rfl ?_
        refine ev_iload 12 dX10_costOfBoth_94 rfl ?_
        refine ev_iload 8 dX10_costOfBoth_96 rfl ?_
        obtain ⟨q13, hq13, h⟩ := xbd_some h
        refine ev_callV (ci := 10) (rest := [.long (q12.toInt64), .long (q11.toInt64), .long x1]) 4 (kX10_costOfComing (E := E) (d := 2) (QQ := (fun v τ n' => v = some (.long q13) ∧ τ = xσ μ R ∧ n = n')) (Nat.le_refl _) hF hp0 hq13 (⟨rfl, rfl, rfl⟩)) my_X10_costOfComing ⟨m_1058, m_1060, m_31⟩ cl_10 kd_42 (xl hF rfl) rfl rfl (Nat.le_of_ble_eq_true rfl) (Nat.le_trans (by decide) hd) (xlo (by decide) (Nat.le_trans (by decide) hd)) (Nat.zero_le _) (Nat.zero_le _) dX10_costOfBoth_98 (fun v τ n' hv => ?_)
        obtain ⟨rfl, rfl, rfl⟩ := hv
        show Ev E (xcm E d 0 0 QQ) Y_X10_costOfBoth 101 [(12, .int x9), (0, .ref (E.2.2.2 + iC_ways)), (1, .ref (E.2.2.2 + p0)), (2, .ref (E.2.2.2 + p1)), (3, .int p2), (4, .int p3), (5, .int p4), (6, .int p5), (7, .int p6), (8, .long x1), (10, .long x10), (13, .int x4), (14, .int x8), (15, .int x9)] [.long q13, .long (q12.toInt64), .long (q11.toInt64), .long x1] (xσ μ R) n 0 0
        refine ev_lmul dX10_costOfBoth_101 ?_
        refine ev_lload 10 dX10_costOfBoth_102 rfl ?_
        refine ev_ladd dX10_costOfBoth_104 ?_
        refine ev_lmul dX10_costOfBoth_105 ?_
        refine ev_ladd dX10_costOfBoth_106 ?_
        obtain ⟨x14, hx14, h⟩ := xlt_some h
        refine xv_lstore (L' := [(8, .long x14), (12, .int x9), (0, .ref (E.2.2.2 + iC_ways)), (1, .ref (E.2.2.2 + p0)), (2, .ref (E.2.2.2 + p1)), (3, .int p2), (4, .int p3), (5, .int p4), (6, .int p5), (7, .int p6), (10, .long x10), (13, .int x4), (14, .int x8), (15, .int x9)]) hx14 dX10_costOfBoth_107 (Nat.le_of_ble_eq_true rfl) rfl ?_
        obtain ⟨x15, hx15, h⟩ := xlt_some h
        refine ev_iinc (L' := [(13, .int x15), (8, .long x14), (12, .int x9), (0, .ref (E.2.2.2 + iC_ways)), (1, .ref (E.2.2.2 + p0)), (2, .ref (E.2.2.2 + p1)), (3, .int p2), (4, .int p3), (5, .int p4), (6, .int p5), (7, .int p6), (10, .long x10), (14, .int x8), (15, .int x9)]) 11 dX10_costOfBoth_109 rfl ((by rfl : x4 + Int32.ofInt 1 = x4 + 1).trans hx15) (Nat.le_of_ble_eq_true rfl) rfl ?_
        refine ev_goto (tgt := 12) dX10_costOfBoth_112 (by decide) ?_
        cases h
        replace hk := xel_l hk
        exact ev_sub [3, 4, 5, 6, 7, 8, 9, 10, 1, 11, 2, 0] rfl (hk)
      refine ev_icmp_eq (tgt := 71) dX10_costOfBoth_54 (by decide) (fun c54 => ?_) (fun c54 => ?_)
      · replace h := xif_t c54 h
        exact ev_sub [2, 3, 4, 5, 6, 7, 8, 9, 10, 11, 13, 1, 0] rfl (j71 _ h)
      · replace h := xif_f c54 h
        refine ev_aload_n 2 dX10_costOfBoth_57 rfl rfl ?_
        refine ev_aload_n 4 dX10_costOfBoth_58 rfl rfl ?_
        refine ev_iload_n 5 dX10_costOfBoth_59 rfl rfl ?_
        refine ev_iload 0 dX10_costOfBoth_60 rfl ?_
        refine ev_iload 8 dX10_costOfBoth_62 rfl ?_
        refine ev_iload 9 dX10_costOfBoth_64 rfl ?_
        obtain ⟨q16, hq16, h⟩ := xbd_some h
        refine ev_callV (ci := 10) (rest := []) 5 (kX10_costOfWay (E := E) (d := 3) (QQ := (fun v τ n' => v = some (.long q16) ∧ τ = xσ μ R ∧ n = n')) (Nat.le_refl _) hF hp1 hq16 (⟨rfl, rfl, rfl⟩)) my_X10_costOfWay ⟨m_1054, m_1056, m_30⟩ cl_10 kd_42 (xl hF rfl) rfl rfl (Nat.le_of_ble_eq_true rfl) (Nat.le_trans (by decide) hd) (xlo (by decide) (Nat.le_trans (by decide) hd)) (Nat.zero_le _) (Nat.zero_le _) dX10_costOfBoth_66 (fun v τ n' hv => ?_)
        obtain ⟨rfl, rfl, rfl⟩ := hv
        show Ev E (xcm E d 0 0 QQ) Y_X10_costOfBoth 69 [(15, .int x9), (14, .int x8), (0, .ref (E.2.2.2 + iC_ways)), (1, .ref (E.2.2.2 + p0)), (2, .ref (E.2.2.2 + p1)), (3, .int p2), (4, .int p3), (5, .int p4), (6, .int p5), (7, .int p6), (8, .long x1), (10, .long x2), (12, .int x3), (13, .int x4)] [.long q16] (xσ μ R) n 0 0
        refine xv_lstore (L' := [(10, .long q16), (15, .int x9), (14, .int x8), (0, .ref (E.2.2.2 + iC_ways)), (1, .ref (E.2.2.2 + p0)), (2, .ref (E.2.2.2 + p1)), (3, .int p2), (4, .int p3), (5, .int p4), (6, .int p5), (7, .int p6), (8, .long x1), (12, .int x3), (13, .int x4)]) rfl dX10_costOfBoth_69 (Nat.le_of_ble_eq_true rfl) rfl ?_
        exact ev_sub [3, 4, 5, 6, 7, 8, 9, 10, 11, 0, 13, 2, 1] rfl (j71 _ h)
  · show Ev E (xcm E d 0 0 QQ) Y_X10_costOfBoth 115 [(8, .long q17)] [] (xσ μ R) n 0 0
    refine ev_lload 0 dX10_costOfBoth_115 rfl ?_
    cases h
    exact ev_lret rfl (hQ) dX10_costOfBoth_117 (Nat.zero_le _) (Nat.zero_le _)
def fX10_costOfOne_b6 (x1 : Int64) (x2 : Int32) (p0 : Nat) (p1 : Int32) (p2 : Int32) (p3 : Int32) (μ : xm) : Option ((Int64 × Int32) ⊕ (Int64)) := if 2 ≤ x2 then (some (.inr x1)) else (xbd (fX10_bridgeWeight x2 μ) fun q4 => if q4 ≤ 0 then (xlt (x2 + 1) fun x5 => some (.inl (x1, x5))) else (xbd (fX10_costOfWay p0 p1 ((μ.1 p0 1) - p2) x2 p3 μ) fun q6 => xlt (x1 + (q4.toInt64 * q6)) fun x7 => xlt (x2 + 1) fun x8 => some (.inl (x7, x8))))
def fX10_costOfOne (p0 : Nat) (p1 : Int32) (p2 : Int32) (p3 : Int32) (μ : xm) : Option (Int64) := xbd (xloop xfu (fun v => fX10_costOfOne_b6 v.1 v.2 p0 p1 p2 p3 μ) (0, 0)) fun q9 => some q9
set_option maxHeartbeats 4000000 in
set_option maxRecDepth 100000 in
theorem kX10_costOfOne {E : xE} {d : Nat} {QQ : xP} (hd : 4 ≤ d) {p0 : Nat} {p1 : Int32} {p2 : Int32} {p3 : Int32} {μ : xm} {R : xr} {n : Nat} (hF : xFin R n) (hp0 : xIs 2 p0 n) {res : Int64} (h : fX10_costOfOne p0 p1 p2 p3 μ = some res) (hQ : QQ (some (.long res)) (xσ μ R) n) : xCon E d Y_X10_costOfOne 0 0 [.ref (E.2.2.2 + iC_ways), .ref (E.2.2.2 + p0), .int p1, .int p2, .int p3] (xσ μ R) n QQ := by
  refine xCon_of pn_RX10 (Nat.le_of_ble_eq_true rfl) (L0 := [(0, .ref (E.2.2.2 + iC_ways)), (1, .ref (E.2.2.2 + p0)), (2, .int p1), (3, .int p2), (4, .int p3)]) rfl ?_
  unfold fX10_costOfOne at h
  refine ev_lconst (v := 0) dX10_costOfOne_0 (by decide) ?_
  refine xv_lstore (L' := [(5, .long 0), (0, .ref (E.2.2.2 + iC_ways)), (1, .ref (E.2.2.2 + p0)), (2, .int p1), (3, .int p2), (4, .int p3)]) rfl dX10_costOfOne_1 (Nat.le_of_ble_eq_true rfl) rfl ?_
  refine ev_iconst (v := 0) dX10_costOfOne_3 (by decide) ?_
  refine xv_istore (L' := [(7, .int 0), (5, .long 0), (0, .ref (E.2.2.2 + iC_ways)), (1, .ref (E.2.2.2 + p0)), (2, .int p1), (3, .int p2), (4, .int p3)]) rfl dX10_costOfOne_4 (Nat.le_of_ble_eq_true rfl) rfl ?_
  obtain ⟨q9, hq9, h⟩ := xbd_some h
  refine ev_sub (L' := [(0, .ref (E.2.2.2 + iC_ways)), (1, .ref (E.2.2.2 + p0)), (2, .int p1), (3, .int p2), (4, .int p3), (5, .long 0), (7, .int 0)]) [2, 3, 4, 5, 6, 1, 0] rfl ?_
  refine xloop_run (fun v => Ev E (xcm E d 0 0 QQ) Y_X10_costOfOne 6 [(0, .ref (E.2.2.2 + iC_ways)), (1, .ref (E.2.2.2 + p0)), (2, .int p1), (3, .int p2), (4, .int p3), (5, .long v.1), (7, .int v.2)] [] (xσ μ R) n 0 0) (fun v => Ev E (xcm E d 0 0 QQ) Y_X10_costOfOne 56 [(5, .long v)] [] (xσ μ R) n 0 0) ?_ _ _ _ hq9 ?_
  · rintro ⟨x1, x2⟩ y3 h hk
    replace h : fX10_costOfOne_b6 x1 x2 p0 p1 p2 p3 μ = some y3 := h
    show Ev E (xcm E d 0 0 QQ) Y_X10_costOfOne 6 [(0, .ref (E.2.2.2 + iC_ways)), (1, .ref (E.2.2.2 + p0)), (2, .int p1), (3, .int p2), (4, .int p3), (5, .long x1), (7, .int x2)] [] (xσ μ R) n 0 0
    unfold fX10_costOfOne_b6 at h
    refine ev_iload 6 dX10_costOfOne_6 rfl ?_
    refine ev_iconst (v := 2) dX10_costOfOne_8 (by decide) ?_
    refine ev_icmp_ge (tgt := 56) dX10_costOfOne_9 (by decide) (fun c9 => ?_) (fun c9 => ?_)
    · replace h := xif_t c9 h
      cases h
      replace hk := xel_r hk
      exact ev_sub [5] rfl (hk)
    · replace h := xif_f c9 h
      refine ev_aload_n 0 dX10_costOfOne_12 rfl rfl ?_
      refine ev_iload 6 dX10_costOfOne_13 rfl ?_
      obtain ⟨q4, hq4, h⟩ := xbd_some h
      refine ev_callV (ci := 10) (rest := []) 1 (kX10_bridgeWeight (E := E) (d := 0) (QQ := (fun v τ n' => v = some (.int q4) ∧ τ = xσ μ R ∧ n = n')) (Nat.le_refl _) hF hq4 (⟨rfl, rfl, rfl⟩)) my_X10_bridgeWeight ⟨m_991, m_992, m_993⟩ cl_10 kd_42 (xl hF rfl) rfl rfl (Nat.le_of_ble_eq_true rfl) (Nat.le_trans (by decide) hd) (xlo (by decide) (Nat.le_trans (by decide) hd)) (Nat.zero_le _) (Nat.zero_le _) dX10_costOfOne_15 (fun v τ n' hv => ?_)
      obtain ⟨rfl, rfl, rfl⟩ := hv
      show Ev E (xcm E d 0 0 QQ) Y_X10_costOfOne 18 [(0, .ref (E.2.2.2 + iC_ways)), (1, .ref (E.2.2.2 + p0)), (2, .int p1), (3, .int p2), (4, .int p3), (5, .long x1), (7, .int x2)] [.int q4] (xσ μ R) n 0 0
      refine xv_istore (L' := [(8, .int q4), (0, .ref (E.2.2.2 + iC_ways)), (1, .ref (E.2.2.2 + p0)), (2, .int p1), (3, .int p2), (4, .int p3), (5, .long x1), (7, .int x2)]) rfl dX10_costOfOne_18 (Nat.le_of_ble_eq_true rfl) rfl ?_
      refine ev_iload 0 dX10_costOfOne_20 rfl ?_
      refine ev_if_le (tgt := 50) dX10_costOfOne_22 (by decide) (fun c22 => ?_) (fun c22 => ?_)
      · replace h := xif_t c22 h
        obtain ⟨x5, hx5, h⟩ := xlt_some h
        refine ev_iinc (L' := [(7, .int x5), (8, .int q4), (0, .ref (E.2.2.2 + iC_ways)), (1, .ref (E.2.2.2 + p0)), (2, .int p1), (3, .int p2), (4, .int p3), (5, .long x1)]) 7 dX10_costOfOne_50 rfl ((by rfl : x2 + Int32.ofInt 1 = x2 + 1).trans hx5) (Nat.le_of_ble_eq_true rfl) rfl ?_
        refine ev_goto (tgt := 6) dX10_costOfOne_53 (by decide) ?_
        cases h
        replace hk := xel_l hk
        exact ev_sub [2, 3, 4, 5, 6, 7, 0] rfl (hk)
      · replace h := xif_f c22 h
        refine ev_lload 6 dX10_costOfOne_25 rfl ?_
        refine ev_iload 0 dX10_costOfOne_27 rfl ?_
        refine ev_i2l dX10_costOfOne_29 ?_
        refine ev_aload_n 1 dX10_costOfOne_30 rfl rfl ?_
        refine ev_aload_n 2 dX10_costOfOne_31 rfl rfl ?_
        refine ev_iload_n 3 dX10_costOfOne_32 rfl rfl ?_
        refine ev_aload_n 2 dX10_costOfOne_33 rfl rfl ?_
        refine xv_getIN cl_2 ln_RX10_93 (xIs2_kd hp0) (xIs2_lt hp0) (fun _ => rfl) dX10_costOfOne_34 ?_
        refine ev_iload_n 4 dX10_costOfOne_37 rfl rfl ?_
        refine ev_isub dX10_costOfOne_38 ?_
        refine ev_iload 7 dX10_costOfOne_39 rfl ?_
        refine ev_iload 5 dX10_costOfOne_41 rfl ?_
        obtain ⟨q6, hq6, h⟩ := xbd_some h
        refine ev_callV (ci := 10) (rest := [.long (q4.toInt64), .long x1]) 5 (kX10_costOfWay (E := E) (d := 3) (QQ := (fun v τ n' => v = some (.long q6) ∧ τ = xσ μ R ∧ n = n')) (Nat.le_refl _) hF hp0 hq6 (⟨rfl, rfl, rfl⟩)) my_X10_costOfWay ⟨m_1054, m_1056, m_30⟩ cl_10 kd_42 (xl hF rfl) rfl rfl (Nat.le_of_ble_eq_true rfl) (Nat.le_trans (by decide) hd) (xlo (by decide) (Nat.le_trans (by decide) hd)) (Nat.zero_le _) (Nat.zero_le _) dX10_costOfOne_43 (fun v τ n' hv => ?_)
        obtain ⟨rfl, rfl, rfl⟩ := hv
        show Ev E (xcm E d 0 0 QQ) Y_X10_costOfOne 46 [(8, .int q4), (0, .ref (E.2.2.2 + iC_ways)), (1, .ref (E.2.2.2 + p0)), (2, .int p1), (3, .int p2), (4, .int p3), (5, .long x1), (7, .int x2)] [.long q6, .long (q4.toInt64), .long x1] (xσ μ R) n 0 0
        refine ev_lmul dX10_costOfOne_46 ?_
        refine ev_ladd dX10_costOfOne_47 ?_
        obtain ⟨x7, hx7, h⟩ := xlt_some h
        refine xv_lstore (L' := [(5, .long x7), (8, .int q4), (0, .ref (E.2.2.2 + iC_ways)), (1, .ref (E.2.2.2 + p0)), (2, .int p1), (3, .int p2), (4, .int p3), (7, .int x2)]) hx7 dX10_costOfOne_48 (Nat.le_of_ble_eq_true rfl) rfl ?_
        obtain ⟨x8, hx8, h⟩ := xlt_some h
        refine ev_iinc (L' := [(7, .int x8), (5, .long x7), (8, .int q4), (0, .ref (E.2.2.2 + iC_ways)), (1, .ref (E.2.2.2 + p0)), (2, .int p1), (3, .int p2), (4, .int p3)]) 7 dX10_costOfOne_50 rfl ((by rfl : x2 + Int32.ofInt 1 = x2 + 1).trans hx8) (Nat.le_of_ble_eq_true rfl) rfl ?_
        refine ev_goto (tgt := 6) dX10_costOfOne_53 (by decide) ?_
        cases h
        replace hk := xel_l hk
        exact ev_sub [3, 4, 5, 6, 7, 1, 0] rfl (hk)
  · show Ev E (xcm E d 0 0 QQ) Y_X10_costOfOne 56 [(5, .long q9)] [] (xσ μ R) n 0 0
    refine ev_lload 0 dX10_costOfOne_56 rfl ?_
    cases h
    exact ev_lret rfl (hQ) dX10_costOfOne_58 (Nat.zero_le _) (Nat.zero_le _)
def fX10_lateTogether_b6 (x1 : Int64) (x2 : Int32) (μ3 : xm) (p0 : Int32) (p1 : Int32) (p2 : Int32) : Option ((Int64 × Int32 × xm) ⊕ (Int64 × xm)) := if 2 ≤ x2 then (some (.inr (x1, μ3))) else (xbd (fX10_countLate p0 p1 x2 μ3) fun q5 => if p2 < 0 then (xlt (x2 + 1) fun x6 => some (.inl (x1, x6, q5))) else (if 9 ≤ p2 then (xlt (x2 + 1) fun x7 => some (.inl (x1, x7, q5))) else (xbd (fX10_bridgeWeight x2 q5) fun q8 => xbd (xgJ q5 iC_ways_late 9 p2) fun v9 => xlt (x1 + (q8.toInt64 * v9)) fun x10 => xlt (x2 + 1) fun x11 => some (.inl (x10, x11, q5)))))
def fX10_lateTogether (p0 : Int32) (p1 : Int32) (p2 : Int32) (μ : xm) : Option (Int64 × xm) := xbd (xloop xfu (fun v => fX10_lateTogether_b6 v.1 v.2.1 v.2.2 p0 p1 p2) (0, 0, μ)) fun q12 => some (q12.1, q12.2)
set_option maxHeartbeats 4000000 in
set_option maxRecDepth 100000 in
theorem kX10_lateTogether {E : xE} {d : Nat} {QQ : xP} (hd : 4 ≤ d) {p0 : Int32} {p1 : Int32} {p2 : Int32} {μ : xm} {R : xr} {n : Nat} (hF : xFin R n)  {res : Int64 × xm} (h : fX10_lateTogether p0 p1 p2 μ = some res) (hQ : QQ (some (.long res.1)) (xσ res.2 R) n) : xCon E d Y_X10_lateTogether 0 0 [.ref (E.2.2.2 + iC_ways), .int p0, .int p1, .int p2] (xσ μ R) n QQ := by
  refine xCon_of pn_RX10 (Nat.le_of_ble_eq_true rfl) (L0 := [(0, .ref (E.2.2.2 + iC_ways)), (1, .int p0), (2, .int p1), (3, .int p2)]) rfl ?_
  unfold fX10_lateTogether at h
  refine ev_lconst (v := 0) dX10_lateTogether_0 (by decide) ?_
  refine xv_lstore (L' := [(4, .long 0), (0, .ref (E.2.2.2 + iC_ways)), (1, .int p0), (2, .int p1), (3, .int p2)]) rfl dX10_lateTogether_1 (Nat.le_of_ble_eq_true rfl) rfl ?_
  refine ev_iconst (v := 0) dX10_lateTogether_3 (by decide) ?_
  refine xv_istore (L' := [(6, .int 0), (4, .long 0), (0, .ref (E.2.2.2 + iC_ways)), (1, .int p0), (2, .int p1), (3, .int p2)]) rfl dX10_lateTogether_4 (Nat.le_of_ble_eq_true rfl) rfl ?_
  obtain ⟨q12, hq12, h⟩ := xbd_some h
  refine ev_sub (L' := [(0, .ref (E.2.2.2 + iC_ways)), (1, .int p0), (2, .int p1), (3, .int p2), (4, .long 0), (6, .int 0)]) [2, 3, 4, 5, 1, 0] rfl ?_
  refine xloop_run (fun v => Ev E (xcm E d 0 0 QQ) Y_X10_lateTogether 6 [(0, .ref (E.2.2.2 + iC_ways)), (1, .int p0), (2, .int p1), (3, .int p2), (4, .long v.1), (6, .int v.2.1)] [] (xσ v.2.2 R) n 0 0) (fun v => Ev E (xcm E d 0 0 QQ) Y_X10_lateTogether 58 [(4, .long v.1)] [] (xσ v.2 R) n 0 0) ?_ _ _ _ hq12 ?_
  · rintro ⟨x1, x2, μ3⟩ y4 h hk
    replace h : fX10_lateTogether_b6 x1 x2 μ3 p0 p1 p2 = some y4 := h
    show Ev E (xcm E d 0 0 QQ) Y_X10_lateTogether 6 [(0, .ref (E.2.2.2 + iC_ways)), (1, .int p0), (2, .int p1), (3, .int p2), (4, .long x1), (6, .int x2)] [] (xσ μ3 R) n 0 0
    unfold fX10_lateTogether_b6 at h
    refine ev_iload 5 dX10_lateTogether_6 rfl ?_
    refine ev_iconst (v := 2) dX10_lateTogether_8 (by decide) ?_
    refine ev_icmp_ge (tgt := 58) dX10_lateTogether_9 (by decide) (fun c9 => ?_) (fun c9 => ?_)
    · replace h := xif_t c9 h
      cases h
      replace hk := xel_r hk
      exact ev_sub [4] rfl (hk)
    · replace h := xif_f c9 h
      refine ev_aload_n 0 dX10_lateTogether_12 rfl rfl ?_
      refine ev_iload_n 1 dX10_lateTogether_13 rfl rfl ?_
      refine ev_iload_n 2 dX10_lateTogether_14 rfl rfl ?_
      refine ev_iload 5 dX10_lateTogether_15 rfl ?_
      obtain ⟨q5, hq5, h⟩ := xbd_some h
      refine ev_callV (ci := 10) (rest := []) 3 (kX10_countLate (E := E) (d := 3) (QQ := (fun v τ n' => v = none ∧ τ = xσ q5 R ∧ n = n')) (Nat.le_refl _) hF hq5 (⟨rfl, rfl, rfl⟩)) my_X10_countLate ⟨m_1038, m_1040, m_29⟩ cl_10 kd_42 (xl hF rfl) rfl rfl (Nat.le_of_ble_eq_true rfl) (Nat.le_trans (by decide) hd) (xlo (by decide) (Nat.le_trans (by decide) hd)) (Nat.zero_le _) (Nat.zero_le _) dX10_lateTogether_17 (fun v τ n' hv => ?_)
      obtain ⟨rfl, rfl, rfl⟩ := hv
      show Ev E (xcm E d 0 0 QQ) Y_X10_lateTogether 20 [(0, .ref (E.2.2.2 + iC_ways)), (1, .int p0), (2, .int p1), (3, .int p2), (4, .long x1), (6, .int x2)] [] (xσ q5 R) n 0 0
      refine ev_iload_n 3 dX10_lateTogether_20 rfl rfl ?_
      refine ev_if_lt (tgt := 52) dX10_lateTogether_21 (by decide) (fun c21 => ?_) (fun c21 => ?_)
      · replace h := xif_t c21 h
        obtain ⟨x6, hx6, h⟩ := xlt_some h
        refine ev_iinc (L' := [(6, .int x6), (0, .ref (E.2.2.2 + iC_ways)), (1, .int p0), (2, .int p1), (3, .int p2), (4, .long x1)]) 5 dX10_lateTogether_52 rfl ((by rfl : x2 + Int32.ofInt 1 = x2 + 1).trans hx6) (Nat.le_of_ble_eq_true rfl) rfl ?_
        refine ev_goto (tgt := 6) dX10_lateTogether_55 (by decide) ?_
        cases h
        replace hk := xel_l hk
        exact ev_sub [1, 2, 3, 4, 5, 0] rfl (hk)
      · replace h := xif_f c21 h
        refine ev_iload_n 3 dX10_lateTogether_24 rfl rfl ?_
        refine ev_aload_n 0 dX10_lateTogether_25 rfl rfl ?_
        refine xv_getF (a := iC_ways_late) cl_10 lk_RX10_28 kd_42 (xl hF rfl) (fun _ => rfl) (fr_42_6 hF) dX10_lateTogether_26 ?_
        refine ev_alen (v := 9) 1 (by decide) kd_48 (xl hF rfl) rfl dX10_lateTogether_29 ?_
        refine ev_icmp_ge (tgt := 52) dX10_lateTogether_30 (by decide) (fun c30 => ?_) (fun c30 => ?_)
        · replace h := xif_t c30 h
          obtain ⟨x7, hx7, h⟩ := xlt_some h
          refine ev_iinc (L' := [(6, .int x7), (0, .ref (E.2.2.2 + iC_ways)), (1, .int p0), (2, .int p1), (3, .int p2), (4, .long x1)]) 5 dX10_lateTogether_52 rfl ((by rfl : x2 + Int32.ofInt 1 = x2 + 1).trans hx7) (Nat.le_of_ble_eq_true rfl) rfl ?_
          refine ev_goto (tgt := 6) dX10_lateTogether_55 (by decide) ?_
          cases h
          replace hk := xel_l hk
          exact ev_sub [1, 2, 3, 4, 5, 0] rfl (hk)
        · replace h := xif_f c30 h
          refine ev_lload 4 dX10_lateTogether_33 rfl ?_
          refine ev_aload_n 0 dX10_lateTogether_35 rfl rfl ?_
          refine ev_iload 5 dX10_lateTogether_36 rfl ?_
          obtain ⟨q8, hq8, h⟩ := xbd_some h
          refine ev_callV (ci := 10) (rest := [.long x1]) 1 (kX10_bridgeWeight (E := E) (d := 0) (QQ := (fun v τ n' => v = some (.int q8) ∧ τ = xσ q5 R ∧ n = n')) (Nat.le_refl _) hF hq8 (⟨rfl, rfl, rfl⟩)) my_X10_bridgeWeight ⟨m_991, m_992, m_993⟩ cl_10 kd_42 (xl hF rfl) rfl rfl (Nat.le_of_ble_eq_true rfl) (Nat.le_trans (by decide) hd) (xlo (by decide) (Nat.le_trans (by decide) hd)) (Nat.zero_le _) (Nat.zero_le _) dX10_lateTogether_38 (fun v τ n' hv => ?_)
          obtain ⟨rfl, rfl, rfl⟩ := hv
          show Ev E (xcm E d 0 0 QQ) Y_X10_lateTogether 41 [(0, .ref (E.2.2.2 + iC_ways)), (1, .int p0), (2, .int p1), (3, .int p2), (4, .long x1), (6, .int x2)] [.int q8, .long x1] (xσ q5 R) n 0 0
          refine ev_i2l dX10_lateTogether_41 ?_
          refine ev_aload_n 0 dX10_lateTogether_42 rfl rfl ?_
          refine xv_getF (a := iC_ways_late) cl_10 lk_RX10_28 kd_42 (xl hF rfl) (fun _ => rfl) (fr_42_6 hF) dX10_lateTogether_43 ?_
          refine ev_iload_n 3 dX10_lateTogether_46 rfl rfl ?_
          obtain ⟨v9, hv9, h⟩ := xbd_some h
          refine xv_lald kd_48 (xl hF rfl) hv9 dX10_lateTogether_47 ?_
          refine ev_lmul dX10_lateTogether_48 ?_
          refine ev_ladd dX10_lateTogether_49 ?_
          obtain ⟨x10, hx10, h⟩ := xlt_some h
          refine xv_lstore (L' := [(4, .long x10), (0, .ref (E.2.2.2 + iC_ways)), (1, .int p0), (2, .int p1), (3, .int p2), (6, .int x2)]) hx10 dX10_lateTogether_50 (Nat.le_of_ble_eq_true rfl) rfl ?_
          obtain ⟨x11, hx11, h⟩ := xlt_some h
          refine ev_iinc (L' := [(6, .int x11), (4, .long x10), (0, .ref (E.2.2.2 + iC_ways)), (1, .int p0), (2, .int p1), (3, .int p2)]) 5 dX10_lateTogether_52 rfl ((by rfl : x2 + Int32.ofInt 1 = x2 + 1).trans hx11) (Nat.le_of_ble_eq_true rfl) rfl ?_
          refine ev_goto (tgt := 6) dX10_lateTogether_55 (by decide) ?_
          cases h
          replace hk := xel_l hk
          exact ev_sub [2, 3, 4, 5, 1, 0] rfl (hk)
  · show Ev E (xcm E d 0 0 QQ) Y_X10_lateTogether 58 [(4, .long q12.1)] [] (xσ q12.2 R) n 0 0
    refine ev_lload 0 dX10_lateTogether_58 rfl ?_
    cases h
    exact ev_lret rfl (hQ) dX10_lateTogether_60 (Nat.zero_le _) (Nat.zero_le _)
def fX11_called (p0 : Int32) (p1 : Int32) (μ : xm) : Option (Int64 × xm) := xbd (fX11_isPerson p0) fun q1 => if q1 = 0 then (some ((-1), μ)) else (xbd (fX11_within p1 0 6) fun q2 => if q2 = 0 then (some ((-1), μ)) else (xbd (fX4_callIn p0 p1 (μ.1 iC 8) μ) fun q3 => some (q3.1, q3.2)))
set_option maxHeartbeats 4000000 in
set_option maxRecDepth 100000 in
theorem kX11_called {E : xE} {d : Nat} {QQ : xP} (hd : 4 ≤ d) {p0 : Int32} {p1 : Int32} {μ : xm} {R : xr} {n : Nat} (hF : xFin R n)  {res : Int64 × xm} (h : fX11_called p0 p1 μ = some res) (hQ : QQ (some (.long res.1)) (xσ res.2 R) n) : xCon E d Y_X11_called 0 0 [.ref (E.2.2.2 + iC), .int p0, .int p1] (xσ μ R) n QQ := by
  refine xCon_of pn_RX11 (Nat.le_of_ble_eq_true rfl) (L0 := [(0, .ref (E.2.2.2 + iC)), (1, .int p0), (2, .int p1)]) rfl ?_
  unfold fX11_called at h
  refine ev_iload_n 1 dX11_called_0 rfl rfl ?_
  obtain ⟨q1, hq1, h⟩ := xbd_some h
  refine ev_callS (As := [.int p0]) (rest := []) 1 (kX11_isPerson (E := E) (d := 0) (QQ := (fun v τ n' => v = some (.int q1) ∧ τ = xσ μ R ∧ n = n')) (Nat.le_refl _)  hq1 (⟨rfl, rfl, rfl⟩)) my_X11_isPerson ⟨m_435, m_436⟩ rfl rfl (Nat.le_of_ble_eq_true rfl) (Nat.le_trans (by decide) hd) (xlo (by decide) (Nat.le_trans (by decide) hd)) (Nat.zero_le _) (Nat.zero_le _) dX11_called_1 (fun v τ n' hv => ?_)
  obtain ⟨rfl, rfl, rfl⟩ := hv
  show Ev E (xcm E d 0 0 QQ) Y_X11_called 4 [(0, .ref (E.2.2.2 + iC)), (1, .int p0), (2, .int p1)] [.int q1] (xσ μ R) n 0 0
  refine ev_if_eq (tgt := 17) dX11_called_4 (by decide) (fun c4 => ?_) (fun c4 => ?_)
  · replace h := xif_t c4 h
    refine ev_ldc2 (v := (-1)) m_875 dX11_called_17 ?_
    cases h
    exact ev_lret rfl (hQ) dX11_called_20 (Nat.zero_le _) (Nat.zero_le _)
  · replace h := xif_f c4 h
    refine ev_iload_n 2 dX11_called_7 rfl rfl ?_
    refine ev_iconst (v := 0) dX11_called_8 (by decide) ?_
    refine ev_bipush (v := 6) dX11_called_9 (by decide) ?_
    obtain ⟨q2, hq2, h⟩ := xbd_some h
    refine ev_callS (As := [.int p1, .int 0, .int 6]) (rest := []) 3 (kX11_within (E := E) (d := 0) (QQ := (fun v τ n' => v = some (.int q2) ∧ τ = xσ μ R ∧ n = n')) (Nat.le_refl _)  hq2 (⟨rfl, rfl, rfl⟩)) my_X11_within ⟨m_424, m_425⟩ rfl rfl (Nat.le_of_ble_eq_true rfl) (Nat.le_trans (by decide) hd) (xlo (by decide) (Nat.le_trans (by decide) hd)) (Nat.zero_le _) (Nat.zero_le _) dX11_called_11 (fun v τ n' hv => ?_)
    obtain ⟨rfl, rfl, rfl⟩ := hv
    show Ev E (xcm E d 0 0 QQ) Y_X11_called 14 [(0, .ref (E.2.2.2 + iC)), (1, .int p0), (2, .int p1)] [.int q2] (xσ μ R) n 0 0
    refine ev_if_ne (tgt := 21) dX11_called_14 (by decide) (fun c14 => ?_) (fun c14 => ?_)
    · replace h := xif_f c14 h
      refine ev_aload_n 0 dX11_called_21 rfl rfl ?_
      refine xv_getF (a := iC_notes) cl_11 lk_RX11_42 kd_0 (xl hF rfl) (fun _ => rfl) (fr_0_4 hF) dX11_called_22 ?_
      refine ev_iload_n 1 dX11_called_25 rfl rfl ?_
      refine ev_iload_n 2 dX11_called_26 rfl rfl ?_
      refine ev_aload_n 0 dX11_called_27 rfl rfl ?_
      refine xv_getI cl_11 lk_RX11_69 kd_0 (xl hF rfl) (fun _ => rfl) dX11_called_28 ?_
      refine ev_aload_n 0 dX11_called_31 rfl rfl ?_
      refine xv_getF (a := iC_people) cl_11 lk_RX11_26 kd_0 (xl hF rfl) (fun _ => rfl) (fr_0_2 hF) dX11_called_32 ?_
      obtain ⟨q3, hq3, h⟩ := xbd_some h
      refine ev_callV (ci := 4) (rest := []) 4 (kX4_callIn (E := E) (d := 3) (QQ := (fun v τ n' => v = some (.long q3.1) ∧ τ = xσ q3.2 R ∧ n = n')) (Nat.le_refl _) hF hq3 (⟨rfl, rfl, rfl⟩)) my_X4_callIn ⟨m_876, m_877, m_878⟩ cl_4 kd_28 (xl hF rfl) rfl rfl (Nat.le_of_ble_eq_true rfl) (Nat.le_trans (by decide) hd) (xlo (by decide) (Nat.le_trans (by decide) hd)) (Nat.zero_le _) (Nat.zero_le _) dX11_called_35 (fun v τ n' hv => ?_)
      obtain ⟨rfl, rfl, rfl⟩ := hv
      show Ev E (xcm E d 0 0 QQ) Y_X11_called 38 [(0, .ref (E.2.2.2 + iC)), (1, .int p0), (2, .int p1)] [.long q3.1] (xσ q3.2 R) n 0 0
      cases h
      exact ev_lret rfl (hQ) dX11_called_38 (Nat.zero_le _) (Nat.zero_le _)
    · replace h := xif_t c14 h
      refine ev_ldc2 (v := (-1)) m_875 dX11_called_17 ?_
      cases h
      exact ev_lret rfl (hQ) dX11_called_20 (Nat.zero_le _) (Nat.zero_le _)
def fX11_draw (p0 : Int32) (p1 : Int32) (μ : xm) (R : xr) : Option (Int32 × xm) := xbd (fX3_find p0 μ R) fun q1 => xop q1 (some ((-1), μ)) (fun a2 => xbd (fX2_isSettled a2 μ) fun q3 => if q3 = 0 then (xbd (fX11_within p1 0 600) fun q4 => if q4 = 0 then (some ((-1), μ)) else (xbd (fX10_drawComings a2 p1 μ) fun q5 => some (q5.1, q5.2))) else (some ((-1), μ)))
set_option maxHeartbeats 4000000 in
set_option maxRecDepth 100000 in
theorem kX11_draw {E : xE} {d : Nat} {QQ : xP} (hd : 4 ≤ d) {p0 : Int32} {p1 : Int32} {μ : xm} {R : xr} {n : Nat} (hF : xFin R n)  {res : Int32 × xm} (h : fX11_draw p0 p1 μ R = some res) (hQ : QQ (some (.int res.1)) (xσ res.2 R) n) : xCon E d Y_X11_draw 0 0 [.ref (E.2.2.2 + iC), .int p0, .int p1] (xσ μ R) n QQ := by
  refine xCon_of pn_RX11 (Nat.le_of_ble_eq_true rfl) (L0 := [(0, .ref (E.2.2.2 + iC)), (1, .int p0), (2, .int p1)]) rfl ?_
  unfold fX11_draw at h
  refine ev_aload_n 0 dX11_draw_0 rfl rfl ?_
  refine xv_getF (a := iC_meetings) cl_11 lk_RX11_35 kd_0 (xl hF rfl) (fun _ => rfl) (fr_0_3 hF) dX11_draw_1 ?_
  refine ev_iload_n 1 dX11_draw_4 rfl rfl ?_
  obtain ⟨q1, hq1, h⟩ := xbd_some h
  refine ev_callV (ci := 3) (rest := []) 1 (kX3_find (E := E) (d := 0) (QQ := (fun v τ n' => v = some (xrf E.2.2.2 q1) ∧ τ = xσ μ R ∧ n = n' ∧ (∀ a, q1 = some a → xIs 2 a n))) (Nat.le_refl _) hF hq1 (fun z0 => ⟨rfl, rfl, rfl, z0⟩)) my_X3_find ⟨m_491, m_492, m_493⟩ cl_3 kd_23 (xl hF rfl) rfl rfl (Nat.le_of_ble_eq_true rfl) (Nat.le_trans (by decide) hd) (xlo (by decide) (Nat.le_trans (by decide) hd)) (Nat.zero_le _) (Nat.zero_le _) dX11_draw_5 (fun v τ n' hv => ?_)
  obtain ⟨rfl, rfl, rfl, hvq1⟩ := hv
  show Ev E (xcm E d 0 0 QQ) Y_X11_draw 8 [(0, .ref (E.2.2.2 + iC)), (1, .int p0), (2, .int p1)] [xrf E.2.2.2 q1] (xσ μ R) n 0 0
  refine xv_astore_n (r := q1) (L' := [(3, xrf E.2.2.2 q1), (0, .ref (E.2.2.2 + iC)), (1, .int p0), (2, .int p1)]) dX11_draw_8 rfl (Nat.le_of_ble_eq_true rfl) rfl ?_
  refine xv_aload_n (r := q1) 0 dX11_draw_9 rfl rfl ?_
  refine ev_ifnull (r := q1) (tgt := 31) dX11_draw_10 (by decide) (fun hr => ?_) (fun a2 hr => ?_)
  · subst hr
    replace h := xop_n h
    refine ev_iconst (v := (-1)) dX11_draw_31 (by decide) ?_
    cases h
    exact ev_iret rfl (hQ) dX11_draw_32 (Nat.zero_le _) (Nat.zero_le _)
  · subst hr
    replace h := xop_s h
    have ha2 := hvq1 a2 rfl
    refine ev_aload_n 0 dX11_draw_13 rfl rfl ?_
    obtain ⟨q3, hq3, h⟩ := xbd_some h
    refine ev_callV (ci := 2) (rest := []) 0 (kX2_isSettled (E := E) (d := 0) (QQ := (fun v τ n' => v = some (.int q3) ∧ τ = xσ μ R ∧ n = n')) (Nat.le_refl _) hF ha2 hq3 (⟨rfl, rfl, rfl⟩)) my_X2_isSettled ⟨m_495, m_496, m_497⟩ cl_2 (xIs2_kd ha2) (xIs2_lt ha2) rfl rfl (Nat.le_of_ble_eq_true rfl) (Nat.le_trans (by decide) hd) (xlo (by decide) (Nat.le_trans (by decide) hd)) (Nat.zero_le _) (Nat.zero_le _) dX11_draw_14 (fun v τ n' hv => ?_)
    obtain ⟨rfl, rfl, rfl⟩ := hv
    show Ev E (xcm E d 0 0 QQ) Y_X11_draw 17 [(3, .ref (E.2.2.2 + a2)), (0, .ref (E.2.2.2 + iC)), (1, .int p0), (2, .int p1)] [.int q3] (xσ μ R) n 0 0
    refine ev_if_ne (tgt := 31) dX11_draw_17 (by decide) (fun c17 => ?_) (fun c17 => ?_)
    · replace h := xif_f c17 h
      refine ev_iconst (v := (-1)) dX11_draw_31 (by decide) ?_
      cases h
      exact ev_iret rfl (hQ) dX11_draw_32 (Nat.zero_le _) (Nat.zero_le _)
    · replace h := xif_t c17 h
      refine ev_iload_n 3 dX11_draw_20 rfl rfl ?_
      refine ev_iconst (v := 0) dX11_draw_21 (by decide) ?_
      refine ev_sipush (v := 600) dX11_draw_22 (by decide) ?_
      obtain ⟨q4, hq4, h⟩ := xbd_some h
      refine ev_callS (As := [.int p1, .int 0, .int 600]) (rest := []) 3 (kX11_within (E := E) (d := 0) (QQ := (fun v τ n' => v = some (.int q4) ∧ τ = xσ μ R ∧ n = n')) (Nat.le_refl _)  hq4 (⟨rfl, rfl, rfl⟩)) my_X11_within ⟨m_424, m_425⟩ rfl rfl (Nat.le_of_ble_eq_true rfl) (Nat.le_trans (by decide) hd) (xlo (by decide) (Nat.le_trans (by decide) hd)) (Nat.zero_le _) (Nat.zero_le _) dX11_draw_25 (fun v τ n' hv => ?_)
      obtain ⟨rfl, rfl, rfl⟩ := hv
      show Ev E (xcm E d 0 0 QQ) Y_X11_draw 28 [(3, .ref (E.2.2.2 + a2)), (0, .ref (E.2.2.2 + iC)), (1, .int p0), (2, .int p1)] [.int q4] (xσ μ R) n 0 0
      refine ev_if_ne (tgt := 33) dX11_draw_28 (by decide) (fun c28 => ?_) (fun c28 => ?_)
      · replace h := xif_f c28 h
        refine ev_aload_n 1 dX11_draw_33 rfl rfl ?_
        refine xv_getF (a := iC_ways) cl_11 lk_RX11_56 kd_0 (xl hF rfl) (fun _ => rfl) (fr_0_6 hF) dX11_draw_34 ?_
        refine ev_aload_n 0 dX11_draw_37 rfl rfl ?_
        refine ev_iload_n 3 dX11_draw_38 rfl rfl ?_
        obtain ⟨q5, hq5, h⟩ := xbd_some h
        refine ev_callV (ci := 10) (rest := []) 2 (kX10_drawComings (E := E) (d := 3) (QQ := (fun v τ n' => v = some (.int q5.1) ∧ τ = xσ q5.2 R ∧ n = n')) (Nat.le_refl _) hF ha2 hq5 (⟨rfl, rfl, rfl⟩)) my_X10_drawComings ⟨m_1187, m_1188, m_1189⟩ cl_10 kd_42 (xl hF rfl) rfl rfl (Nat.le_of_ble_eq_true rfl) (Nat.le_trans (by decide) hd) (xlo (by decide) (Nat.le_trans (by decide) hd)) (Nat.zero_le _) (Nat.zero_le _) dX11_draw_39 (fun v τ n' hv => ?_)
        obtain ⟨rfl, rfl, rfl⟩ := hv
        show Ev E (xcm E d 0 0 QQ) Y_X11_draw 42 [(3, .ref (E.2.2.2 + a2)), (0, .ref (E.2.2.2 + iC)), (1, .int p0), (2, .int p1)] [.int q5.1] (xσ q5.2 R) n 0 0
        cases h
        exact ev_iret rfl (hQ) dX11_draw_42 (Nat.zero_le _) (Nat.zero_le _)
      · replace h := xif_t c28 h
        refine ev_iconst (v := (-1)) dX11_draw_31 (by decide) ?_
        cases h
        exact ev_iret rfl (hQ) dX11_draw_32 (Nat.zero_le _) (Nat.zero_le _)
def fX11_kept (p0 : Int32) (p1 : Int32) (p2 : Int32) (μ : xm) (R : xr) : Option (Int32) := xbd (fX3_find p0 μ R) fun q1 => xop q1 (some (-1)) (fun a2 => xbd (fX2_comingOf a2 p1 μ) fun q3 => if q3 = (-1) then (some (-1)) else (xbd (fX11_within p2 0 1) fun q4 => if q4 = 0 then (some (-1)) else (xbd (fX3_keptBy p0 p1 μ R) fun q5 => if q5 = (-1) then (some (-2)) else (if p2 = 0 then (some q5) else (xbd (fX3_keeperAt q5 μ R) fun q6 => some q6)))))
set_option maxHeartbeats 4000000 in
set_option maxRecDepth 100000 in
theorem kX11_kept {E : xE} {d : Nat} {QQ : xP} (hd : 4 ≤ d) {p0 : Int32} {p1 : Int32} {p2 : Int32} {μ : xm} {R : xr} {n : Nat} (hF : xFin R n)  {res : Int32} (h : fX11_kept p0 p1 p2 μ R = some res) (hQ : QQ (some (.int res)) (xσ μ R) n) : xCon E d Y_X11_kept 0 0 [.ref (E.2.2.2 + iC), .int p0, .int p1, .int p2] (xσ μ R) n QQ := by
  refine xCon_of pn_RX11 (Nat.le_of_ble_eq_true rfl) (L0 := [(0, .ref (E.2.2.2 + iC)), (1, .int p0), (2, .int p1), (3, .int p2)]) rfl ?_
  unfold fX11_kept at h
  refine ev_aload_n 0 dX11_kept_0 rfl rfl ?_
  refine xv_getF (a := iC_meetings) cl_11 lk_RX11_35 kd_0 (xl hF rfl) (fun _ => rfl) (fr_0_3 hF) dX11_kept_1 ?_
  refine ev_iload_n 1 dX11_kept_4 rfl rfl ?_
  obtain ⟨q1, hq1, h⟩ := xbd_some h
  refine ev_callV (ci := 3) (rest := []) 1 (kX3_find (E := E) (d := 0) (QQ := (fun v τ n' => v = some (xrf E.2.2.2 q1) ∧ τ = xσ μ R ∧ n = n' ∧ (∀ a, q1 = some a → xIs 2 a n))) (Nat.le_refl _) hF hq1 (fun z0 => ⟨rfl, rfl, rfl, z0⟩)) my_X3_find ⟨m_491, m_492, m_493⟩ cl_3 kd_23 (xl hF rfl) rfl rfl (Nat.le_of_ble_eq_true rfl) (Nat.le_trans (by decide) hd) (xlo (by decide) (Nat.le_trans (by decide) hd)) (Nat.zero_le _) (Nat.zero_le _) dX11_kept_5 (fun v τ n' hv => ?_)
  obtain ⟨rfl, rfl, rfl, hvq1⟩ := hv
  show Ev E (xcm E d 0 0 QQ) Y_X11_kept 8 [(0, .ref (E.2.2.2 + iC)), (1, .int p0), (2, .int p1), (3, .int p2)] [xrf E.2.2.2 q1] (xσ μ R) n 0 0
  refine xv_astore (r := q1) (L' := [(4, xrf E.2.2.2 q1), (0, .ref (E.2.2.2 + iC)), (1, .int p0), (2, .int p1), (3, .int p2)]) dX11_kept_8 (Nat.le_of_ble_eq_true rfl) rfl ?_
  refine xv_aload (r := q1) 0 dX11_kept_10 rfl ?_
  refine ev_ifnull (r := q1) (tgt := 34) dX11_kept_12 (by decide) (fun hr => ?_) (fun a2 hr => ?_)
  · subst hr
    replace h := xop_n h
    refine ev_iconst (v := (-1)) dX11_kept_34 (by decide) ?_
    cases h
    exact ev_iret rfl (hQ) dX11_kept_35 (Nat.zero_le _) (Nat.zero_le _)
  · subst hr
    replace h := xop_s h
    have ha2 := hvq1 a2 rfl
    refine ev_aload 0 dX11_kept_15 rfl ?_
    refine ev_iload_n 3 dX11_kept_17 rfl rfl ?_
    obtain ⟨q3, hq3, h⟩ := xbd_some h
    refine ev_callV (ci := 2) (rest := []) 1 (kX2_comingOf (E := E) (d := 1) (QQ := (fun v τ n' => v = some (.int q3) ∧ τ = xσ μ R ∧ n = n')) (Nat.le_refl _) hF ha2 hq3 (⟨rfl, rfl, rfl⟩)) my_X2_comingOf ⟨m_631, m_632, m_633⟩ cl_2 (xIs2_kd ha2) (xIs2_lt ha2) rfl rfl (Nat.le_of_ble_eq_true rfl) (Nat.le_trans (by decide) hd) (xlo (by decide) (Nat.le_trans (by decide) hd)) (Nat.zero_le _) (Nat.zero_le _) dX11_kept_18 (fun v τ n' hv => ?_)
    obtain ⟨rfl, rfl, rfl⟩ := hv
    show Ev E (xcm E d 0 0 QQ) Y_X11_kept 21 [(4, .ref (E.2.2.2 + a2)), (0, .ref (E.2.2.2 + iC)), (1, .int p0), (2, .int p1), (3, .int p2)] [.int q3] (xσ μ R) n 0 0
    refine ev_iconst (v := (-1)) dX11_kept_21 (by decide) ?_
    refine ev_icmp_eq (tgt := 34) dX11_kept_22 (by decide) (fun c22 => ?_) (fun c22 => ?_)
    · replace h := xif_t c22 h
      refine ev_iconst (v := (-1)) dX11_kept_34 (by decide) ?_
      cases h
      exact ev_iret rfl (hQ) dX11_kept_35 (Nat.zero_le _) (Nat.zero_le _)
    · replace h := xif_f c22 h
      refine ev_iload_n 4 dX11_kept_25 rfl rfl ?_
      refine ev_iconst (v := 0) dX11_kept_26 (by decide) ?_
      refine ev_iconst (v := 1) dX11_kept_27 (by decide) ?_
      obtain ⟨q4, hq4, h⟩ := xbd_some h
      refine ev_callS (As := [.int p2, .int 0, .int 1]) (rest := []) 3 (kX11_within (E := E) (d := 0) (QQ := (fun v τ n' => v = some (.int q4) ∧ τ = xσ μ R ∧ n = n')) (Nat.le_refl _)  hq4 (⟨rfl, rfl, rfl⟩)) my_X11_within ⟨m_424, m_425⟩ rfl rfl (Nat.le_of_ble_eq_true rfl) (Nat.le_trans (by decide) hd) (xlo (by decide) (Nat.le_trans (by decide) hd)) (Nat.zero_le _) (Nat.zero_le _) dX11_kept_28 (fun v τ n' hv => ?_)
      obtain ⟨rfl, rfl, rfl⟩ := hv
      show Ev E (xcm E d 0 0 QQ) Y_X11_kept 31 [(4, .ref (E.2.2.2 + a2)), (0, .ref (E.2.2.2 + iC)), (1, .int p0), (2, .int p1), (3, .int p2)] [.int q4] (xσ μ R) n 0 0
      refine ev_if_ne (tgt := 36) dX11_kept_31 (by decide) (fun c31 => ?_) (fun c31 => ?_)
      · replace h := xif_f c31 h
        refine ev_aload_n 1 dX11_kept_36 rfl rfl ?_
        refine xv_getF (a := iC_meetings) cl_11 lk_RX11_35 kd_0 (xl hF rfl) (fun _ => rfl) (fr_0_3 hF) dX11_kept_37 ?_
        refine ev_iload_n 2 dX11_kept_40 rfl rfl ?_
        refine ev_iload_n 3 dX11_kept_41 rfl rfl ?_
        obtain ⟨q5, hq5, h⟩ := xbd_some h
        refine ev_callV (ci := 3) (rest := []) 2 (kX3_keptBy (E := E) (d := 3) (QQ := (fun v τ n' => v = some (.int q5) ∧ τ = xσ μ R ∧ n = n')) (Nat.le_refl _) hF hq5 (⟨rfl, rfl, rfl⟩)) my_X3_keptBy ⟨m_644, m_645, m_646⟩ cl_3 kd_23 (xl hF rfl) rfl rfl (Nat.le_of_ble_eq_true rfl) (Nat.le_trans (by decide) hd) (xlo (by decide) (Nat.le_trans (by decide) hd)) (Nat.zero_le _) (Nat.zero_le _) dX11_kept_42 (fun v τ n' hv => ?_)
        obtain ⟨rfl, rfl, rfl⟩ := hv
        show Ev E (xcm E d 0 0 QQ) Y_X11_kept 45 [(4, .ref (E.2.2.2 + a2)), (0, .ref (E.2.2.2 + iC)), (1, .int p0), (2, .int p1), (3, .int p2)] [.int q5] (xσ μ R) n 0 0
        refine xv_istore (L' := [(5, .int q5), (4, .ref (E.2.2.2 + a2)), (0, .ref (E.2.2.2 + iC)), (1, .int p0), (2, .int p1), (3, .int p2)]) rfl dX11_kept_45 (Nat.le_of_ble_eq_true rfl) rfl ?_
        refine ev_iload 0 dX11_kept_47 rfl ?_
        refine ev_iconst (v := (-1)) dX11_kept_49 (by decide) ?_
        refine ev_icmp_ne (tgt := 56) dX11_kept_50 (by decide) (fun c50 => ?_) (fun c50 => ?_)
        · replace h := xif_f c50 h
          refine ev_iload_n 5 dX11_kept_56 rfl rfl ?_
          refine ev_if_ne (tgt := 65) dX11_kept_57 (by decide) (fun c57 => ?_) (fun c57 => ?_)
          · replace h := xif_f c57 h
            refine ev_aload_n 2 dX11_kept_65 rfl rfl ?_
            refine xv_getF (a := iC_meetings) cl_11 lk_RX11_35 kd_0 (xl hF rfl) (fun _ => rfl) (fr_0_3 hF) dX11_kept_66 ?_
            refine ev_iload 0 dX11_kept_69 rfl ?_
            obtain ⟨q6, hq6, h⟩ := xbd_some h
            refine ev_callV (ci := 3) (rest := []) 1 (kX3_keeperAt (E := E) (d := 2) (QQ := (fun v τ n' => v = some (.int q6) ∧ τ = xσ μ R ∧ n = n')) (Nat.le_refl _) hF hq6 (⟨rfl, rfl, rfl⟩)) my_X3_keeperAt ⟨m_663, m_664, m_665⟩ cl_3 kd_23 (xl hF rfl) rfl rfl (Nat.le_of_ble_eq_true rfl) (Nat.le_trans (by decide) hd) (xlo (by decide) (Nat.le_trans (by decide) hd)) (Nat.zero_le _) (Nat.zero_le _) dX11_kept_71 (fun v τ n' hv => ?_)
            obtain ⟨rfl, rfl, rfl⟩ := hv
            show Ev E (xcm E d 0 0 QQ) Y_X11_kept 74 [(5, .int q5), (4, .ref (E.2.2.2 + a2)), (0, .ref (E.2.2.2 + iC)), (1, .int p0), (2, .int p1), (3, .int p2)] [.int q6] (xσ μ R) n 0 0
            cases h
            exact ev_iret rfl (hQ) dX11_kept_74 (Nat.zero_le _) (Nat.zero_le _)
          · replace h := xif_t c57 h
            refine ev_iload 0 dX11_kept_60 rfl ?_
            refine ev_goto (tgt := 74) dX11_kept_62 (by decide) ?_
            cases h
            exact ev_iret rfl (hQ) dX11_kept_74 (Nat.zero_le _) (Nat.zero_le _)
        · replace h := xif_t c50 h
          refine ev_bipush (v := (-2)) dX11_kept_53 (by decide) ?_
          cases h
          exact ev_iret rfl (hQ) dX11_kept_55 (Nat.zero_le _) (Nat.zero_le _)
      · replace h := xif_t c31 h
        refine ev_iconst (v := (-1)) dX11_kept_34 (by decide) ?_
        cases h
        exact ev_iret rfl (hQ) dX11_kept_35 (Nat.zero_le _) (Nat.zero_le _)
def fX11_lateIf_j69 (x8 : Int32) (q4 : Int32) (x7 : Int32) : Option (Int32) := xbd (fX11_commonDivisor q4 x7) fun q9 => xbd (fX11_whole x8 q9) fun q10 => some q10
def fX11_lateIf (p0 : Int32) (p1 : Int32) (p2 : Int32) (μ : xm) : Option (Int32) := xbd (fX11_isPerson p0) fun q1 => if q1 = 0 then (some (-1)) else (xbd (fX11_within p1 0 600) fun q2 => if q2 = 0 then (some (-1)) else (xbd (fX11_within p2 0 1) fun q3 => if q3 = 0 then (some (-1)) else (xbd (fX10_lateWeights p0 p1 μ) fun q4 => xbd (fX10_allOfBridge μ) fun q5 => xbd (fX10_weightsOf p0 μ) fun q6 => xlt (q5 * q6) fun x7 => if p2 = 0 then (fX11_lateIf_j69 q4 q4 x7) else (fX11_lateIf_j69 x7 q4 x7))))
set_option maxHeartbeats 4000000 in
set_option maxRecDepth 100000 in
theorem kX11_lateIf {E : xE} {d : Nat} {QQ : xP} (hd : 4 ≤ d) {p0 : Int32} {p1 : Int32} {p2 : Int32} {μ : xm} {R : xr} {n : Nat} (hF : xFin R n)  {res : Int32} (h : fX11_lateIf p0 p1 p2 μ = some res) (hQ : QQ (some (.int res)) (xσ μ R) n) : xCon E d Y_X11_lateIf 0 0 [.ref (E.2.2.2 + iC), .int p0, .int p1, .int p2] (xσ μ R) n QQ := by
  refine xCon_of pn_RX11 (Nat.le_of_ble_eq_true rfl) (L0 := [(0, .ref (E.2.2.2 + iC)), (1, .int p0), (2, .int p1), (3, .int p2)]) rfl ?_
  unfold fX11_lateIf at h
  refine ev_iload_n 1 dX11_lateIf_0 rfl rfl ?_
  obtain ⟨q1, hq1, h⟩ := xbd_some h
  refine ev_callS (As := [.int p0]) (rest := []) 1 (kX11_isPerson (E := E) (d := 0) (QQ := (fun v τ n' => v = some (.int q1) ∧ τ = xσ μ R ∧ n = n')) (Nat.le_refl _)  hq1 (⟨rfl, rfl, rfl⟩)) my_X11_isPerson ⟨m_435, m_436⟩ rfl rfl (Nat.le_of_ble_eq_true rfl) (Nat.le_trans (by decide) hd) (xlo (by decide) (Nat.le_trans (by decide) hd)) (Nat.zero_le _) (Nat.zero_le _) dX11_lateIf_1 (fun v τ n' hv => ?_)
  obtain ⟨rfl, rfl, rfl⟩ := hv
  show Ev E (xcm E d 0 0 QQ) Y_X11_lateIf 4 [(0, .ref (E.2.2.2 + iC)), (1, .int p0), (2, .int p1), (3, .int p2)] [.int q1] (xσ μ R) n 0 0
  refine ev_if_eq (tgt := 27) dX11_lateIf_4 (by decide) (fun c4 => ?_) (fun c4 => ?_)
  · replace h := xif_t c4 h
    refine ev_iconst (v := (-1)) dX11_lateIf_27 (by decide) ?_
    cases h
    exact ev_iret rfl (hQ) dX11_lateIf_28 (Nat.zero_le _) (Nat.zero_le _)
  · replace h := xif_f c4 h
    refine ev_iload_n 2 dX11_lateIf_7 rfl rfl ?_
    refine ev_iconst (v := 0) dX11_lateIf_8 (by decide) ?_
    refine ev_sipush (v := 600) dX11_lateIf_9 (by decide) ?_
    obtain ⟨q2, hq2, h⟩ := xbd_some h
    refine ev_callS (As := [.int p1, .int 0, .int 600]) (rest := []) 3 (kX11_within (E := E) (d := 0) (QQ := (fun v τ n' => v = some (.int q2) ∧ τ = xσ μ R ∧ n = n')) (Nat.le_refl _)  hq2 (⟨rfl, rfl, rfl⟩)) my_X11_within ⟨m_424, m_425⟩ rfl rfl (Nat.le_of_ble_eq_true rfl) (Nat.le_trans (by decide) hd) (xlo (by decide) (Nat.le_trans (by decide) hd)) (Nat.zero_le _) (Nat.zero_le _) dX11_lateIf_12 (fun v τ n' hv => ?_)
    obtain ⟨rfl, rfl, rfl⟩ := hv
    show Ev E (xcm E d 0 0 QQ) Y_X11_lateIf 15 [(0, .ref (E.2.2.2 + iC)), (1, .int p0), (2, .int p1), (3, .int p2)] [.int q2] (xσ μ R) n 0 0
    refine ev_if_eq (tgt := 27) dX11_lateIf_15 (by decide) (fun c15 => ?_) (fun c15 => ?_)
    · replace h := xif_t c15 h
      refine ev_iconst (v := (-1)) dX11_lateIf_27 (by decide) ?_
      cases h
      exact ev_iret rfl (hQ) dX11_lateIf_28 (Nat.zero_le _) (Nat.zero_le _)
    · replace h := xif_f c15 h
      refine ev_iload_n 3 dX11_lateIf_18 rfl rfl ?_
      refine ev_iconst (v := 0) dX11_lateIf_19 (by decide) ?_
      refine ev_iconst (v := 1) dX11_lateIf_20 (by decide) ?_
      obtain ⟨q3, hq3, h⟩ := xbd_some h
      refine ev_callS (As := [.int p2, .int 0, .int 1]) (rest := []) 3 (kX11_within (E := E) (d := 0) (QQ := (fun v τ n' => v = some (.int q3) ∧ τ = xσ μ R ∧ n = n')) (Nat.le_refl _)  hq3 (⟨rfl, rfl, rfl⟩)) my_X11_within ⟨m_424, m_425⟩ rfl rfl (Nat.le_of_ble_eq_true rfl) (Nat.le_trans (by decide) hd) (xlo (by decide) (Nat.le_trans (by decide) hd)) (Nat.zero_le _) (Nat.zero_le _) dX11_lateIf_21 (fun v τ n' hv => ?_)
      obtain ⟨rfl, rfl, rfl⟩ := hv
      show Ev E (xcm E d 0 0 QQ) Y_X11_lateIf 24 [(0, .ref (E.2.2.2 + iC)), (1, .int p0), (2, .int p1), (3, .int p2)] [.int q3] (xσ μ R) n 0 0
      refine ev_if_ne (tgt := 29) dX11_lateIf_24 (by decide) (fun c24 => ?_) (fun c24 => ?_)
      · replace h := xif_f c24 h
        refine ev_aload_n 0 dX11_lateIf_29 rfl rfl ?_
        refine xv_getF (a := iC_ways) cl_11 lk_RX11_56 kd_0 (xl hF rfl) (fun _ => rfl) (fr_0_6 hF) dX11_lateIf_30 ?_
        refine ev_iload_n 1 dX11_lateIf_33 rfl rfl ?_
        refine ev_iload_n 2 dX11_lateIf_34 rfl rfl ?_
        obtain ⟨q4, hq4, h⟩ := xbd_some h
        refine ev_callV (ci := 10) (rest := []) 2 (kX10_lateWeights (E := E) (d := 3) (QQ := (fun v τ n' => v = some (.int q4) ∧ τ = xσ μ R ∧ n = n')) (Nat.le_refl _) hF hq4 (⟨rfl, rfl, rfl⟩)) my_X10_lateWeights ⟨m_987, m_988, m_989⟩ cl_10 kd_42 (xl hF rfl) rfl rfl (Nat.le_of_ble_eq_true rfl) (Nat.le_trans (by decide) hd) (xlo (by decide) (Nat.le_trans (by decide) hd)) (Nat.zero_le _) (Nat.zero_le _) dX11_lateIf_35 (fun v τ n' hv => ?_)
        obtain ⟨rfl, rfl, rfl⟩ := hv
        show Ev E (xcm E d 0 0 QQ) Y_X11_lateIf 38 [(0, .ref (E.2.2.2 + iC)), (1, .int p0), (2, .int p1), (3, .int p2)] [.int q4] (xσ μ R) n 0 0
        refine xv_istore (L' := [(4, .int q4), (0, .ref (E.2.2.2 + iC)), (1, .int p0), (2, .int p1), (3, .int p2)]) rfl dX11_lateIf_38 (Nat.le_of_ble_eq_true rfl) rfl ?_
        refine ev_aload_n 1 dX11_lateIf_40 rfl rfl ?_
        refine xv_getF (a := iC_ways) cl_11 lk_RX11_56 kd_0 (xl hF rfl) (fun _ => rfl) (fr_0_6 hF) dX11_lateIf_41 ?_
        obtain ⟨q5, hq5, h⟩ := xbd_some h
        refine ev_callV (ci := 10) (rest := []) 0 (kX10_allOfBridge (E := E) (d := 0) (QQ := (fun v τ n' => v = some (.int q5) ∧ τ = xσ μ R ∧ n = n')) (Nat.le_refl _) hF hq5 (⟨rfl, rfl, rfl⟩)) my_X10_allOfBridge ⟨m_1013, m_1014, m_1015⟩ cl_10 kd_42 (xl hF rfl) rfl rfl (Nat.le_of_ble_eq_true rfl) (Nat.le_trans (by decide) hd) (xlo (by decide) (Nat.le_trans (by decide) hd)) (Nat.zero_le _) (Nat.zero_le _) dX11_lateIf_44 (fun v τ n' hv => ?_)
        obtain ⟨rfl, rfl, rfl⟩ := hv
        show Ev E (xcm E d 0 0 QQ) Y_X11_lateIf 47 [(4, .int q4), (0, .ref (E.2.2.2 + iC)), (1, .int p0), (2, .int p1), (3, .int p2)] [.int q5] (xσ μ R) n 0 0
        refine ev_aload_n 1 dX11_lateIf_47 rfl rfl ?_
        refine xv_getF (a := iC_ways) cl_11 lk_RX11_56 kd_0 (xl hF rfl) (fun _ => rfl) (fr_0_6 hF) dX11_lateIf_48 ?_
        refine ev_iload_n 2 dX11_lateIf_51 rfl rfl ?_
        obtain ⟨q6, hq6, h⟩ := xbd_some h
        refine ev_callV (ci := 10) (rest := [.int q5]) 1 (kX10_weightsOf (E := E) (d := 1) (QQ := (fun v τ n' => v = some (.int q6) ∧ τ = xσ μ R ∧ n = n')) (Nat.le_refl _) hF hq6 (⟨rfl, rfl, rfl⟩)) my_X10_weightsOf ⟨m_1017, m_1018, m_1019⟩ cl_10 kd_42 (xl hF rfl) rfl rfl (Nat.le_of_ble_eq_true rfl) (Nat.le_trans (by decide) hd) (xlo (by decide) (Nat.le_trans (by decide) hd)) (Nat.zero_le _) (Nat.zero_le _) dX11_lateIf_52 (fun v τ n' hv => ?_)
        obtain ⟨rfl, rfl, rfl⟩ := hv
        show Ev E (xcm E d 0 0 QQ) Y_X11_lateIf 55 [(4, .int q4), (0, .ref (E.2.2.2 + iC)), (1, .int p0), (2, .int p1), (3, .int p2)] [.int q6, .int q5] (xσ μ R) n 0 0
        refine ev_imul dX11_lateIf_55 ?_
        obtain ⟨x7, hx7, h⟩ := xlt_some h
        refine xv_istore (L' := [(5, .int x7), (4, .int q4), (0, .ref (E.2.2.2 + iC)), (1, .int p0), (2, .int p1), (3, .int p2)]) hx7 dX11_lateIf_56 (Nat.le_of_ble_eq_true rfl) rfl ?_
        refine ev_iload_n 5 dX11_lateIf_58 rfl rfl ?_
        have j69 : ∀ (x8 : Int32), fX11_lateIf_j69 x8 q4 x7 = some res → Ev E (xcm E d 0 0 QQ) Y_X11_lateIf 69 [(4, .int q4), (5, .int x7)] [.int x8] (xσ μ R) n 0 0 := by
          intro x8 h
          unfold fX11_lateIf_j69 at h
          refine ev_iload 0 dX11_lateIf_69 rfl ?_
          refine ev_iload 1 dX11_lateIf_71 rfl ?_
          obtain ⟨q9, hq9, h⟩ := xbd_some h
          refine ev_callS (As := [.int q4, .int x7]) (rest := [.int x8]) 2 (kX11_commonDivisor (E := E) (d := 1) (QQ := (fun v τ n' => v = some (.int q9) ∧ τ = xσ μ R ∧ n = n')) (Nat.le_refl _)  hq9 (⟨rfl, rfl, rfl⟩)) my_X11_commonDivisor ⟨m_1021, m_1022⟩ rfl rfl (Nat.le_of_ble_eq_true rfl) (Nat.le_trans (by decide) hd) (xlo (by decide) (Nat.le_trans (by decide) hd)) (Nat.zero_le _) (Nat.zero_le _) dX11_lateIf_73 (fun v τ n' hv => ?_)
          obtain ⟨rfl, rfl, rfl⟩ := hv
          show Ev E (xcm E d 0 0 QQ) Y_X11_lateIf 76 [(4, .int q4), (5, .int x7)] [.int q9, .int x8] (xσ μ R) n 0 0
          obtain ⟨q10, hq10, h⟩ := xbd_some h
          refine ev_callS (As := [.int x8, .int q9]) (rest := []) 2 (kX11_whole (E := E) (d := 0) (QQ := (fun v τ n' => v = some (.int q10) ∧ τ = xσ μ R ∧ n = n')) (Nat.le_refl _)  hq10 (⟨rfl, rfl, rfl⟩)) my_X11_whole ⟨m_1027, m_1028⟩ rfl rfl (Nat.le_of_ble_eq_true rfl) (Nat.le_trans (by decide) hd) (xlo (by decide) (Nat.le_trans (by decide) hd)) (Nat.zero_le _) (Nat.zero_le _) dX11_lateIf_76 (fun v τ n' hv => ?_)
          obtain ⟨rfl, rfl, rfl⟩ := hv
          show Ev E (xcm E d 0 0 QQ) Y_X11_lateIf 79 [(4, .int q4), (5, .int x7)] [.int q10] (xσ μ R) n 0 0
          cases h
          exact ev_iret rfl (hQ) dX11_lateIf_79 (Nat.zero_le _) (Nat.zero_le _)
        refine ev_if_ne (tgt := 67) dX11_lateIf_59 (by decide) (fun c59 => ?_) (fun c59 => ?_)
        · replace h := xif_f c59 h
          refine ev_iload 0 dX11_lateIf_67 rfl ?_
          exact ev_sub [1, 0] rfl (j69 _ h)
        · replace h := xif_t c59 h
          refine ev_iload 1 dX11_lateIf_62 rfl ?_
          refine ev_goto (tgt := 69) dX11_lateIf_64 (by decide) ?_
          exact ev_sub [1, 0] rfl (j69 _ h)
      · replace h := xif_t c24 h
        refine ev_iconst (v := (-1)) dX11_lateIf_27 (by decide) ?_
        cases h
        exact ev_iret rfl (hQ) dX11_lateIf_28 (Nat.zero_le _) (Nat.zero_le _)
def fX11_lost (μ : xm) (R : xr) : Option (Int32) := xbd (fX3_waitedAtSettled μ R) fun q1 => some q1
set_option maxHeartbeats 4000000 in
set_option maxRecDepth 100000 in
theorem kX11_lost {E : xE} {d : Nat} {QQ : xP} (hd : 4 ≤ d)  {μ : xm} {R : xr} {n : Nat} (hF : xFin R n)  {res : Int32} (h : fX11_lost μ R = some res) (hQ : QQ (some (.int res)) (xσ μ R) n) : xCon E d Y_X11_lost 0 0 [.ref (E.2.2.2 + iC)] (xσ μ R) n QQ := by
  refine xCon_of pn_RX11 (Nat.le_of_ble_eq_true rfl) (L0 := [(0, .ref (E.2.2.2 + iC))]) rfl ?_
  unfold fX11_lost at h
  refine ev_aload_n 0 dX11_lost_0 rfl rfl ?_
  refine xv_getF (a := iC_meetings) cl_11 lk_RX11_35 kd_0 (xl hF rfl) (fun _ => rfl) (fr_0_3 hF) dX11_lost_1 ?_
  obtain ⟨q1, hq1, h⟩ := xbd_some h
  refine ev_callV (ci := 3) (rest := []) 0 (kX3_waitedAtSettled (E := E) (d := 3) (QQ := (fun v τ n' => v = some (.int q1) ∧ τ = xσ μ R ∧ n = n')) (Nat.le_refl _) hF hq1 (⟨rfl, rfl, rfl⟩)) my_X3_waitedAtSettled ⟨m_1164, m_1165, m_1166⟩ cl_3 kd_23 (xl hF rfl) rfl rfl (Nat.le_of_ble_eq_true rfl) (Nat.le_trans (by decide) hd) (xlo (by decide) (Nat.le_trans (by decide) hd)) (Nat.zero_le _) (Nat.zero_le _) dX11_lost_4 (fun v τ n' hv => ?_)
  obtain ⟨rfl, rfl, rfl⟩ := hv
  show Ev E (xcm E d 0 0 QQ) Y_X11_lost 7 [(0, .ref (E.2.2.2 + iC))] [.int q1] (xσ μ R) n 0 0
  cases h
  exact ev_iret rfl (hQ) dX11_lost_7 (Nat.zero_le _) (Nat.zero_le _)
def fX11_noteChain_b25 (x3 : Int32) (μ4 : xm) (p0 : Int32) (x2 : Int32) : Option ((Int32 × xm) ⊕ ((xm) ⊕ (Int32 × xm))) := xbd (fX3_payers μ4) fun q6 => if q6 ≤ x3 then (some (.inr (.inl μ4))) else (xbd (fX3_payerAt x3 μ4) fun q7 => xbd (fX3_paidAt x3 μ4) fun q8 => if q8 ≤ 0 then (xlt (x3 + 1) fun x9 => some (.inl (x9, μ4))) else (if q7 = p0 then (xlt (x3 + 1) fun x12 => some (.inl (x12, μ4))) else (xbd (fX4_add q7 p0 q8 (μ4.1 iC 8) x2 μ4) fun q10 => if q10.1 = (-1) then (some (.inr (.inr (0, q10.2)))) else (xlt (x3 + 1) fun x11 => some (.inl (x11, q10.2))))))
def fX11_noteChain_j20 (x2 : Int32) (p0 : Int32) (q1 : (Int32 × xm)) : Option (Int32 × xm) := xbd (xloop xfu (fun v => fX11_noteChain_b25 v.1 v.2 p0 x2) (0, q1.2)) fun q13 => xsm q13 (fun q14 => some (1, q14)) (fun q15 => some q15)
def fX11_noteChain (p0 : Int32) (p1 : Nat) (μ : xm) (R : xr) : Option (Int32 × xm) := xbd (fX11_daysToLapse p1 μ R) fun q1 => if q1.1 = 0 then (fX11_noteChain_j20 (-1) p0 q1) else (fX11_noteChain_j20 ((q1.2.1 iC 8) + q1.1) p0 q1)
set_option maxHeartbeats 4000000 in
set_option maxRecDepth 100000 in
theorem kX11_noteChain {E : xE} {d : Nat} {QQ : xP} (hd : 4 ≤ d) {p0 : Int32} {p1 : Nat} {μ : xm} {R : xr} {n : Nat} (hF : xFin R n) (hp1 : xIsA 1 p1 n) {res : Int32 × xm} (h : fX11_noteChain p0 p1 μ R = some res) (hQ : QQ (some (.int res.1)) (xσ res.2 R) n) : xCon E d Y_X11_noteChain 0 0 [.ref (E.2.2.2 + iC), .int p0, .ref (E.2.2.2 + p1)] (xσ μ R) n QQ := by
  refine xCon_of pn_RX11 (Nat.le_of_ble_eq_true rfl) (L0 := [(0, .ref (E.2.2.2 + iC)), (1, .int p0), (2, .ref (E.2.2.2 + p1))]) rfl ?_
  unfold fX11_noteChain at h
  refine ev_aload_n 0 dX11_noteChain_0 rfl rfl ?_
  refine ev_aload_n 2 dX11_noteChain_1 rfl rfl ?_
  obtain ⟨q1, hq1, h⟩ := xbd_some h
  refine ev_callV (ci := 11) (rest := []) 1 (kX11_daysToLapse (E := E) (d := 3) (QQ := (fun v τ n' => v = some (.int q1.1) ∧ τ = xσ q1.2 R ∧ n = n')) (Nat.le_refl _) hF hp1 hq1 (⟨rfl, rfl, rfl⟩)) my_X11_daysToLapse ⟨m_735, m_737, m_15⟩ cl_11 kd_0 (xl hF rfl) rfl rfl (Nat.le_of_ble_eq_true rfl) (Nat.le_trans (by decide) hd) (xlo (by decide) (Nat.le_trans (by decide) hd)) (Nat.zero_le _) (Nat.zero_le _) dX11_noteChain_2 (fun v τ n' hv => ?_)
  obtain ⟨rfl, rfl, rfl⟩ := hv
  show Ev E (xcm E d 0 0 QQ) Y_X11_noteChain 5 [(0, .ref (E.2.2.2 + iC)), (1, .int p0), (2, .ref (E.2.2.2 + p1))] [.int q1.1] (xσ q1.2 R) n 0 0
  refine xv_istore_n (L' := [(3, .int q1.1), (0, .ref (E.2.2.2 + iC)), (1, .int p0), (2, .ref (E.2.2.2 + p1))]) rfl dX11_noteChain_5 rfl (Nat.le_of_ble_eq_true rfl) rfl ?_
  refine ev_iload_n 0 dX11_noteChain_6 rfl rfl ?_
  have j20 : ∀ (x2 : Int32), fX11_noteChain_j20 x2 p0 q1 = some res → Ev E (xcm E d 0 0 QQ) Y_X11_noteChain 20 [(0, .ref (E.2.2.2 + iC)), (1, .int p0)] [.int x2] (xσ q1.2 R) n 0 0 := by
    intro x2 h
    unfold fX11_noteChain_j20 at h
    refine xv_istore (L' := [(4, .int x2), (0, .ref (E.2.2.2 + iC)), (1, .int p0)]) rfl dX11_noteChain_20 (Nat.le_of_ble_eq_true rfl) rfl ?_
    refine ev_iconst (v := 0) dX11_noteChain_22 (by decide) ?_
    refine xv_istore (L' := [(5, .int 0), (4, .int x2), (0, .ref (E.2.2.2 + iC)), (1, .int p0)]) rfl dX11_noteChain_23 (Nat.le_of_ble_eq_true rfl) rfl ?_
    obtain ⟨q13, hq13, h⟩ := xbd_some h
    refine ev_sub (L' := [(0, .ref (E.2.2.2 + iC)), (1, .int p0), (4, .int x2), (5, .int 0)]) [2, 3, 1, 0] rfl ?_
    refine xloop_run (fun v => Ev E (xcm E d 0 0 QQ) Y_X11_noteChain 25 [(0, .ref (E.2.2.2 + iC)), (1, .int p0), (4, .int x2), (5, .int v.1)] [] (xσ v.2 R) n 0 0) (xel (fun v => Ev E (xcm E d 0 0 QQ) Y_X11_noteChain 103 [] [] (xσ v R) n 0 0) (fun v => QQ (some (.int v.1)) (xσ v.2 R) n)) ?_ _ _ _ hq13 ?_
    · rintro ⟨x3, μ4⟩ y5 h hk
      replace h : fX11_noteChain_b25 x3 μ4 p0 x2 = some y5 := h
      show Ev E (xcm E d 0 0 QQ) Y_X11_noteChain 25 [(0, .ref (E.2.2.2 + iC)), (1, .int p0), (4, .int x2), (5, .int x3)] [] (xσ μ4 R) n 0 0
      unfold fX11_noteChain_b25 at h
      refine ev_iload 3 dX11_noteChain_25 rfl ?_
      refine ev_aload_n 0 dX11_noteChain_27 rfl rfl ?_
      refine xv_getF (a := iC_meetings) cl_11 lk_RX11_35 kd_0 (xl hF rfl) (fun _ => rfl) (fr_0_3 hF) dX11_noteChain_28 ?_
      obtain ⟨q6, hq6, h⟩ := xbd_some h
      refine ev_callV (ci := 3) (rest := [.int x3]) 0 (kX3_payers (E := E) (d := 0) (QQ := (fun v τ n' => v = some (.int q6) ∧ τ = xσ μ4 R ∧ n = n')) (Nat.le_refl _) hF hq6 (⟨rfl, rfl, rfl⟩)) my_X3_payers ⟨m_752, m_753, m_754⟩ cl_3 kd_23 (xl hF rfl) rfl rfl (Nat.le_of_ble_eq_true rfl) (Nat.le_trans (by decide) hd) (xlo (by decide) (Nat.le_trans (by decide) hd)) (Nat.zero_le _) (Nat.zero_le _) dX11_noteChain_31 (fun v τ n' hv => ?_)
      obtain ⟨rfl, rfl, rfl⟩ := hv
      show Ev E (xcm E d 0 0 QQ) Y_X11_noteChain 34 [(0, .ref (E.2.2.2 + iC)), (1, .int p0), (4, .int x2), (5, .int x3)] [.int q6, .int x3] (xσ μ4 R) n 0 0
      refine ev_icmp_ge (tgt := 103) dX11_noteChain_34 (by decide) (fun c34 => ?_) (fun c34 => ?_)
      · replace h := xif_t c34 h
        cases h
        replace hk := xel_r hk
        replace hk := xel_l hk
        exact ev_sub [] rfl (hk)
      · replace h := xif_f c34 h
        refine ev_aload_n 0 dX11_noteChain_37 rfl rfl ?_
        refine xv_getF (a := iC_meetings) cl_11 lk_RX11_35 kd_0 (xl hF rfl) (fun _ => rfl) (fr_0_3 hF) dX11_noteChain_38 ?_
        refine ev_iload 3 dX11_noteChain_41 rfl ?_
        obtain ⟨q7, hq7, h⟩ := xbd_some h
        refine ev_callV (ci := 3) (rest := []) 1 (kX3_payerAt (E := E) (d := 0) (QQ := (fun v τ n' => v = some (.int q7) ∧ τ = xσ μ4 R ∧ n = n')) (Nat.le_refl _) hF hq7 (⟨rfl, rfl, rfl⟩)) my_X3_payerAt ⟨m_756, m_757, m_758⟩ cl_3 kd_23 (xl hF rfl) rfl rfl (Nat.le_of_ble_eq_true rfl) (Nat.le_trans (by decide) hd) (xlo (by decide) (Nat.le_trans (by decide) hd)) (Nat.zero_le _) (Nat.zero_le _) dX11_noteChain_43 (fun v τ n' hv => ?_)
        obtain ⟨rfl, rfl, rfl⟩ := hv
        show Ev E (xcm E d 0 0 QQ) Y_X11_noteChain 46 [(0, .ref (E.2.2.2 + iC)), (1, .int p0), (4, .int x2), (5, .int x3)] [.int q7] (xσ μ4 R) n 0 0
        refine xv_istore (L' := [(6, .int q7), (0, .ref (E.2.2.2 + iC)), (1, .int p0), (4, .int x2), (5, .int x3)]) rfl dX11_noteChain_46 (Nat.le_of_ble_eq_true rfl) rfl ?_
        refine ev_aload_n 1 dX11_noteChain_48 rfl rfl ?_
        refine xv_getF (a := iC_meetings) cl_11 lk_RX11_35 kd_0 (xl hF rfl) (fun _ => rfl) (fr_0_3 hF) dX11_noteChain_49 ?_
        refine ev_iload 4 dX11_noteChain_52 rfl ?_
        obtain ⟨q8, hq8, h⟩ := xbd_some h
        refine ev_callV (ci := 3) (rest := []) 1 (kX3_paidAt (E := E) (d := 0) (QQ := (fun v τ n' => v = some (.int q8) ∧ τ = xσ μ4 R ∧ n = n')) (Nat.le_refl _) hF hq8 (⟨rfl, rfl, rfl⟩)) my_X3_paidAt ⟨m_760, m_761, m_762⟩ cl_3 kd_23 (xl hF rfl) rfl rfl (Nat.le_of_ble_eq_true rfl) (Nat.le_trans (by decide) hd) (xlo (by decide) (Nat.le_trans (by decide) hd)) (Nat.zero_le _) (Nat.zero_le _) dX11_noteChain_54 (fun v τ n' hv => ?_)
        obtain ⟨rfl, rfl, rfl⟩ := hv
        show Ev E (xcm E d 0 0 QQ) Y_X11_noteChain 57 [(6, .int q7), (0, .ref (E.2.2.2 + iC)), (1, .int p0), (4, .int x2), (5, .int x3)] [.int q8] (xσ μ4 R) n 0 0
        refine xv_istore (L' := [(7, .int q8), (6, .int q7), (0, .ref (E.2.2.2 + iC)), (1, .int p0), (4, .int x2), (5, .int x3)]) rfl dX11_noteChain_57 (Nat.le_of_ble_eq_true rfl) rfl ?_
        refine ev_iload 0 dX11_noteChain_59 rfl ?_
        refine ev_if_le (tgt := 97) dX11_noteChain_61 (by decide) (fun c61 => ?_) (fun c61 => ?_)
        · replace h := xif_t c61 h
          obtain ⟨x9, hx9, h⟩ := xlt_some h
          refine ev_iinc (L' := [(5, .int x9), (7, .int q8), (6, .int q7), (0, .ref (E.2.2.2 + iC)), (1, .int p0), (4, .int x2)]) 5 dX11_noteChain_97 rfl ((by rfl : x3 + Int32.ofInt 1 = x3 + 1).trans hx9) (Nat.le_of_ble_eq_true rfl) rfl ?_
          refine ev_goto (tgt := 25) dX11_noteChain_100 (by decide) ?_
          cases h
          replace hk := xel_l hk
          exact ev_sub [3, 4, 5, 0] rfl (hk)
        · replace h := xif_f c61 h
          refine ev_iload 1 dX11_noteChain_64 rfl ?_
          refine ev_iload_n 3 dX11_noteChain_66 rfl rfl ?_
          refine ev_icmp_ne (tgt := 73) dX11_noteChain_67 (by decide) (fun c67 => ?_) (fun c67 => ?_)
          · replace h := xif_f c67 h
            refine ev_aload_n 2 dX11_noteChain_73 rfl rfl ?_
            refine xv_getF (a := iC_notes) cl_11 lk_RX11_42 kd_0 (xl hF rfl) (fun _ => rfl) (fr_0_4 hF) dX11_noteChain_74 ?_
            refine ev_iload 1 dX11_noteChain_77 rfl ?_
            refine ev_iload_n 3 dX11_noteChain_79 rfl rfl ?_
            refine ev_iload 0 dX11_noteChain_80 rfl ?_
            refine ev_aload_n 2 dX11_noteChain_82 rfl rfl ?_
            refine xv_getI cl_11 lk_RX11_69 kd_0 (xl hF rfl) (fun _ => rfl) dX11_noteChain_83 ?_
            refine ev_iload 4 dX11_noteChain_86 rfl ?_
            obtain ⟨q10, hq10, h⟩ := xbd_some h
            refine ev_callV (ci := 4) (rest := []) 5 (kX4_add (E := E) (d := 0) (QQ := (fun v τ n' => v = some (.int q10.1) ∧ τ = xσ q10.2 R ∧ n = n')) (Nat.le_refl _) hF hq10 (⟨rfl, rfl, rfl⟩)) my_X4_add ⟨m_776, m_777, m_778⟩ cl_4 kd_28 (xl hF rfl) rfl rfl (Nat.le_of_ble_eq_true rfl) (Nat.le_trans (by decide) hd) (xlo (by decide) (Nat.le_trans (by decide) hd)) (Nat.zero_le _) (Nat.zero_le _) dX11_noteChain_88 (fun v τ n' hv => ?_)
            obtain ⟨rfl, rfl, rfl⟩ := hv
            show Ev E (xcm E d 0 0 QQ) Y_X11_noteChain 91 [(7, .int q8), (6, .int q7), (0, .ref (E.2.2.2 + iC)), (1, .int p0), (4, .int x2), (5, .int x3)] [.int q10.1] (xσ q10.2 R) n 0 0
            refine ev_iconst (v := (-1)) dX11_noteChain_91 (by decide) ?_
            refine ev_icmp_ne (tgt := 97) dX11_noteChain_92 (by decide) (fun c92 => ?_) (fun c92 => ?_)
            · replace h := xif_f c92 h
              obtain ⟨x11, hx11, h⟩ := xlt_some h
              refine ev_iinc (L' := [(5, .int x11), (7, .int q8), (6, .int q7), (0, .ref (E.2.2.2 + iC)), (1, .int p0), (4, .int x2)]) 5 dX11_noteChain_97 rfl ((by rfl : x3 + Int32.ofInt 1 = x3 + 1).trans hx11) (Nat.le_of_ble_eq_true rfl) rfl ?_
              refine ev_goto (tgt := 25) dX11_noteChain_100 (by decide) ?_
              cases h
              replace hk := xel_l hk
              exact ev_sub [3, 4, 5, 0] rfl (hk)
            · replace h := xif_t c92 h
              refine ev_iconst (v := 0) dX11_noteChain_95 (by decide) ?_
              cases h
              replace hk := xel_r hk
              replace hk := xel_r hk
              exact ev_zret rfl (Or.inl rfl) (hk) dX11_noteChain_96 (Nat.zero_le _) (Nat.zero_le _)
          · replace h := xif_t c67 h
            refine ev_goto (tgt := 97) dX11_noteChain_70 (by decide) ?_
            obtain ⟨x12, hx12, h⟩ := xlt_some h
            refine ev_iinc (L' := [(5, .int x12), (7, .int q8), (6, .int q7), (0, .ref (E.2.2.2 + iC)), (1, .int p0), (4, .int x2)]) 5 dX11_noteChain_97 rfl ((by rfl : x3 + Int32.ofInt 1 = x3 + 1).trans hx12) (Nat.le_of_ble_eq_true rfl) rfl ?_
            refine ev_goto (tgt := 25) dX11_noteChain_100 (by decide) ?_
            cases h
            replace hk := xel_l hk
            exact ev_sub [3, 4, 5, 0] rfl (hk)
    · rcases q13 with q14 | q15
      · replace h := xsm_l h
        show Ev E (xcm E d 0 0 QQ) Y_X11_noteChain 103 [] [] (xσ q14 R) n 0 0
        refine ev_iconst (v := 1) dX11_noteChain_103 (by decide) ?_
        cases h
        exact ev_zret rfl (Or.inr rfl) (hQ) dX11_noteChain_104 (Nat.zero_le _) (Nat.zero_le _)
      · replace h := xsm_r h
        cases h
        exact hQ
  refine ev_if_ne (tgt := 14) dX11_noteChain_7 (by decide) (fun c7 => ?_) (fun c7 => ?_)
  · replace h := xif_f c7 h
    refine ev_aload_n 1 dX11_noteChain_14 rfl rfl ?_
    refine xv_getI cl_11 lk_RX11_69 kd_0 (xl hF rfl) (fun _ => rfl) dX11_noteChain_15 ?_
    refine ev_iload_n 0 dX11_noteChain_18 rfl rfl ?_
    refine ev_iadd dX11_noteChain_19 ?_
    exact ev_sub [1, 2] rfl (j20 _ h)
  · replace h := xif_t c7 h
    refine ev_iconst (v := (-1)) dX11_noteChain_10 (by decide) ?_
    refine ev_goto (tgt := 20) dX11_noteChain_11 (by decide) ?_
    exact ev_sub [1, 2] rfl (j20 _ h)
