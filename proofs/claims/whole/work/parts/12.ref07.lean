def fX12_twoWith_b79 (x12 : Int64) (x13 : Int32) (p1 : Int32) (p2 : Int32) (p5 : Int32) (p6 : Int32) (μ : xm) (x2 : Int32) (x10 : Int32) (q11 : Int64) : Option ((Int64 × Int32) ⊕ (Int64)) := xbd (fX12_endsOf p2 μ) fun q15 => if q15 ≤ x13 then (some (.inr x12)) else (xbd (fX12_weightAt p2 x2 μ) fun q16 => xbd (fX12_weightAt p2 x13 μ) fun q17 => xbd (fX12_wayAt p2 x13 p6 μ) fun q18 => xbd (fX12_comingCost p1 p2 (x10 + q18) p5 μ) fun q19 => xlt (x12 + ((q16.toInt64 * q17.toInt64) * (q11 + q19))) fun x20 => xlt (x13 + 1) fun x21 => some (.inl (x20, x21)))
def fX12_twoWith_j59 (x9 : Int32) (p0 : Int32) (p1 : Int32) (p2 : Int32) (p3 : Int32) (p5 : Int32) (p6 : Int32) (μ : xm) (x1 : Int64) (x2 : Int32) (x7 : Int32) : Option ((Int64 × Int32) ⊕ (Int64)) := xlt (x9 + p3) fun x10 => xbd (fX12_comingCost p0 p2 x7 p5 μ) fun q11 => xbd (xloop xfu (fun v => fX12_twoWith_b79 v.1 v.2 p1 p2 p5 p6 μ x2 x10 q11) (x1, 0)) fun q22 => xlt (x2 + 1) fun x23 => some (.inl (q22, x23))
def fX12_twoWith_b6 (x1 : Int64) (x2 : Int32) (p0 : Int32) (p1 : Int32) (p2 : Int32) (p3 : Int32) (p4 : Int32) (p5 : Int32) (p6 : Int32) (μ : xm) : Option ((Int64 × Int32) ⊕ (Int64)) := xbd (fX12_endsOf p2 μ) fun q4 => if q4 ≤ x2 then (some (.inr x1)) else (xbd (xgI μ iM_minuteOf 24 p0) fun v5 => xbd (fX12_wayAt p2 x2 p6 μ) fun q6 => xlt ((v5 - p4) + q6) fun x7 => xbd (xgI μ iM_minuteOf 24 p0) fun v8 => if x7 ≤ v8 then (xbd (xgI μ iM_minuteOf 24 p0) fun v24 => fX12_twoWith_j59 v24 p0 p1 p2 p3 p5 p6 μ x1 x2 x7) else (fX12_twoWith_j59 x7 p0 p1 p2 p3 p5 p6 μ x1 x2 x7))
def fX12_twoWith (p0 : Int32) (p1 : Int32) (p2 : Int32) (p3 : Int32) (p4 : Int32) (p5 : Int32) (p6 : Int32) (μ : xm) : Option (Int64) := xbd (xloop xfu (fun v => fX12_twoWith_b6 v.1 v.2 p0 p1 p2 p3 p4 p5 p6 μ) (0, 0)) fun q25 => xbd (fX12_bridgeWeight p6 μ) fun q26 => some (q25 * q26.toInt64)
set_option maxHeartbeats 4000000 in
set_option maxRecDepth 100000 in
theorem kX12_twoWith {E : xE} {d : Nat} {QQ : xP} (hd : 2 ≤ d) {p0 : Int32} {p1 : Int32} {p2 : Int32} {p3 : Int32} {p4 : Int32} {p5 : Int32} {p6 : Int32} {μ : xm} {R : xr} {n : Nat} (hF : xFin R n)  {res : Int64} (h : fX12_twoWith p0 p1 p2 p3 p4 p5 p6 μ = some res) (hQ : QQ (some (.long res)) (xσ μ R) n) : xCon E d Y_X12_twoWith 0 0 [.ref (E.2.2.2 + iM), .int p0, .int p1, .int p2, .int p3, .int p4, .int p5, .int p6] (xσ μ R) n QQ := by
  refine xCon_of pn_RX12 (Nat.le_of_ble_eq_true rfl) (L0 := [(0, .ref (E.2.2.2 + iM)), (1, .int p0), (2, .int p1), (3, .int p2), (4, .int p3), (5, .int p4), (6, .int p5), (7, .int p6)]) rfl ?_
  unfold fX12_twoWith at h
  refine ev_lconst (v := 0) dX12_twoWith_0 (by decide) ?_
  refine xv_lstore (L' := [(8, .long 0), (0, .ref (E.2.2.2 + iM)), (1, .int p0), (2, .int p1), (3, .int p2), (4, .int p3), (5, .int p4), (6, .int p5), (7, .int p6)]) rfl dX12_twoWith_1 (Nat.le_of_ble_eq_true rfl) rfl ?_
  refine ev_iconst (v := 0) dX12_twoWith_3 (by decide) ?_
  refine xv_istore (L' := [(10, .int 0), (8, .long 0), (0, .ref (E.2.2.2 + iM)), (1, .int p0), (2, .int p1), (3, .int p2), (4, .int p3), (5, .int p4), (6, .int p5), (7, .int p6)]) rfl dX12_twoWith_4 (Nat.le_of_ble_eq_true rfl) rfl ?_
  obtain ⟨q25, hq25, h⟩ := xbd_some h
  refine ev_sub (L' := [(0, .ref (E.2.2.2 + iM)), (1, .int p0), (2, .int p1), (3, .int p2), (4, .int p3), (5, .int p4), (6, .int p5), (7, .int p6), (8, .long 0), (10, .int 0)]) [2, 3, 4, 5, 6, 7, 8, 9, 1, 0] rfl ?_
  refine xloop_run (fun v => Ev E (xcm E d 0 0 QQ) Y_X12_twoWith 6 [(0, .ref (E.2.2.2 + iM)), (1, .int p0), (2, .int p1), (3, .int p2), (4, .int p3), (5, .int p4), (6, .int p5), (7, .int p6), (8, .long v.1), (10, .int v.2)] [] (xσ μ R) n 0 0) (fun v => Ev E (xcm E d 0 0 QQ) Y_X12_twoWith 147 [(0, .ref (E.2.2.2 + iM)), (7, .int p6), (8, .long v)] [] (xσ μ R) n 0 0) ?_ _ _ _ hq25 ?_
  · rintro ⟨x1, x2⟩ y3 h hk
    replace h : fX12_twoWith_b6 x1 x2 p0 p1 p2 p3 p4 p5 p6 μ = some y3 := h
    show Ev E (xcm E d 0 0 QQ) Y_X12_twoWith 6 [(0, .ref (E.2.2.2 + iM)), (1, .int p0), (2, .int p1), (3, .int p2), (4, .int p3), (5, .int p4), (6, .int p5), (7, .int p6), (8, .long x1), (10, .int x2)] [] (xσ μ R) n 0 0
    unfold fX12_twoWith_b6 at h
    refine ev_iload 9 dX12_twoWith_6 rfl ?_
    refine ev_aload_n 0 dX12_twoWith_8 rfl rfl ?_
    refine ev_iload_n 3 dX12_twoWith_9 rfl rfl ?_
    obtain ⟨q4, hq4, h⟩ := xbd_some h
    refine ev_callV (ci := 12) (rest := [.int x2]) 1 (kX12_endsOf (E := E) (d := 0) (QQ := (fun v τ n' => v = some (.int q4) ∧ τ = xσ μ R ∧ n = n')) (Nat.le_refl _) hF hq4 (⟨rfl, rfl, rfl⟩)) my_X12_endsOf ⟨m_1754, m_1756, m_88⟩ cl_12 kd_61 (xl hF rfl) rfl rfl (Nat.le_of_ble_eq_true rfl) (Nat.le_trans (by decide) hd) (xlo (by decide) (Nat.le_trans (by decide) hd)) (Nat.zero_le _) (Nat.zero_le _) dX12_twoWith_10 (fun v τ n' hv => ?_)
    obtain ⟨rfl, rfl, rfl⟩ := hv
    show Ev E (xcm E d 0 0 QQ) Y_X12_twoWith 13 [(0, .ref (E.2.2.2 + iM)), (1, .int p0), (2, .int p1), (3, .int p2), (4, .int p3), (5, .int p4), (6, .int p5), (7, .int p6), (8, .long x1), (10, .int x2)] [.int q4, .int x2] (xσ μ R) n 0 0
    refine ev_icmp_ge (tgt := 147) dX12_twoWith_13 (by decide) (fun c13 => ?_) (fun c13 => ?_)
    · replace h := xif_t c13 h
      cases h
      replace hk := xel_r hk
      exact ev_sub [0, 7, 8] rfl (hk)
    · replace h := xif_f c13 h
      refine ev_aload_n 0 dX12_twoWith_16 rfl rfl ?_
      refine xv_getF (a := iM_minuteOf) cl_12 lk_RX12_16 kd_61 (xl hF rfl) (fun _ => rfl) (fr_61_6 hF) dX12_twoWith_17 ?_
      refine ev_iload_n 1 dX12_twoWith_20 rfl rfl ?_
      obtain ⟨v5, hv5, h⟩ := xbd_some h
      refine xv_iald kd_64 (xl hF rfl) hv5 dX12_twoWith_21 ?_
      refine ev_iload 5 dX12_twoWith_22 rfl ?_
      refine ev_isub dX12_twoWith_24 ?_
      refine ev_aload_n 0 dX12_twoWith_25 rfl rfl ?_
      refine ev_iload_n 3 dX12_twoWith_26 rfl rfl ?_
      refine ev_iload 9 dX12_twoWith_27 rfl ?_
      refine ev_iload 7 dX12_twoWith_29 rfl ?_
      obtain ⟨q6, hq6, h⟩ := xbd_some h
      refine ev_callV (ci := 12) (rest := [.int (v5 - p4)]) 3 (kX12_wayAt (E := E) (d := 1) (QQ := (fun v τ n' => v = some (.int q6) ∧ τ = xσ μ R ∧ n = n')) (Nat.le_refl _) hF hq6 (⟨rfl, rfl, rfl⟩)) my_X12_wayAt ⟨m_1758, m_1760, m_89⟩ cl_12 kd_61 (xl hF rfl) rfl rfl (Nat.le_of_ble_eq_true rfl) (Nat.le_trans (by decide) hd) (xlo (by decide) (Nat.le_trans (by decide) hd)) (Nat.zero_le _) (Nat.zero_le _) dX12_twoWith_31 (fun v τ n' hv => ?_)
      obtain ⟨rfl, rfl, rfl⟩ := hv
      show Ev E (xcm E d 0 0 QQ) Y_X12_twoWith 34 [(0, .ref (E.2.2.2 + iM)), (1, .int p0), (2, .int p1), (3, .int p2), (4, .int p3), (5, .int p4), (6, .int p5), (7, .int p6), (8, .long x1), (10, .int x2)] [.int q6, .int (v5 - p4)] (xσ μ R) n 0 0
      refine ev_iadd dX12_twoWith_34 ?_
      obtain ⟨x7, hx7, h⟩ := xlt_some h
      refine xv_istore (L' := [(11, .int x7), (0, .ref (E.2.2.2 + iM)), (1, .int p0), (2, .int p1), (3, .int p2), (4, .int p3), (5, .int p4), (6, .int p5), (7, .int p6), (8, .long x1), (10, .int x2)]) hx7 dX12_twoWith_35 (Nat.le_of_ble_eq_true rfl) rfl ?_
      refine ev_iload 0 dX12_twoWith_37 rfl ?_
      refine ev_aload_n 1 dX12_twoWith_39 rfl rfl ?_
      refine xv_getF (a := iM_minuteOf) cl_12 lk_RX12_16 kd_61 (xl hF rfl) (fun _ => rfl) (fr_61_6 hF) dX12_twoWith_40 ?_
      refine ev_iload_n 2 dX12_twoWith_43 rfl rfl ?_
      obtain ⟨v8, hv8, h⟩ := xbd_some h
      refine xv_iald kd_64 (xl hF rfl) hv8 dX12_twoWith_44 ?_
      have j59 : ∀ (x9 : Int32), fX12_twoWith_j59 x9 p0 p1 p2 p3 p5 p6 μ x1 x2 x7 = some y3 → Ev E (xcm E d 0 0 QQ) Y_X12_twoWith 59 [(0, .ref (E.2.2.2 + iM)), (1, .int p0), (2, .int p1), (3, .int p2), (4, .int p3), (5, .int p4), (6, .int p5), (7, .int p6), (8, .long x1), (10, .int x2), (11, .int x7)] [.int x9] (xσ μ R) n 0 0 := by
        intro x9 h
        unfold fX12_twoWith_j59 at h
        refine ev_iload 4 dX12_twoWith_59 rfl ?_
        refine ev_iadd dX12_twoWith_61 ?_
        obtain ⟨x10, hx10, h⟩ := xlt_some h
        refine xv_istore (L' := [(12, .int x10), (0, .ref (E.2.2.2 + iM)), (1, .int p0), (2, .int p1), (3, .int p2), (4, .int p3), (5, .int p4), (6, .int p5), (7, .int p6), (8, .long x1), (10, .int x2), (11, .int x7)]) hx10 dX12_twoWith_62 (Nat.le_of_ble_eq_true rfl) rfl ?_
        refine ev_aload_n 1 dX12_twoWith_64 rfl rfl ?_
        refine ev_iload_n 2 dX12_twoWith_65 rfl rfl ?_
        refine ev_iload_n 4 dX12_twoWith_66 rfl rfl ?_
        refine ev_iload 11 dX12_twoWith_67 rfl ?_
        refine ev_iload 7 dX12_twoWith_69 rfl ?_
        obtain ⟨q11, hq11, h⟩ := xbd_some h
        refine ev_callV (ci := 12) (rest := []) 4 (kX12_comingCost (E := E) (d := 1) (QQ := (fun v τ n' => v = some (.long q11) ∧ τ = xσ μ R ∧ n = n')) (Nat.le_refl _) hF hq11 (⟨rfl, rfl, rfl⟩)) my_X12_comingCost ⟨m_1793, m_1795, m_95⟩ cl_12 kd_61 (xl hF rfl) rfl rfl (Nat.le_of_ble_eq_true rfl) (Nat.le_trans (by decide) hd) (xlo (by decide) (Nat.le_trans (by decide) hd)) (Nat.zero_le _) (Nat.zero_le _) dX12_twoWith_71 (fun v τ n' hv => ?_)
        obtain ⟨rfl, rfl, rfl⟩ := hv
        show Ev E (xcm E d 0 0 QQ) Y_X12_twoWith 74 [(12, .int x10), (0, .ref (E.2.2.2 + iM)), (1, .int p0), (2, .int p1), (3, .int p2), (4, .int p3), (5, .int p4), (6, .int p5), (7, .int p6), (8, .long x1), (10, .int x2), (11, .int x7)] [.long q11] (xσ μ R) n 0 0
        refine xv_lstore (L' := [(13, .long q11), (12, .int x10), (0, .ref (E.2.2.2 + iM)), (1, .int p0), (2, .int p1), (3, .int p2), (4, .int p3), (5, .int p4), (6, .int p5), (7, .int p6), (8, .long x1), (10, .int x2), (11, .int x7)]) rfl dX12_twoWith_74 (Nat.le_of_ble_eq_true rfl) rfl ?_
        refine ev_iconst (v := 0) dX12_twoWith_76 (by decide) ?_
        refine xv_istore (L' := [(15, .int 0), (13, .long q11), (12, .int x10), (0, .ref (E.2.2.2 + iM)), (1, .int p0), (2, .int p1), (3, .int p2), (4, .int p3), (5, .int p4), (6, .int p5), (7, .int p6), (8, .long x1), (10, .int x2), (11, .int x7)]) rfl dX12_twoWith_77 (Nat.le_of_ble_eq_true rfl) rfl ?_
        obtain ⟨q22, hq22, h⟩ := xbd_some h
        refine ev_sub (L' := [(0, .ref (E.2.2.2 + iM)), (1, .int p0), (2, .int p1), (3, .int p2), (4, .int p3), (5, .int p4), (6, .int p5), (7, .int p6), (8, .long x1), (10, .int x2), (12, .int x10), (13, .long q11), (15, .int 0)]) [3, 4, 5, 6, 7, 8, 9, 10, 11, 12, 2, 1, 0] rfl ?_
        refine xloop_run (fun v => Ev E (xcm E d 0 0 QQ) Y_X12_twoWith 79 [(0, .ref (E.2.2.2 + iM)), (1, .int p0), (2, .int p1), (3, .int p2), (4, .int p3), (5, .int p4), (6, .int p5), (7, .int p6), (8, .long v.1), (10, .int x2), (12, .int x10), (13, .long q11), (15, .int v.2)] [] (xσ μ R) n 0 0) (fun v => Ev E (xcm E d 0 0 QQ) Y_X12_twoWith 141 [(0, .ref (E.2.2.2 + iM)), (1, .int p0), (2, .int p1), (3, .int p2), (4, .int p3), (5, .int p4), (6, .int p5), (7, .int p6), (8, .long v), (10, .int x2)] [] (xσ μ R) n 0 0) ?_ _ _ _ hq22 ?_
        · rintro ⟨x12, x13⟩ y14 h hk
          replace h : fX12_twoWith_b79 x12 x13 p1 p2 p5 p6 μ x2 x10 q11 = some y14 := h
          show Ev E (xcm E d 0 0 QQ) Y_X12_twoWith 79 [(0, .ref (E.2.2.2 + iM)), (1, .int p0), (2, .int p1), (3, .int p2), (4, .int p3), (5, .int p4), (6, .int p5), (7, .int p6), (8, .long x12), (10, .int x2), (12, .int x10), (13, .long q11), (15, .int x13)] [] (xσ μ R) n 0 0
          unfold fX12_twoWith_b79 at h
          refine ev_iload 12 dX12_twoWith_79 rfl ?_
          refine ev_aload_n 0 dX12_twoWith_81 rfl rfl ?_
          refine ev_iload_n 3 dX12_twoWith_82 rfl rfl ?_
          obtain ⟨q15, hq15, h⟩ := xbd_some h
          refine ev_callV (ci := 12) (rest := [.int x13]) 1 (kX12_endsOf (E := E) (d := 0) (QQ := (fun v τ n' => v = some (.int q15) ∧ τ = xσ μ R ∧ n = n')) (Nat.le_refl _) hF hq15 (⟨rfl, rfl, rfl⟩)) my_X12_endsOf ⟨m_1754, m_1756, m_88⟩ cl_12 kd_61 (xl hF rfl) rfl rfl (Nat.le_of_ble_eq_true rfl) (Nat.le_trans (by decide) hd) (xlo (by decide) (Nat.le_trans (by decide) hd)) (Nat.zero_le _) (Nat.zero_le _) dX12_twoWith_83 (fun v τ n' hv => ?_)
          obtain ⟨rfl, rfl, rfl⟩ := hv
          show Ev E (xcm E d 0 0 QQ) Y_X12_twoWith 86 [(0, .ref (E.2.2.2 + iM)), (1, .int p0), (2, .int p1), (3, .int p2), (4, .int p3), (5, .int p4), (6, .int p5), (7, .int p6), (8, .long x12), (10, .int x2), (12, .int x10), (13, .long q11), (15, .int x13)] [.int q15, .int x13] (xσ μ R) n 0 0
          refine ev_icmp_ge (tgt := 141) dX12_twoWith_86 (by decide) (fun c86 => ?_) (fun c86 => ?_)
          · replace h := xif_t c86 h
            cases h
            replace hk := xel_r hk
            exact ev_sub [0, 1, 2, 3, 4, 5, 6, 7, 8, 9] rfl (hk)
          · replace h := xif_f c86 h
            refine ev_lload 8 dX12_twoWith_89 rfl ?_
            refine ev_aload_n 0 dX12_twoWith_91 rfl rfl ?_
            refine ev_iload_n 3 dX12_twoWith_92 rfl rfl ?_
            refine ev_iload 9 dX12_twoWith_93 rfl ?_
            obtain ⟨q16, hq16, h⟩ := xbd_some h
            refine ev_callV (ci := 12) (rest := [.long x12]) 2 (kX12_weightAt (E := E) (d := 0) (QQ := (fun v τ n' => v = some (.int q16) ∧ τ = xσ μ R ∧ n = n')) (Nat.le_refl _) hF hq16 (⟨rfl, rfl, rfl⟩)) my_X12_weightAt ⟨m_1762, m_1764, m_90⟩ cl_12 kd_61 (xl hF rfl) rfl rfl (Nat.le_of_ble_eq_true rfl) (Nat.le_trans (by decide) hd) (xlo (by decide) (Nat.le_trans (by decide) hd)) (Nat.zero_le _) (Nat.zero_le _) dX12_twoWith_95 (fun v τ n' hv => ?_)
            obtain ⟨rfl, rfl, rfl⟩ := hv
            show Ev E (xcm E d 0 0 QQ) Y_X12_twoWith 98 [(0, .ref (E.2.2.2 + iM)), (1, .int p0), (2, .int p1), (3, .int p2), (4, .int p3), (5, .int p4), (6, .int p5), (7, .int p6), (8, .long x12), (10, .int x2), (12, .int x10), (13, .long q11), (15, .int x13)] [.int q16, .long x12] (xσ μ R) n 0 0
            refine ev_i2l dX12_twoWith_98 ?_
            refine ev_aload_n 0 dX12_twoWith_99 rfl rfl ?_
            refine ev_iload_n 3 dX12_twoWith_100 rfl rfl ?_
            refine ev_iload 12 dX12_twoWith_101 rfl ?_
            obtain ⟨q17, hq17, h⟩ := xbd_some h
            refine ev_callV (ci := 12) (rest := [.long (q16.toInt64), .long x12]) 2 (kX12_weightAt (E := E) (d := 0) (QQ := (fun v τ n' => v = some (.int q17) ∧ τ = xσ μ R ∧ n = n')) (Nat.le_refl _) hF hq17 (⟨rfl, rfl, rfl⟩)) my_X12_weightAt ⟨m_1762, m_1764, m_90⟩ cl_12 kd_61 (xl hF rfl) rfl rfl (Nat.le_of_ble_eq_true rfl) (Nat.le_trans (by decide) hd) (xlo (by decide) (Nat.le_trans (by decide) hd)) (Nat.zero_le _) (Nat.zero_le _) dX12_twoWith_103 (fun v τ n' hv => ?_)
            obtain ⟨rfl, rfl, rfl⟩ := hv
            show Ev E (xcm E d 0 0 QQ) Y_X12_twoWith 106 [(0, .ref (E.2.2.2 + iM)), (1, .int p0), (2, .int p1), (3, .int p2), (4, .int p3), (5, .int p4), (6, .int p5), (7, .int p6), (8, .long x12), (10, .int x2), (12, .int x10), (13, .long q11), (15, .int x13)] [.int q17, .long (q16.toInt64), .long x12] (xσ μ R) n 0 0
            refine ev_i2l dX12_twoWith_106 ?_
            refine ev_lmul dX12_twoWith_107 ?_
            refine ev_lload 11 dX12_twoWith_108 rfl ?_
            refine ev_aload_n 0 dX12_twoWith_110 rfl rfl ?_
            refine ev_iload_n 2 dX12_twoWith_111 rfl rfl ?_
            refine ev_iload_n 3 dX12_twoWith_112 rfl rfl ?_
            refine ev_iload 10 dX12_twoWith_113 rfl ?_
            refine ev_aload_n 0 dX12_twoWith_115 rfl rfl ?_
            refine ev_iload_n 3 dX12_twoWith_116 rfl rfl ?_
            refine ev_iload 12 dX12_twoWith_117 rfl ?_
            refine ev_iload 7 dX12_twoWith_119 rfl ?_
            obtain ⟨q18, hq18, h⟩ := xbd_some h
            refine ev_callV16 (ci := 12) (rest := [.int x10, .int p2, .int p1, .ref (E.2.2.2 + iM), .long q11, .long (q16.toInt64 * q17.toInt64), .long x12]) 3 (kX12_wayAt (E := E) (d := 1) (QQ := (fun v τ n' => v = some (.int q18) ∧ τ = xσ μ R ∧ n = n')) (Nat.le_refl _) hF hq18 (⟨rfl, rfl, rfl⟩)) my_X12_wayAt ⟨m_1758, m_1760, m_89⟩ cl_12 kd_61 (xl hF rfl) rfl rfl (Nat.le_of_ble_eq_true rfl) (Nat.le_trans (by decide) hd) (xlo16 (by decide) (Nat.le_trans (by decide) hd)) (Nat.zero_le _) (Nat.zero_le _) dX12_twoWith_121 (fun v τ n' hv => ?_)
            obtain ⟨rfl, rfl, rfl⟩ := hv
            show Ev E (xcm E d 0 0 QQ) Y_X12_twoWith 124 [(0, .ref (E.2.2.2 + iM)), (1, .int p0), (2, .int p1), (3, .int p2), (4, .int p3), (5, .int p4), (6, .int p5), (7, .int p6), (8, .long x12), (10, .int x2), (12, .int x10), (13, .long q11), (15, .int x13)] [.int q18, .int x10, .int p2, .int p1, .ref (E.2.2.2 + iM), .long q11, .long (q16.toInt64 * q17.toInt64), .long x12] (xσ μ R) n 0 0
            refine ev_iadd dX12_twoWith_124 ?_
            refine ev_iload 6 dX12_twoWith_125 rfl ?_
            obtain ⟨q19, hq19, h⟩ := xbd_some h
            refine ev_callV (ci := 12) (rest := [.long q11, .long (q16.toInt64 * q17.toInt64), .long x12]) 4 (kX12_comingCost (E := E) (d := 1) (QQ := (fun v τ n' => v = some (.long q19) ∧ τ = xσ μ R ∧ n = n')) (Nat.le_refl _) hF hq19 (⟨rfl, rfl, rfl⟩)) my_X12_comingCost ⟨m_1793, m_1795, m_95⟩ cl_12 kd_61 (xl hF rfl) rfl rfl (Nat.le_of_ble_eq_true rfl) (Nat.le_trans (by decide) hd) (xlo (by decide) (Nat.le_trans (by decide) hd)) (Nat.zero_le _) (Nat.zero_le _) dX12_twoWith_127 (fun v τ n' hv => ?_)
            obtain ⟨rfl, rfl, rfl⟩ := hv
            show Ev E (xcm E d 0 0 QQ) Y_X12_twoWith 130 [(0, .ref (E.2.2.2 + iM)), (1, .int p0), (2, .int p1), (3, .int p2), (4, .int p3), (5, .int p4), (6, .int p5), (7, .int p6), (8, .long x12), (10, .int x2), (12, .int x10), (13, .long q11), (15, .int x13)] [.long q19, .long q11, .long (q16.toInt64 * q17.toInt64), .long x12] (xσ μ R) n 0 0
            refine ev_ladd dX12_twoWith_130 ?_
            refine ev_lmul dX12_twoWith_131 ?_
            refine ev_ladd dX12_twoWith_132 ?_
            obtain ⟨x20, hx20, h⟩ := xlt_some h
            refine xv_lstore (L' := [(8, .long x20), (0, .ref (E.2.2.2 + iM)), (1, .int p0), (2, .int p1), (3, .int p2), (4, .int p3), (5, .int p4), (6, .int p5), (7, .int p6), (10, .int x2), (12, .int x10), (13, .long q11), (15, .int x13)]) hx20 dX12_twoWith_133 (Nat.le_of_ble_eq_true rfl) rfl ?_
            obtain ⟨x21, hx21, h⟩ := xlt_some h
            refine ev_iinc (L' := [(15, .int x21), (8, .long x20), (0, .ref (E.2.2.2 + iM)), (1, .int p0), (2, .int p1), (3, .int p2), (4, .int p3), (5, .int p4), (6, .int p5), (7, .int p6), (10, .int x2), (12, .int x10), (13, .long q11)]) 12 dX12_twoWith_135 rfl ((by rfl : x13 + Int32.ofInt 1 = x13 + 1).trans hx21) (Nat.le_of_ble_eq_true rfl) rfl ?_
            refine ev_goto (tgt := 79) dX12_twoWith_138 (by decide) ?_
            cases h
            replace hk := xel_l hk
            exact ev_sub [2, 3, 4, 5, 6, 7, 8, 9, 1, 10, 11, 12, 0] rfl (hk)
        · show Ev E (xcm E d 0 0 QQ) Y_X12_twoWith 141 [(0, .ref (E.2.2.2 + iM)), (1, .int p0), (2, .int p1), (3, .int p2), (4, .int p3), (5, .int p4), (6, .int p5), (7, .int p6), (8, .long q22), (10, .int x2)] [] (xσ μ R) n 0 0
          obtain ⟨x23, hx23, h⟩ := xlt_some h
          refine ev_iinc (L' := [(10, .int x23), (0, .ref (E.2.2.2 + iM)), (1, .int p0), (2, .int p1), (3, .int p2), (4, .int p3), (5, .int p4), (6, .int p5), (7, .int p6), (8, .long q22)]) 9 dX12_twoWith_141 rfl ((by rfl : x2 + Int32.ofInt 1 = x2 + 1).trans hx23) (Nat.le_of_ble_eq_true rfl) rfl ?_
          refine ev_goto (tgt := 6) dX12_twoWith_144 (by decide) ?_
          cases h
          replace hk := xel_l hk
          exact ev_sub [1, 2, 3, 4, 5, 6, 7, 8, 9, 0] rfl (hk)
      refine ev_icmp_le (tgt := 53) dX12_twoWith_45 (by decide) (fun c45 => ?_) (fun c45 => ?_)
      · replace h := xif_t c45 h
        refine ev_aload_n 1 dX12_twoWith_53 rfl rfl ?_
        refine xv_getF (a := iM_minuteOf) cl_12 lk_RX12_16 kd_61 (xl hF rfl) (fun _ => rfl) (fr_61_6 hF) dX12_twoWith_54 ?_
        refine ev_iload_n 2 dX12_twoWith_57 rfl rfl ?_
        obtain ⟨v24, hv24, h⟩ := xbd_some h
        refine xv_iald kd_64 (xl hF rfl) hv24 dX12_twoWith_58 ?_
        exact ev_sub [1, 2, 3, 4, 5, 6, 7, 8, 9, 10, 0] rfl (j59 _ h)
      · replace h := xif_f c45 h
        refine ev_iload 0 dX12_twoWith_48 rfl ?_
        refine ev_goto (tgt := 59) dX12_twoWith_50 (by decide) ?_
        exact ev_sub [1, 2, 3, 4, 5, 6, 7, 8, 9, 10, 0] rfl (j59 _ h)
  · show Ev E (xcm E d 0 0 QQ) Y_X12_twoWith 147 [(0, .ref (E.2.2.2 + iM)), (7, .int p6), (8, .long q25)] [] (xσ μ R) n 0 0
    refine ev_lload 2 dX12_twoWith_147 rfl ?_
    refine ev_aload_n 0 dX12_twoWith_149 rfl rfl ?_
    refine ev_iload 1 dX12_twoWith_150 rfl ?_
    obtain ⟨q26, hq26, h⟩ := xbd_some h
    refine ev_callV (ci := 12) (rest := [.long q25]) 1 (kX12_bridgeWeight (E := E) (d := 0) (QQ := (fun v τ n' => v = some (.int q26) ∧ τ = xσ μ R ∧ n = n')) (Nat.le_refl _) hF hq26 (⟨rfl, rfl, rfl⟩)) my_X12_bridgeWeight ⟨m_1746, m_1748, m_86⟩ cl_12 kd_61 (xl hF rfl) rfl rfl (Nat.le_of_ble_eq_true rfl) (Nat.le_trans (by decide) hd) (xlo (by decide) (Nat.le_trans (by decide) hd)) (Nat.zero_le _) (Nat.zero_le _) dX12_twoWith_152 (fun v τ n' hv => ?_)
    obtain ⟨rfl, rfl, rfl⟩ := hv
    show Ev E (xcm E d 0 0 QQ) Y_X12_twoWith 155 [(0, .ref (E.2.2.2 + iM)), (7, .int p6), (8, .long q25)] [.int q26, .long q25] (xσ μ R) n 0 0
    refine ev_i2l dX12_twoWith_155 ?_
    refine ev_lmul dX12_twoWith_156 ?_
    cases h
    exact ev_lret rfl (hQ) dX12_twoWith_157 (Nat.zero_le _) (Nat.zero_le _)
def fX12_areTwo (p0 : Int32) (p1 : Int32) (p2 : Int32) (μ : xm) : Option (Int32) := xbd (fX12_isOf p0 p1 μ) fun q1 => if q1 = 0 then (some 0) else (xbd (fX12_isOf p0 p2 μ) fun q2 => if q2 = 0 then (some 0) else (if p1 = p2 then (some 0) else (xbd (fX12_allCame p0 μ) fun q3 => if q3 = 0 then (some 0) else (some 1))))
set_option maxHeartbeats 4000000 in
set_option maxRecDepth 100000 in
theorem kX12_areTwo {E : xE} {d : Nat} {QQ : xP} (hd : 3 ≤ d) {p0 : Int32} {p1 : Int32} {p2 : Int32} {μ : xm} {R : xr} {n : Nat} (hF : xFin R n)  {res : Int32} (h : fX12_areTwo p0 p1 p2 μ = some res) (hQ : QQ (some (.int res)) (xσ μ R) n) : xCon E d Y_X12_areTwo 0 0 [.ref (E.2.2.2 + iM), .int p0, .int p1, .int p2] (xσ μ R) n QQ := by
  refine xCon_of pn_RX12 (Nat.le_of_ble_eq_true rfl) (L0 := [(0, .ref (E.2.2.2 + iM)), (1, .int p0), (2, .int p1), (3, .int p2)]) rfl ?_
  unfold fX12_areTwo at h
  refine ev_aload_n 0 dX12_areTwo_0 rfl rfl ?_
  refine ev_iload_n 1 dX12_areTwo_1 rfl rfl ?_
  refine ev_iload_n 2 dX12_areTwo_2 rfl rfl ?_
  obtain ⟨q1, hq1, h⟩ := xbd_some h
  refine ev_callV (ci := 12) (rest := []) 2 (kX12_isOf (E := E) (d := 1) (QQ := (fun v τ n' => v = some (.int q1) ∧ τ = xσ μ R ∧ n = n')) (Nat.le_refl _) hF hq1 (⟨rfl, rfl, rfl⟩)) my_X12_isOf ⟨m_1470, m_1472, m_40⟩ cl_12 kd_61 (xl hF rfl) rfl rfl (Nat.le_of_ble_eq_true rfl) (Nat.le_trans (by decide) hd) (xlo (by decide) (Nat.le_trans (by decide) hd)) (Nat.zero_le _) (Nat.zero_le _) dX12_areTwo_3 (fun v τ n' hv => ?_)
  obtain ⟨rfl, rfl, rfl⟩ := hv
  show Ev E (xcm E d 0 0 QQ) Y_X12_areTwo 6 [(0, .ref (E.2.2.2 + iM)), (1, .int p0), (2, .int p1), (3, .int p2)] [.int q1] (xσ μ R) n 0 0
  refine ev_if_eq (tgt := 35) dX12_areTwo_6 (by decide) (fun c6 => ?_) (fun c6 => ?_)
  · replace h := xif_t c6 h
    refine ev_iconst (v := 0) dX12_areTwo_35 (by decide) ?_
    cases h
    exact ev_zret rfl (Or.inl rfl) (hQ) dX12_areTwo_36 (Nat.zero_le _) (Nat.zero_le _)
  · replace h := xif_f c6 h
    refine ev_aload_n 0 dX12_areTwo_9 rfl rfl ?_
    refine ev_iload_n 1 dX12_areTwo_10 rfl rfl ?_
    refine ev_iload_n 3 dX12_areTwo_11 rfl rfl ?_
    obtain ⟨q2, hq2, h⟩ := xbd_some h
    refine ev_callV (ci := 12) (rest := []) 2 (kX12_isOf (E := E) (d := 1) (QQ := (fun v τ n' => v = some (.int q2) ∧ τ = xσ μ R ∧ n = n')) (Nat.le_refl _) hF hq2 (⟨rfl, rfl, rfl⟩)) my_X12_isOf ⟨m_1470, m_1472, m_40⟩ cl_12 kd_61 (xl hF rfl) rfl rfl (Nat.le_of_ble_eq_true rfl) (Nat.le_trans (by decide) hd) (xlo (by decide) (Nat.le_trans (by decide) hd)) (Nat.zero_le _) (Nat.zero_le _) dX12_areTwo_12 (fun v τ n' hv => ?_)
    obtain ⟨rfl, rfl, rfl⟩ := hv
    show Ev E (xcm E d 0 0 QQ) Y_X12_areTwo 15 [(0, .ref (E.2.2.2 + iM)), (1, .int p0), (2, .int p1), (3, .int p2)] [.int q2] (xσ μ R) n 0 0
    refine ev_if_eq (tgt := 35) dX12_areTwo_15 (by decide) (fun c15 => ?_) (fun c15 => ?_)
    · replace h := xif_t c15 h
      refine ev_iconst (v := 0) dX12_areTwo_35 (by decide) ?_
      cases h
      exact ev_zret rfl (Or.inl rfl) (hQ) dX12_areTwo_36 (Nat.zero_le _) (Nat.zero_le _)
    · replace h := xif_f c15 h
      refine ev_iload_n 2 dX12_areTwo_18 rfl rfl ?_
      refine ev_iload_n 3 dX12_areTwo_19 rfl rfl ?_
      refine ev_icmp_eq (tgt := 35) dX12_areTwo_20 (by decide) (fun c20 => ?_) (fun c20 => ?_)
      · replace h := xif_t c20 h
        refine ev_iconst (v := 0) dX12_areTwo_35 (by decide) ?_
        cases h
        exact ev_zret rfl (Or.inl rfl) (hQ) dX12_areTwo_36 (Nat.zero_le _) (Nat.zero_le _)
      · replace h := xif_f c20 h
        refine ev_aload_n 0 dX12_areTwo_23 rfl rfl ?_
        refine ev_iload_n 1 dX12_areTwo_24 rfl rfl ?_
        obtain ⟨q3, hq3, h⟩ := xbd_some h
        refine ev_callV (ci := 12) (rest := []) 1 (kX12_allCame (E := E) (d := 2) (QQ := (fun v τ n' => v = some (.int q3) ∧ τ = xσ μ R ∧ n = n')) (Nat.le_refl _) hF hq3 (⟨rfl, rfl, rfl⟩)) my_X12_allCame ⟨m_1482, m_1484, m_42⟩ cl_12 kd_61 (xl hF rfl) rfl rfl (Nat.le_of_ble_eq_true rfl) (Nat.le_trans (by decide) hd) (xlo (by decide) (Nat.le_trans (by decide) hd)) (Nat.zero_le _) (Nat.zero_le _) dX12_areTwo_25 (fun v τ n' hv => ?_)
        obtain ⟨rfl, rfl, rfl⟩ := hv
        show Ev E (xcm E d 0 0 QQ) Y_X12_areTwo 28 [(0, .ref (E.2.2.2 + iM)), (1, .int p0), (2, .int p1), (3, .int p2)] [.int q3] (xσ μ R) n 0 0
        refine ev_if_eq (tgt := 35) dX12_areTwo_28 (by decide) (fun c28 => ?_) (fun c28 => ?_)
        · replace h := xif_t c28 h
          refine ev_iconst (v := 0) dX12_areTwo_35 (by decide) ?_
          cases h
          exact ev_zret rfl (Or.inl rfl) (hQ) dX12_areTwo_36 (Nat.zero_le _) (Nat.zero_le _)
        · replace h := xif_f c28 h
          refine ev_iconst (v := 1) dX12_areTwo_31 (by decide) ?_
          refine ev_goto (tgt := 36) dX12_areTwo_32 (by decide) ?_
          cases h
          exact ev_zret rfl (Or.inr rfl) (hQ) dX12_areTwo_36 (Nat.zero_le _) (Nat.zero_le _)
def fX12_balances_j48 (x8 : Int32) (x1 : Int32) (x5 : Int32) (μ6 : xm) : Option ((Int32 × xm) ⊕ (xm)) := xbd (xsI μ6 iM_most0 64 ((8 * x1) + x5) x8) fun μ9 => xbd (xsI μ9 iM_least0 64 ((8 * x1) + x5) 0) fun μ10 => xlt (x5 + 1) fun x11 => some (.inl (x11, μ10))
def fX12_balances_b17 (x5 : Int32) (μ6 : xm) (x1 : Int32) : Option ((Int32 × xm) ⊕ (xm)) := if 8 ≤ x5 then (some (.inr μ6)) else (if x1 = x5 then (fX12_balances_j48 0 x1 x5 μ6) else (xbd (fX12_owed x1 x5 μ6) fun q12 => fX12_balances_j48 q12 x1 x5 μ6))
def fX12_balances_b2 (x1 : Int32) (μ2 : xm) : Option ((Int32 × xm) ⊕ (xm)) := if 8 ≤ x1 then (some (.inr μ2)) else (xbd (xsI μ2 iM_balance 8 x1 0) fun μ4 => xbd (xloop xfu (fun v => fX12_balances_b17 v.1 v.2 x1) (0, μ4)) fun q13 => xlt (x1 + 1) fun x14 => some (.inl (x14, q13)))
def fX12_balances_b83 (x19 : Int32) (μ20 : xm) (x16 : Int32) : Option ((Int32 × xm) ⊕ (xm)) := if 8 ≤ x19 then (some (.inr μ20)) else (xbd (xgI μ20 iM_balance 8 x16) fun v22 => xbd (xgI μ20 iM_most0 64 ((8 * x16) + x19)) fun v23 => xbd (xgI μ20 iM_most0 64 ((8 * x19) + x16)) fun v24 => xbd (xsI μ20 iM_balance 8 x16 ((v22 + v23) - v24)) fun μ25 => xlt (x19 + 1) fun x26 => some (.inl (x26, μ25)))
def fX12_balances_b75 (x16 : Int32) (μ17 : xm) : Option ((Int32 × xm) ⊕ (xm)) := if 8 ≤ x16 then (some (.inr μ17)) else (xbd (xloop xfu (fun v => fX12_balances_b83 v.1 v.2 x16) (0, μ17)) fun q27 => xlt (x16 + 1) fun x28 => some (.inl (x28, q27)))
def fX12_balances (μ : xm) : Option (xm) := xbd (xloop xfu (fun v => fX12_balances_b2 v.1 v.2) (0, μ)) fun q15 => xbd (xloop xfu (fun v => fX12_balances_b75 v.1 v.2) (0, q15)) fun q29 => some q29
set_option maxHeartbeats 4000000 in
set_option maxRecDepth 100000 in
theorem kX12_balances {E : xE} {d : Nat} {QQ : xP} (hd : 3 ≤ d)  {μ : xm} {R : xr} {n : Nat} (hF : xFin R n)  {res : xm} (h : fX12_balances μ = some res) (hQ : QQ none (xσ res R) n) : xCon E d Y_X12_balances 0 0 [.ref (E.2.2.2 + iM)] (xσ μ R) n QQ := by
  refine xCon_of pn_RX12 (Nat.le_of_ble_eq_true rfl) (L0 := [(0, .ref (E.2.2.2 + iM))]) rfl ?_
  unfold fX12_balances at h
  refine ev_iconst (v := 0) dX12_balances_0 (by decide) ?_
  refine xv_istore_n (L' := [(1, .int 0), (0, .ref (E.2.2.2 + iM))]) rfl dX12_balances_1 rfl (Nat.le_of_ble_eq_true rfl) rfl ?_
  obtain ⟨q15, hq15, h⟩ := xbd_some h
  refine ev_sub (L' := [(0, .ref (E.2.2.2 + iM)), (1, .int 0)]) [1, 0] rfl ?_
  refine xloop_run (fun v => Ev E (xcm E d 0 0 QQ) Y_X12_balances 2 [(0, .ref (E.2.2.2 + iM)), (1, .int v.1)] [] (xσ v.2 R) n 0 0) (fun v => Ev E (xcm E d 0 0 QQ) Y_X12_balances 73 [(0, .ref (E.2.2.2 + iM))] [] (xσ v R) n 0 0) ?_ _ _ _ hq15 ?_
  · rintro ⟨x1, μ2⟩ y3 h hk
    replace h : fX12_balances_b2 x1 μ2 = some y3 := h
    show Ev E (xcm E d 0 0 QQ) Y_X12_balances 2 [(0, .ref (E.2.2.2 + iM)), (1, .int x1)] [] (xσ μ2 R) n 0 0
    unfold fX12_balances_b2 at h
    refine ev_iload_n 1 dX12_balances_2 rfl rfl ?_
    refine ev_bipush (v := 8) dX12_balances_3 (by decide) ?_
    refine ev_icmp_ge (tgt := 73) dX12_balances_5 (by decide) (fun c5 => ?_) (fun c5 => ?_)
    · replace h := xif_t c5 h
      cases h
      replace hk := xel_r hk
      exact ev_sub [0] rfl (hk)
    · replace h := xif_f c5 h
      refine ev_aload_n 0 dX12_balances_8 rfl rfl ?_
      refine xv_getF (a := iM_balance) cl_12 lk_RX12_111 kd_61 (xl hF rfl) (fun _ => rfl) (fr_61_49 hF) dX12_balances_9 ?_
      refine ev_iload_n 1 dX12_balances_12 rfl rfl ?_
      refine ev_iconst (v := 0) dX12_balances_13 (by decide) ?_
      obtain ⟨μ4, hμ4, h⟩ := xbd_some h
      refine xv_iast kd_95 (xl hF rfl) hμ4 dX12_balances_14 ?_
      refine ev_iconst (v := 0) dX12_balances_15 (by decide) ?_
      refine xv_istore_n (L' := [(2, .int 0), (0, .ref (E.2.2.2 + iM)), (1, .int x1)]) rfl dX12_balances_16 rfl (Nat.le_of_ble_eq_true rfl) rfl ?_
      obtain ⟨q13, hq13, h⟩ := xbd_some h
      refine ev_sub (L' := [(0, .ref (E.2.2.2 + iM)), (1, .int x1), (2, .int 0)]) [1, 2, 0] rfl ?_
      refine xloop_run (fun v => Ev E (xcm E d 0 0 QQ) Y_X12_balances 17 [(0, .ref (E.2.2.2 + iM)), (1, .int x1), (2, .int v.1)] [] (xσ v.2 R) n 0 0) (fun v => Ev E (xcm E d 0 0 QQ) Y_X12_balances 67 [(0, .ref (E.2.2.2 + iM)), (1, .int x1)] [] (xσ v R) n 0 0) ?_ _ _ _ hq13 ?_
      · rintro ⟨x5, μ6⟩ y7 h hk
        replace h : fX12_balances_b17 x5 μ6 x1 = some y7 := h
        show Ev E (xcm E d 0 0 QQ) Y_X12_balances 17 [(0, .ref (E.2.2.2 + iM)), (1, .int x1), (2, .int x5)] [] (xσ μ6 R) n 0 0
        unfold fX12_balances_b17 at h
        refine ev_iload_n 2 dX12_balances_17 rfl rfl ?_
        refine ev_bipush (v := 8) dX12_balances_18 (by decide) ?_
        refine ev_icmp_ge (tgt := 67) dX12_balances_20 (by decide) (fun c20 => ?_) (fun c20 => ?_)
        · replace h := xif_t c20 h
          cases h
          replace hk := xel_r hk
          exact ev_sub [0, 1] rfl (hk)
        · replace h := xif_f c20 h
          refine ev_aload_n 0 dX12_balances_23 rfl rfl ?_
          refine xv_getF (a := iM_most0) cl_12 lk_RX12_108 kd_61 (xl hF rfl) (fun _ => rfl) (fr_61_48 hF) dX12_balances_24 ?_
          refine ev_bipush (v := 8) dX12_balances_27 (by decide) ?_
          refine ev_iload_n 1 dX12_balances_29 rfl rfl ?_
          refine ev_imul dX12_balances_30 ?_
          refine ev_iload_n 2 dX12_balances_31 rfl rfl ?_
          refine ev_iadd dX12_balances_32 ?_
          refine ev_iload_n 1 dX12_balances_33 rfl rfl ?_
          refine ev_iload_n 2 dX12_balances_34 rfl rfl ?_
          have j48 : ∀ (x8 : Int32), fX12_balances_j48 x8 x1 x5 μ6 = some y7 → Ev E (xcm E d 0 0 QQ) Y_X12_balances 48 [(0, .ref (E.2.2.2 + iM)), (1, .int x1), (2, .int x5)] [.int x8, .int ((8 * x1) + x5), .ref (E.2.2.2 + iM_most0)] (xσ μ6 R) n 0 0 := by
            intro x8 h
            unfold fX12_balances_j48 at h
            obtain ⟨μ9, hμ9, h⟩ := xbd_some h
            refine xv_iast kd_94 (xl hF rfl) hμ9 dX12_balances_48 ?_
            refine ev_aload_n 0 dX12_balances_49 rfl rfl ?_
            refine xv_getF (a := iM_least0) cl_12 lk_RX12_105 kd_61 (xl hF rfl) (fun _ => rfl) (fr_61_47 hF) dX12_balances_50 ?_
            refine ev_bipush (v := 8) dX12_balances_53 (by decide) ?_
            refine ev_iload_n 1 dX12_balances_55 rfl rfl ?_
            refine ev_imul dX12_balances_56 ?_
            refine ev_iload_n 2 dX12_balances_57 rfl rfl ?_
            refine ev_iadd dX12_balances_58 ?_
            refine ev_iconst (v := 0) dX12_balances_59 (by decide) ?_
            obtain ⟨μ10, hμ10, h⟩ := xbd_some h
            refine xv_iast kd_93 (xl hF rfl) hμ10 dX12_balances_60 ?_
            obtain ⟨x11, hx11, h⟩ := xlt_some h
            refine ev_iinc (L' := [(2, .int x11), (0, .ref (E.2.2.2 + iM)), (1, .int x1)]) 2 dX12_balances_61 rfl ((by rfl : x5 + Int32.ofInt 1 = x5 + 1).trans hx11) (Nat.le_of_ble_eq_true rfl) rfl ?_
            refine ev_goto (tgt := 17) dX12_balances_64 (by decide) ?_
            cases h
            replace hk := xel_l hk
            exact ev_sub [1, 2, 0] rfl (hk)
          refine ev_icmp_ne (tgt := 42) dX12_balances_35 (by decide) (fun c35 => ?_) (fun c35 => ?_)
          · replace h := xif_f c35 h
            refine ev_aload_n 0 dX12_balances_42 rfl rfl ?_
            refine ev_iload_n 1 dX12_balances_43 rfl rfl ?_
            refine ev_iload_n 2 dX12_balances_44 rfl rfl ?_
            obtain ⟨q12, hq12, h⟩ := xbd_some h
            refine ev_callV (ci := 12) (rest := [.int ((8 * x1) + x5), .ref (E.2.2.2 + iM_most0)]) 2 (kX12_owed (E := E) (d := 2) (QQ := (fun v τ n' => v = some (.int q12) ∧ τ = xσ μ6 R ∧ n = n')) (Nat.le_refl _) hF hq12 (⟨rfl, rfl, rfl⟩)) my_X12_owed ⟨m_1705, m_1685, m_1686⟩ cl_12 kd_61 (xl hF rfl) rfl rfl (Nat.le_of_ble_eq_true rfl) (Nat.le_trans (by decide) hd) (xlo (by decide) (Nat.le_trans (by decide) hd)) (Nat.zero_le _) (Nat.zero_le _) dX12_balances_45 (fun v τ n' hv => ?_)
            obtain ⟨rfl, rfl, rfl⟩ := hv
            show Ev E (xcm E d 0 0 QQ) Y_X12_balances 48 [(0, .ref (E.2.2.2 + iM)), (1, .int x1), (2, .int x5)] [.int q12, .int ((8 * x1) + x5), .ref (E.2.2.2 + iM_most0)] (xσ μ6 R) n 0 0
            exact ev_sub [0, 1, 2] rfl (j48 _ h)
          · replace h := xif_t c35 h
            refine ev_iconst (v := 0) dX12_balances_38 (by decide) ?_
            refine ev_goto (tgt := 48) dX12_balances_39 (by decide) ?_
            exact ev_sub [0, 1, 2] rfl (j48 _ h)
      · show Ev E (xcm E d 0 0 QQ) Y_X12_balances 67 [(0, .ref (E.2.2.2 + iM)), (1, .int x1)] [] (xσ q13 R) n 0 0
        obtain ⟨x14, hx14, h⟩ := xlt_some h
        refine ev_iinc (L' := [(1, .int x14), (0, .ref (E.2.2.2 + iM))]) 1 dX12_balances_67 rfl ((by rfl : x1 + Int32.ofInt 1 = x1 + 1).trans hx14) (Nat.le_of_ble_eq_true rfl) rfl ?_
        refine ev_goto (tgt := 2) dX12_balances_70 (by decide) ?_
        cases h
        replace hk := xel_l hk
        exact ev_sub [1, 0] rfl (hk)
  · show Ev E (xcm E d 0 0 QQ) Y_X12_balances 73 [(0, .ref (E.2.2.2 + iM))] [] (xσ q15 R) n 0 0
    refine ev_iconst (v := 0) dX12_balances_73 (by decide) ?_
    refine xv_istore_n (L' := [(1, .int 0), (0, .ref (E.2.2.2 + iM))]) rfl dX12_balances_74 rfl (Nat.le_of_ble_eq_true rfl) rfl ?_
    obtain ⟨q29, hq29, h⟩ := xbd_some h
    refine ev_sub (L' := [(0, .ref (E.2.2.2 + iM)), (1, .int 0)]) [1, 0] rfl ?_
    refine xloop_run (fun v => Ev E (xcm E d 0 0 QQ) Y_X12_balances 75 [(0, .ref (E.2.2.2 + iM)), (1, .int v.1)] [] (xσ v.2 R) n 0 0) (fun v => Ev E (xcm E d 0 0 QQ) Y_X12_balances 137 [] [] (xσ v R) n 0 0) ?_ _ _ _ hq29 ?_
    · rintro ⟨x16, μ17⟩ y18 h hk
      replace h : fX12_balances_b75 x16 μ17 = some y18 := h
      show Ev E (xcm E d 0 0 QQ) Y_X12_balances 75 [(0, .ref (E.2.2.2 + iM)), (1, .int x16)] [] (xσ μ17 R) n 0 0
      unfold fX12_balances_b75 at h
      refine ev_iload_n 1 dX12_balances_75 rfl rfl ?_
      refine ev_bipush (v := 8) dX12_balances_76 (by decide) ?_
      refine ev_icmp_ge (tgt := 137) dX12_balances_78 (by decide) (fun c78 => ?_) (fun c78 => ?_)
      · replace h := xif_t c78 h
        cases h
        replace hk := xel_r hk
        exact ev_sub [] rfl (hk)
      · replace h := xif_f c78 h
        refine ev_iconst (v := 0) dX12_balances_81 (by decide) ?_
        refine xv_istore_n (L' := [(2, .int 0), (0, .ref (E.2.2.2 + iM)), (1, .int x16)]) rfl dX12_balances_82 rfl (Nat.le_of_ble_eq_true rfl) rfl ?_
        obtain ⟨q27, hq27, h⟩ := xbd_some h
        refine ev_sub (L' := [(0, .ref (E.2.2.2 + iM)), (1, .int x16), (2, .int 0)]) [1, 2, 0] rfl ?_
        refine xloop_run (fun v => Ev E (xcm E d 0 0 QQ) Y_X12_balances 83 [(0, .ref (E.2.2.2 + iM)), (1, .int x16), (2, .int v.1)] [] (xσ v.2 R) n 0 0) (fun v => Ev E (xcm E d 0 0 QQ) Y_X12_balances 131 [(0, .ref (E.2.2.2 + iM)), (1, .int x16)] [] (xσ v R) n 0 0) ?_ _ _ _ hq27 ?_
        · rintro ⟨x19, μ20⟩ y21 h hk
          replace h : fX12_balances_b83 x19 μ20 x16 = some y21 := h
          show Ev E (xcm E d 0 0 QQ) Y_X12_balances 83 [(0, .ref (E.2.2.2 + iM)), (1, .int x16), (2, .int x19)] [] (xσ μ20 R) n 0 0
          unfold fX12_balances_b83 at h
          refine ev_iload_n 2 dX12_balances_83 rfl rfl ?_
          refine ev_bipush (v := 8) dX12_balances_84 (by decide) ?_
          refine ev_icmp_ge (tgt := 131) dX12_balances_86 (by decide) (fun c86 => ?_) (fun c86 => ?_)
          · replace h := xif_t c86 h
            cases h
            replace hk := xel_r hk
            exact ev_sub [0, 1] rfl (hk)
          · replace h := xif_f c86 h
            refine ev_aload_n 0 dX12_balances_89 rfl rfl ?_
            refine xv_getF (a := iM_balance) cl_12 lk_RX12_111 kd_61 (xl hF rfl) (fun _ => rfl) (fr_61_49 hF) dX12_balances_90 ?_
            refine ev_iload_n 1 dX12_balances_93 rfl rfl ?_
            refine ev_aload_n 0 dX12_balances_94 rfl rfl ?_
            refine xv_getF (a := iM_balance) cl_12 lk_RX12_111 kd_61 (xl hF rfl) (fun _ => rfl) (fr_61_49 hF) dX12_balances_95 ?_
            refine ev_iload_n 1 dX12_balances_98 rfl rfl ?_
            obtain ⟨v22, hv22, h⟩ := xbd_some h
            refine xv_iald kd_95 (xl hF rfl) hv22 dX12_balances_99 ?_
            refine ev_aload_n 0 dX12_balances_100 rfl rfl ?_
            refine xv_getF (a := iM_most0) cl_12 lk_RX12_108 kd_61 (xl hF rfl) (fun _ => rfl) (fr_61_48 hF) dX12_balances_101 ?_
            refine ev_bipush (v := 8) dX12_balances_104 (by decide) ?_
            refine ev_iload_n 1 dX12_balances_106 rfl rfl ?_
            refine ev_imul dX12_balances_107 ?_
            refine ev_iload_n 2 dX12_balances_108 rfl rfl ?_
            refine ev_iadd dX12_balances_109 ?_
            obtain ⟨v23, hv23, h⟩ := xbd_some h
            refine xv_iald kd_94 (xl hF rfl) hv23 dX12_balances_110 ?_
            refine ev_iadd dX12_balances_111 ?_
            refine ev_aload_n 0 dX12_balances_112 rfl rfl ?_
            refine xv_getF (a := iM_most0) cl_12 lk_RX12_108 kd_61 (xl hF rfl) (fun _ => rfl) (fr_61_48 hF) dX12_balances_113 ?_
            refine ev_bipush (v := 8) dX12_balances_116 (by decide) ?_
            refine ev_iload_n 2 dX12_balances_118 rfl rfl ?_
            refine ev_imul dX12_balances_119 ?_
            refine ev_iload_n 1 dX12_balances_120 rfl rfl ?_
            refine ev_iadd dX12_balances_121 ?_
            obtain ⟨v24, hv24, h⟩ := xbd_some h
            refine xv_iald kd_94 (xl hF rfl) hv24 dX12_balances_122 ?_
            refine ev_isub dX12_balances_123 ?_
            obtain ⟨μ25, hμ25, h⟩ := xbd_some h
            refine xv_iast kd_95 (xl hF rfl) hμ25 dX12_balances_124 ?_
            obtain ⟨x26, hx26, h⟩ := xlt_some h
            refine ev_iinc (L' := [(2, .int x26), (0, .ref (E.2.2.2 + iM)), (1, .int x16)]) 2 dX12_balances_125 rfl ((by rfl : x19 + Int32.ofInt 1 = x19 + 1).trans hx26) (Nat.le_of_ble_eq_true rfl) rfl ?_
            refine ev_goto (tgt := 83) dX12_balances_128 (by decide) ?_
            cases h
            replace hk := xel_l hk
            exact ev_sub [1, 2, 0] rfl (hk)
        · show Ev E (xcm E d 0 0 QQ) Y_X12_balances 131 [(0, .ref (E.2.2.2 + iM)), (1, .int x16)] [] (xσ q27 R) n 0 0
          obtain ⟨x28, hx28, h⟩ := xlt_some h
          refine ev_iinc (L' := [(1, .int x28), (0, .ref (E.2.2.2 + iM))]) 1 dX12_balances_131 rfl ((by rfl : x16 + Int32.ofInt 1 = x16 + 1).trans hx28) (Nat.le_of_ble_eq_true rfl) rfl ?_
          refine ev_goto (tgt := 75) dX12_balances_134 (by decide) ?_
          cases h
          replace hk := xel_l hk
          exact ev_sub [1, 0] rfl (hk)
    · show Ev E (xcm E d 0 0 QQ) Y_X12_balances 137 [] [] (xσ q29 R) n 0 0
      cases h
      exact ev_vret rfl (hQ) dX12_balances_137 (Nat.zero_le _) (Nat.zero_le _)
def fX12_begins (p0 : Int32) (μ : xm) : Option (Int32) := xbd (fX12_isMeeting p0 μ) fun q1 => if q1 = 0 then (some (-1)) else (xbd (fX12_allCame p0 μ) fun q2 => if q2 = 0 then (some (-1)) else (xbd (fX12_beginsAt p0 μ) fun q3 => some q3))
set_option maxHeartbeats 4000000 in
set_option maxRecDepth 100000 in
theorem kX12_begins {E : xE} {d : Nat} {QQ : xP} (hd : 3 ≤ d) {p0 : Int32} {μ : xm} {R : xr} {n : Nat} (hF : xFin R n)  {res : Int32} (h : fX12_begins p0 μ = some res) (hQ : QQ (some (.int res)) (xσ μ R) n) : xCon E d Y_X12_begins 0 0 [.ref (E.2.2.2 + iM), .int p0] (xσ μ R) n QQ := by
  refine xCon_of pn_RX12 (Nat.le_of_ble_eq_true rfl) (L0 := [(0, .ref (E.2.2.2 + iM)), (1, .int p0)]) rfl ?_
  unfold fX12_begins at h
  refine ev_aload_n 0 dX12_begins_0 rfl rfl ?_
  refine ev_iload_n 1 dX12_begins_1 rfl rfl ?_
  obtain ⟨q1, hq1, h⟩ := xbd_some h
  refine ev_callV (ci := 12) (rest := []) 1 (kX12_isMeeting (E := E) (d := 0) (QQ := (fun v τ n' => v = some (.int q1) ∧ τ = xσ μ R ∧ n = n')) (Nat.le_refl _) hF hq1 (⟨rfl, rfl, rfl⟩)) my_X12_isMeeting ⟨m_1474, m_1476, m_41⟩ cl_12 kd_61 (xl hF rfl) rfl rfl (Nat.le_of_ble_eq_true rfl) (Nat.le_trans (by decide) hd) (xlo (by decide) (Nat.le_trans (by decide) hd)) (Nat.zero_le _) (Nat.zero_le _) dX12_begins_2 (fun v τ n' hv => ?_)
  obtain ⟨rfl, rfl, rfl⟩ := hv
  show Ev E (xcm E d 0 0 QQ) Y_X12_begins 5 [(0, .ref (E.2.2.2 + iM)), (1, .int p0)] [.int q1] (xσ μ R) n 0 0
  refine ev_if_eq (tgt := 24) dX12_begins_5 (by decide) (fun c5 => ?_) (fun c5 => ?_)
  · replace h := xif_t c5 h
    refine ev_iconst (v := (-1)) dX12_begins_24 (by decide) ?_
    cases h
    exact ev_iret rfl (hQ) dX12_begins_25 (Nat.zero_le _) (Nat.zero_le _)
  · replace h := xif_f c5 h
    refine ev_aload_n 0 dX12_begins_8 rfl rfl ?_
    refine ev_iload_n 1 dX12_begins_9 rfl rfl ?_
    obtain ⟨q2, hq2, h⟩ := xbd_some h
    refine ev_callV (ci := 12) (rest := []) 1 (kX12_allCame (E := E) (d := 2) (QQ := (fun v τ n' => v = some (.int q2) ∧ τ = xσ μ R ∧ n = n')) (Nat.le_refl _) hF hq2 (⟨rfl, rfl, rfl⟩)) my_X12_allCame ⟨m_1482, m_1484, m_42⟩ cl_12 kd_61 (xl hF rfl) rfl rfl (Nat.le_of_ble_eq_true rfl) (Nat.le_trans (by decide) hd) (xlo (by decide) (Nat.le_trans (by decide) hd)) (Nat.zero_le _) (Nat.zero_le _) dX12_begins_10 (fun v τ n' hv => ?_)
    obtain ⟨rfl, rfl, rfl⟩ := hv
    show Ev E (xcm E d 0 0 QQ) Y_X12_begins 13 [(0, .ref (E.2.2.2 + iM)), (1, .int p0)] [.int q2] (xσ μ R) n 0 0
    refine ev_if_eq (tgt := 24) dX12_begins_13 (by decide) (fun c13 => ?_) (fun c13 => ?_)
    · replace h := xif_t c13 h
      refine ev_iconst (v := (-1)) dX12_begins_24 (by decide) ?_
      cases h
      exact ev_iret rfl (hQ) dX12_begins_25 (Nat.zero_le _) (Nat.zero_le _)
    · replace h := xif_f c13 h
      refine ev_aload_n 0 dX12_begins_16 rfl rfl ?_
      refine ev_iload_n 1 dX12_begins_17 rfl rfl ?_
      obtain ⟨q3, hq3, h⟩ := xbd_some h
      refine ev_callV (ci := 12) (rest := []) 1 (kX12_beginsAt (E := E) (d := 2) (QQ := (fun v τ n' => v = some (.int q3) ∧ τ = xσ μ R ∧ n = n')) (Nat.le_refl _) hF hq3 (⟨rfl, rfl, rfl⟩)) my_X12_beginsAt ⟨m_1486, m_1488, m_43⟩ cl_12 kd_61 (xl hF rfl) rfl rfl (Nat.le_of_ble_eq_true rfl) (Nat.le_trans (by decide) hd) (xlo (by decide) (Nat.le_trans (by decide) hd)) (Nat.zero_le _) (Nat.zero_le _) dX12_begins_18 (fun v τ n' hv => ?_)
      obtain ⟨rfl, rfl, rfl⟩ := hv
      show Ev E (xcm E d 0 0 QQ) Y_X12_begins 21 [(0, .ref (E.2.2.2 + iM)), (1, .int p0)] [.int q3] (xσ μ R) n 0 0
      refine ev_goto (tgt := 25) dX12_begins_21 (by decide) ?_
      cases h
      exact ev_iret rfl (hQ) dX12_begins_25 (Nat.zero_le _) (Nat.zero_le _)
def fX12_changes_j67 (x4 : Int32) (q9 : (Int64 × xm)) (x10 : Int64) : Option ((Int32 × Int64 × Int32 × xm) ⊕ (Int32 × xm)) := xlt (x4 + 5) fun x11 => some (.inl (x4, x10, x11, q9.2))
def fX12_changes_b17 (x2 : Int32) (x3 : Int64) (x4 : Int32) (μ5 : xm) (p0 : Int32) (p1 : Int32) (p2 : Int32) : Option ((Int32 × Int64 × Int32 × xm) ⊕ (Int32 × xm)) := if 120 < x4 then (some (.inr (x2, μ5))) else (xbd (xsI μ5 iM_aheadOf 4 p1 x4) fun μ7 => xbd (fX12_allWith p0 p1 p2 0 μ7) fun q8 => xbd (fX12_allWith p0 p1 p2 1 q8.2) fun q9 => xlt (q8.1 + q9.1) fun x10 => if x4 ≤ 0 then (fX12_changes_j67 x4 q9 x10) else (if (lg_cmp x10 x3) < 0 then (fX12_changes_j67 x4 q9 x10) else (xlt (x4 + 5) fun x12 => some (.inl (x2, x3, x12, q9.2)))))
def fX12_changes (p0 : Int32) (p1 : Int32) (p2 : Int32) (μ : xm) : Option (Int32 × xm) := xbd (xgI μ iM_aheadOf 4 p1) fun v1 => xbd (xloop xfu (fun v => fX12_changes_b17 v.1 v.2.1 v.2.2.1 v.2.2.2 p0 p1 p2) (0, 0, 0, μ)) fun q13 => xbd (xsI q13.2 iM_aheadOf 4 p1 q13.1) fun μ14 => if q13.1 = v1 then (some (0, μ14)) else (some (1, μ14))
set_option maxHeartbeats 4000000 in
set_option maxRecDepth 100000 in
theorem kX12_changes {E : xE} {d : Nat} {QQ : xP} (hd : 3 ≤ d) {p0 : Int32} {p1 : Int32} {p2 : Int32} {μ : xm} {R : xr} {n : Nat} (hF : xFin R n)  {res : Int32 × xm} (h : fX12_changes p0 p1 p2 μ = some res) (hQ : QQ (some (.int res.1)) (xσ res.2 R) n) : xCon E d Y_X12_changes 0 0 [.ref (E.2.2.2 + iM), .int p0, .int p1, .int p2] (xσ μ R) n QQ := by
  refine xCon_of pn_RX12 (Nat.le_of_ble_eq_true rfl) (L0 := [(0, .ref (E.2.2.2 + iM)), (1, .int p0), (2, .int p1), (3, .int p2)]) rfl ?_
  unfold fX12_changes at h
  refine ev_aload_n 0 dX12_changes_0 rfl rfl ?_
  refine xv_getF (a := iM_aheadOf) cl_12 lk_RX12_139 kd_61 (xl hF rfl) (fun _ => rfl) (fr_61_63 hF) dX12_changes_1 ?_
  refine ev_iload_n 2 dX12_changes_4 rfl rfl ?_
  obtain ⟨v1, hv1, h⟩ := xbd_some h
  refine xv_iald kd_104 (xl hF rfl) hv1 dX12_changes_5 ?_
  refine xv_istore (L' := [(4, .int v1), (0, .ref (E.2.2.2 + iM)), (1, .int p0), (2, .int p1), (3, .int p2)]) rfl dX12_changes_6 (Nat.le_of_ble_eq_true rfl) rfl ?_
  refine ev_iconst (v := 0) dX12_changes_8 (by decide) ?_
  refine xv_istore (L' := [(5, .int 0), (4, .int v1), (0, .ref (E.2.2.2 + iM)), (1, .int p0), (2, .int p1), (3, .int p2)]) rfl dX12_changes_9 (Nat.le_of_ble_eq_true rfl) rfl ?_
  refine ev_lconst (v := 0) dX12_changes_11 (by decide) ?_
  refine xv_lstore (L' := [(6, .long 0), (5, .int 0), (4, .int v1), (0, .ref (E.2.2.2 + iM)), (1, .int p0), (2, .int p1), (3, .int p2)]) rfl dX12_changes_12 (Nat.le_of_ble_eq_true rfl) rfl ?_
  refine ev_iconst (v := 0) dX12_changes_14 (by decide) ?_
  refine xv_istore (L' := [(8, .int 0), (6, .long 0), (5, .int 0), (4, .int v1), (0, .ref (E.2.2.2 + iM)), (1, .int p0), (2, .int p1), (3, .int p2)]) rfl dX12_changes_15 (Nat.le_of_ble_eq_true rfl) rfl ?_
  obtain ⟨q13, hq13, h⟩ := xbd_some h
  refine ev_sub (L' := [(0, .ref (E.2.2.2 + iM)), (1, .int p0), (2, .int p1), (3, .int p2), (4, .int v1), (5, .int 0), (6, .long 0), (8, .int 0)]) [4, 5, 6, 7, 3, 2, 1, 0] rfl ?_
  refine xloop_run (fun v => Ev E (xcm E d 0 0 QQ) Y_X12_changes 17 [(0, .ref (E.2.2.2 + iM)), (1, .int p0), (2, .int p1), (3, .int p2), (4, .int v1), (5, .int v.1), (6, .long v.2.1), (8, .int v.2.2.1)] [] (xσ v.2.2.2 R) n 0 0) (fun v => Ev E (xcm E d 0 0 QQ) Y_X12_changes 84 [(0, .ref (E.2.2.2 + iM)), (2, .int p1), (4, .int v1), (5, .int v.1)] [] (xσ v.2 R) n 0 0) ?_ _ _ _ hq13 ?_
  · rintro ⟨x2, x3, x4, μ5⟩ y6 h hk
    replace h : fX12_changes_b17 x2 x3 x4 μ5 p0 p1 p2 = some y6 := h
    show Ev E (xcm E d 0 0 QQ) Y_X12_changes 17 [(0, .ref (E.2.2.2 + iM)), (1, .int p0), (2, .int p1), (3, .int p2), (4, .int v1), (5, .int x2), (6, .long x3), (8, .int x4)] [] (xσ μ5 R) n 0 0
    unfold fX12_changes_b17 at h
    refine ev_iload 7 dX12_changes_17 rfl ?_
    refine ev_bipush (v := 120) dX12_changes_19 (by decide) ?_
    refine ev_icmp_gt (tgt := 84) dX12_changes_21 (by decide) (fun c21 => ?_) (fun c21 => ?_)
    · replace h := xif_t c21 h
      cases h
      replace hk := xel_r hk
      exact ev_sub [0, 2, 4, 5] rfl (hk)
    · replace h := xif_f c21 h
      refine ev_aload_n 0 dX12_changes_24 rfl rfl ?_
      refine xv_getF (a := iM_aheadOf) cl_12 lk_RX12_139 kd_61 (xl hF rfl) (fun _ => rfl) (fr_61_63 hF) dX12_changes_25 ?_
      refine ev_iload_n 2 dX12_changes_28 rfl rfl ?_
      refine ev_iload 7 dX12_changes_29 rfl ?_
      obtain ⟨μ7, hμ7, h⟩ := xbd_some h
      refine xv_iast kd_104 (xl hF rfl) hμ7 dX12_changes_31 ?_
      refine ev_aload_n 0 dX12_changes_32 rfl rfl ?_
      refine ev_iload_n 1 dX12_changes_33 rfl rfl ?_
      refine ev_iload_n 2 dX12_changes_34 rfl rfl ?_
      refine ev_iload_n 3 dX12_changes_35 rfl rfl ?_
      refine ev_iconst (v := 0) dX12_changes_36 (by decide) ?_
      obtain ⟨q8, hq8, h⟩ := xbd_some h
      refine ev_callV (ci := 12) (rest := []) 4 (kX12_allWith (E := E) (d := 2) (QQ := (fun v τ n' => v = some (.long q8.1) ∧ τ = xσ q8.2 R ∧ n = n')) (Nat.le_refl _) hF hq8 (⟨rfl, rfl, rfl⟩)) my_X12_allWith ⟨m_1837, m_1839, m_102⟩ cl_12 kd_61 (xl hF rfl) rfl rfl (Nat.le_of_ble_eq_true rfl) (Nat.le_trans (by decide) hd) (xlo (by decide) (Nat.le_trans (by decide) hd)) (Nat.zero_le _) (Nat.zero_le _) dX12_changes_37 (fun v τ n' hv => ?_)
      obtain ⟨rfl, rfl, rfl⟩ := hv
      show Ev E (xcm E d 0 0 QQ) Y_X12_changes 40 [(0, .ref (E.2.2.2 + iM)), (1, .int p0), (2, .int p1), (3, .int p2), (4, .int v1), (5, .int x2), (6, .long x3), (8, .int x4)] [.long q8.1] (xσ q8.2 R) n 0 0
      refine ev_aload_n 0 dX12_changes_40 rfl rfl ?_
      refine ev_iload_n 1 dX12_changes_41 rfl rfl ?_
      refine ev_iload_n 2 dX12_changes_42 rfl rfl ?_
      refine ev_iload_n 3 dX12_changes_43 rfl rfl ?_
      refine ev_iconst (v := 1) dX12_changes_44 (by decide) ?_
      obtain ⟨q9, hq9, h⟩ := xbd_some h
      refine ev_callV (ci := 12) (rest := [.long q8.1]) 4 (kX12_allWith (E := E) (d := 2) (QQ := (fun v τ n' => v = some (.long q9.1) ∧ τ = xσ q9.2 R ∧ n = n')) (Nat.le_refl _) hF hq9 (⟨rfl, rfl, rfl⟩)) my_X12_allWith ⟨m_1837, m_1839, m_102⟩ cl_12 kd_61 (xl hF rfl) rfl rfl (Nat.le_of_ble_eq_true rfl) (Nat.le_trans (by decide) hd) (xlo (by decide) (Nat.le_trans (by decide) hd)) (Nat.zero_le _) (Nat.zero_le _) dX12_changes_45 (fun v τ n' hv => ?_)
      obtain ⟨rfl, rfl, rfl⟩ := hv
      show Ev E (xcm E d 0 0 QQ) Y_X12_changes 48 [(0, .ref (E.2.2.2 + iM)), (1, .int p0), (2, .int p1), (3, .int p2), (4, .int v1), (5, .int x2), (6, .long x3), (8, .int x4)] [.long q9.1, .long q8.1] (xσ q9.2 R) n 0 0
      refine ev_ladd dX12_changes_48 ?_
      obtain ⟨x10, hx10, h⟩ := xlt_some h
      refine xv_lstore (L' := [(9, .long x10), (0, .ref (E.2.2.2 + iM)), (1, .int p0), (2, .int p1), (3, .int p2), (4, .int v1), (5, .int x2), (6, .long x3), (8, .int x4)]) hx10 dX12_changes_49 (Nat.le_of_ble_eq_true rfl) rfl ?_
      refine ev_iload 8 dX12_changes_51 rfl ?_
      have j67 : fX12_changes_j67 x4 q9 x10 = some y6 → Ev E (xcm E d 0 0 QQ) Y_X12_changes 67 [(0, .ref (E.2.2.2 + iM)), (1, .int p0), (2, .int p1), (3, .int p2), (4, .int v1), (8, .int x4), (9, .long x10)] [] (xσ q9.2 R) n 0 0 := by
        intro h
        unfold fX12_changes_j67 at h
        refine ev_lload 6 dX12_changes_67 rfl ?_
        refine xv_lstore (L' := [(6, .long x10), (0, .ref (E.2.2.2 + iM)), (1, .int p0), (2, .int p1), (3, .int p2), (4, .int v1), (8, .int x4), (9, .long x10)]) rfl dX12_changes_69 (Nat.le_of_ble_eq_true rfl) rfl ?_
        refine ev_iload 6 dX12_changes_71 rfl ?_
        refine xv_istore (L' := [(5, .int x4), (6, .long x10), (0, .ref (E.2.2.2 + iM)), (1, .int p0), (2, .int p1), (3, .int p2), (4, .int v1), (8, .int x4), (9, .long x10)]) rfl dX12_changes_73 (Nat.le_of_ble_eq_true rfl) rfl ?_
        refine ev_iload 7 dX12_changes_75 rfl ?_
        refine ev_iconst (v := 5) dX12_changes_77 (by decide) ?_
        refine ev_iadd dX12_changes_78 ?_
        obtain ⟨x11, hx11, h⟩ := xlt_some h
        refine xv_istore (L' := [(8, .int x11), (5, .int x4), (6, .long x10), (0, .ref (E.2.2.2 + iM)), (1, .int p0), (2, .int p1), (3, .int p2), (4, .int v1), (9, .long x10)]) hx11 dX12_changes_79 (Nat.le_of_ble_eq_true rfl) rfl ?_
        refine ev_goto (tgt := 17) dX12_changes_81 (by decide) ?_
        cases h
        replace hk := xel_l hk
        exact ev_sub [3, 4, 5, 6, 7, 1, 2, 0] rfl (hk)
      refine ev_if_le (tgt := 67) dX12_changes_53 (by decide) (fun c53 => ?_) (fun c53 => ?_)
      · replace h := xif_t c53 h
        exact ev_sub [1, 2, 3, 4, 5, 8, 0] rfl (j67 h)
      · replace h := xif_f c53 h
        refine ev_lload 0 dX12_changes_56 rfl ?_
        refine ev_lload 7 dX12_changes_58 rfl ?_
        refine ev_lcmp dX12_changes_60 ?_
        refine ev_if_lt (tgt := 67) dX12_changes_61 (by decide) (fun c61 => ?_) (fun c61 => ?_)
        · replace h := xif_t c61 h
          exact ev_sub [1, 2, 3, 4, 5, 8, 0] rfl (j67 h)
        · replace h := xif_f c61 h
          refine ev_goto (tgt := 75) dX12_changes_64 (by decide) ?_
          refine ev_iload 8 dX12_changes_75 rfl ?_
          refine ev_iconst (v := 5) dX12_changes_77 (by decide) ?_
          refine ev_iadd dX12_changes_78 ?_
          obtain ⟨x12, hx12, h⟩ := xlt_some h
          refine xv_istore (L' := [(8, .int x12), (9, .long x10), (0, .ref (E.2.2.2 + iM)), (1, .int p0), (2, .int p1), (3, .int p2), (4, .int v1), (5, .int x2), (6, .long x3)]) hx12 dX12_changes_79 (Nat.le_of_ble_eq_true rfl) rfl ?_
          refine ev_goto (tgt := 17) dX12_changes_81 (by decide) ?_
          cases h
          replace hk := xel_l hk
          exact ev_sub [2, 3, 4, 5, 6, 7, 8, 0] rfl (hk)
  · show Ev E (xcm E d 0 0 QQ) Y_X12_changes 84 [(0, .ref (E.2.2.2 + iM)), (2, .int p1), (4, .int v1), (5, .int q13.1)] [] (xσ q13.2 R) n 0 0
    refine ev_aload_n 0 dX12_changes_84 rfl rfl ?_
    refine xv_getF (a := iM_aheadOf) cl_12 lk_RX12_139 kd_61 (xl hF rfl) (fun _ => rfl) (fr_61_63 hF) dX12_changes_85 ?_
    refine ev_iload_n 1 dX12_changes_88 rfl rfl ?_
    refine ev_iload 3 dX12_changes_89 rfl ?_
    obtain ⟨μ14, hμ14, h⟩ := xbd_some h
    refine xv_iast kd_104 (xl hF rfl) hμ14 dX12_changes_91 ?_
    refine ev_iload 3 dX12_changes_92 rfl ?_
    refine ev_iload 2 dX12_changes_94 rfl ?_
    refine ev_icmp_eq (tgt := 103) dX12_changes_96 (by decide) (fun c96 => ?_) (fun c96 => ?_)
    · replace h := xif_t c96 h
      refine ev_iconst (v := 0) dX12_changes_103 (by decide) ?_
      cases h
      exact ev_zret rfl (Or.inl rfl) (hQ) dX12_changes_104 (Nat.zero_le _) (Nat.zero_le _)
    · replace h := xif_f c96 h
      refine ev_iconst (v := 1) dX12_changes_99 (by decide) ?_
      refine ev_goto (tgt := 104) dX12_changes_100 (by decide) ?_
      cases h
      exact ev_zret rfl (Or.inr rfl) (hQ) dX12_changes_104 (Nat.zero_le _) (Nat.zero_le _)
def fX12_costOf (p0 : Int32) (p1 : Int32) (p2 : Int32) (p3 : Int32) (μ : xm) : Option (Int64) := xbd (fX12_costWith p0 p1 p2 p3 0 μ) fun q1 => xbd (fX12_costWith p0 p1 p2 p3 1 μ) fun q2 => some (q1 + q2)
set_option maxHeartbeats 4000000 in
set_option maxRecDepth 100000 in
theorem kX12_costOf {E : xE} {d : Nat} {QQ : xP} (hd : 3 ≤ d) {p0 : Int32} {p1 : Int32} {p2 : Int32} {p3 : Int32} {μ : xm} {R : xr} {n : Nat} (hF : xFin R n)  {res : Int64} (h : fX12_costOf p0 p1 p2 p3 μ = some res) (hQ : QQ (some (.long res)) (xσ μ R) n) : xCon E d Y_X12_costOf 0 0 [.ref (E.2.2.2 + iM), .int p0, .int p1, .int p2, .int p3] (xσ μ R) n QQ := by
  refine xCon_of pn_RX12 (Nat.le_of_ble_eq_true rfl) (L0 := [(0, .ref (E.2.2.2 + iM)), (1, .int p0), (2, .int p1), (3, .int p2), (4, .int p3)]) rfl ?_
  unfold fX12_costOf at h
  refine ev_aload_n 0 dX12_costOf_0 rfl rfl ?_
  refine ev_iload_n 1 dX12_costOf_1 rfl rfl ?_
  refine ev_iload_n 2 dX12_costOf_2 rfl rfl ?_
  refine ev_iload_n 3 dX12_costOf_3 rfl rfl ?_
  refine ev_iload 4 dX12_costOf_4 rfl ?_
  refine ev_iconst (v := 0) dX12_costOf_6 (by decide) ?_
  obtain ⟨q1, hq1, h⟩ := xbd_some h
  refine ev_callV (ci := 12) (rest := []) 5 (kX12_costWith (E := E) (d := 2) (QQ := (fun v τ n' => v = some (.long q1) ∧ τ = xσ μ R ∧ n = n')) (Nat.le_refl _) hF hq1 (⟨rfl, rfl, rfl⟩)) my_X12_costWith ⟨m_1789, m_1791, m_94⟩ cl_12 kd_61 (xl hF rfl) rfl rfl (Nat.le_of_ble_eq_true rfl) (Nat.le_trans (by decide) hd) (xlo (by decide) (Nat.le_trans (by decide) hd)) (Nat.zero_le _) (Nat.zero_le _) dX12_costOf_7 (fun v τ n' hv => ?_)
  obtain ⟨rfl, rfl, rfl⟩ := hv
  show Ev E (xcm E d 0 0 QQ) Y_X12_costOf 10 [(0, .ref (E.2.2.2 + iM)), (1, .int p0), (2, .int p1), (3, .int p2), (4, .int p3)] [.long q1] (xσ μ R) n 0 0
  refine ev_aload_n 0 dX12_costOf_10 rfl rfl ?_
  refine ev_iload_n 1 dX12_costOf_11 rfl rfl ?_
  refine ev_iload_n 2 dX12_costOf_12 rfl rfl ?_
  refine ev_iload_n 3 dX12_costOf_13 rfl rfl ?_
  refine ev_iload 4 dX12_costOf_14 rfl ?_
  refine ev_iconst (v := 1) dX12_costOf_16 (by decide) ?_
  obtain ⟨q2, hq2, h⟩ := xbd_some h
  refine ev_callV (ci := 12) (rest := [.long q1]) 5 (kX12_costWith (E := E) (d := 2) (QQ := (fun v τ n' => v = some (.long q2) ∧ τ = xσ μ R ∧ n = n')) (Nat.le_refl _) hF hq2 (⟨rfl, rfl, rfl⟩)) my_X12_costWith ⟨m_1789, m_1791, m_94⟩ cl_12 kd_61 (xl hF rfl) rfl rfl (Nat.le_of_ble_eq_true rfl) (Nat.le_trans (by decide) hd) (xlo (by decide) (Nat.le_trans (by decide) hd)) (Nat.zero_le _) (Nat.zero_le _) dX12_costOf_17 (fun v τ n' hv => ?_)
  obtain ⟨rfl, rfl, rfl⟩ := hv
  show Ev E (xcm E d 0 0 QQ) Y_X12_costOf 20 [(0, .ref (E.2.2.2 + iM)), (1, .int p0), (2, .int p1), (3, .int p2), (4, .int p3)] [.long q2, .long q1] (xσ μ R) n 0 0
  refine ev_ladd dX12_costOf_20 ?_
  cases h
  exact ev_lret rfl (hQ) dX12_costOf_21 (Nat.zero_le _) (Nat.zero_le _)
def fX12_draw_b59 (x7 : Int32) (μ8 : xm) (p0 : Int32) (p1 : Int32) (x6 : Int32) : Option ((Int32 × xm) ⊕ (xm)) := if 8 ≤ x7 then (some (.inr μ8)) else (xbd (fX12_isOf p0 x7 μ8) fun q10 => if q10 = 0 then (xlt (x7 + 1) fun x21 => some (.inl (x21, μ8))) else (xbd (xgI μ8 iM_minuteOf 24 p0) fun v11 => xbd (fX12_drawnEnd x7 μ8) fun q12 => xbd (fX12_wayAt x7 q12.1 x6 q12.2) fun q13 => xlt ((v11 - p1) + q13) fun x14 => if 0 ≤ x14 then (if x14 ≤ 1439 then (xbd (xsI q12.2 iM_cameAt 192 ((8 * p0) + x7) x14) fun μ15 => xlt (x7 + 1) fun x16 => some (.inl (x16, μ15))) else (xbd (xsI q12.2 iM_cameAt 192 ((8 * p0) + x7) 1439) fun μ17 => xlt (x7 + 1) fun x18 => some (.inl (x18, μ17)))) else (xbd (xsI q12.2 iM_cameAt 192 ((8 * p0) + x7) 0) fun μ19 => xlt (x7 + 1) fun x20 => some (.inl (x20, μ19)))))
def fX12_draw_j55 (x6 : Int32) (p0 : Int32) (p1 : Int32) (q4 : xm) : Option (Int32 × xm) := xbd (xloop xfu (fun v => fX12_draw_b59 v.1 v.2 p0 p1 x6) (0, q4)) fun q22 => if x6 = 0 then (some (0, q22)) else (some (1, q22))
def fX12_draw (p0 : Int32) (p1 : Int32) (μ : xm) : Option (Int32 × xm) := xbd (fX12_isMeeting p0 μ) fun q1 => if q1 = 0 then (some ((-1), μ)) else (xbd (xgI μ iM_isSettled 24 p0) fun v2 => if v2 = 0 then (xbd (fX12_in p1 0 600) fun q3 => if q3 = 0 then (some ((-1), μ)) else (xbd (fX12_draws μ) fun q4 => xbd (xrem (q4.1 iM 2) (q4.1 iM 54)) fun v5 => if (q4.1 iM 53) ≤ v5 then (fX12_draw_j55 0 p0 p1 q4) else (fX12_draw_j55 1 p0 p1 q4))) else (some ((-1), μ)))
set_option maxHeartbeats 4000000 in
set_option maxRecDepth 100000 in
theorem kX12_draw {E : xE} {d : Nat} {QQ : xP} (hd : 3 ≤ d) {p0 : Int32} {p1 : Int32} {μ : xm} {R : xr} {n : Nat} (hF : xFin R n)  {res : Int32 × xm} (h : fX12_draw p0 p1 μ = some res) (hQ : QQ (some (.int res.1)) (xσ res.2 R) n) : xCon E d Y_X12_draw 0 0 [.ref (E.2.2.2 + iM), .int p0, .int p1] (xσ μ R) n QQ := by
  refine xCon_of pn_RX12 (Nat.le_of_ble_eq_true rfl) (L0 := [(0, .ref (E.2.2.2 + iM)), (1, .int p0), (2, .int p1)]) rfl ?_
  unfold fX12_draw at h
  refine ev_aload_n 0 dX12_draw_0 rfl rfl ?_
  refine ev_iload_n 1 dX12_draw_1 rfl rfl ?_
  obtain ⟨q1, hq1, h⟩ := xbd_some h
  refine ev_callV (ci := 12) (rest := []) 1 (kX12_isMeeting (E := E) (d := 0) (QQ := (fun v τ n' => v = some (.int q1) ∧ τ = xσ μ R ∧ n = n')) (Nat.le_refl _) hF hq1 (⟨rfl, rfl, rfl⟩)) my_X12_isMeeting ⟨m_1474, m_1476, m_41⟩ cl_12 kd_61 (xl hF rfl) rfl rfl (Nat.le_of_ble_eq_true rfl) (Nat.le_trans (by decide) hd) (xlo (by decide) (Nat.le_trans (by decide) hd)) (Nat.zero_le _) (Nat.zero_le _) dX12_draw_2 (fun v τ n' hv => ?_)
  obtain ⟨rfl, rfl, rfl⟩ := hv
  show Ev E (xcm E d 0 0 QQ) Y_X12_draw 5 [(0, .ref (E.2.2.2 + iM)), (1, .int p0), (2, .int p1)] [.int q1] (xσ μ R) n 0 0
  refine ev_if_eq (tgt := 28) dX12_draw_5 (by decide) (fun c5 => ?_) (fun c5 => ?_)
  · replace h := xif_t c5 h
    refine ev_iconst (v := (-1)) dX12_draw_28 (by decide) ?_
    cases h
    exact ev_iret rfl (hQ) dX12_draw_29 (Nat.zero_le _) (Nat.zero_le _)
  · replace h := xif_f c5 h
    refine ev_aload_n 0 dX12_draw_8 rfl rfl ?_
    refine xv_getF (a := iM_isSettled) cl_12 lk_RX12_25 kd_61 (xl hF rfl) (fun _ => rfl) (fr_61_9 hF) dX12_draw_9 ?_
    refine ev_iload_n 1 dX12_draw_12 rfl rfl ?_
    obtain ⟨v2, hv2, h⟩ := xbd_some h
    refine xv_zald kd_67 (xl hF rfl) hv2 dX12_draw_13 ?_
    refine ev_if_ne (tgt := 28) dX12_draw_14 (by decide) (fun c14 => ?_) (fun c14 => ?_)
    · replace h := xif_f c14 h
      refine ev_iconst (v := (-1)) dX12_draw_28 (by decide) ?_
      cases h
      exact ev_iret rfl (hQ) dX12_draw_29 (Nat.zero_le _) (Nat.zero_le _)
    · replace h := xif_t c14 h
      refine ev_iload_n 2 dX12_draw_17 rfl rfl ?_
      refine ev_iconst (v := 0) dX12_draw_18 (by decide) ?_
      refine ev_sipush (v := 600) dX12_draw_19 (by decide) ?_
      obtain ⟨q3, hq3, h⟩ := xbd_some h
      refine ev_callS (As := [.int p1, .int 0, .int 600]) (rest := []) 3 (kX12_in (E := E) (d := 0) (QQ := (fun v τ n' => v = some (.int q3) ∧ τ = xσ μ R ∧ n = n')) (Nat.le_refl _)  hq3 (⟨rfl, rfl, rfl⟩)) my_X12_in ⟨m_1449, m_1450⟩ rfl rfl (Nat.le_of_ble_eq_true rfl) (Nat.le_trans (by decide) hd) (xlo (by decide) (Nat.le_trans (by decide) hd)) (Nat.zero_le _) (Nat.zero_le _) dX12_draw_22 (fun v τ n' hv => ?_)
      obtain ⟨rfl, rfl, rfl⟩ := hv
      show Ev E (xcm E d 0 0 QQ) Y_X12_draw 25 [(0, .ref (E.2.2.2 + iM)), (1, .int p0), (2, .int p1)] [.int q3] (xσ μ R) n 0 0
      refine ev_if_ne (tgt := 30) dX12_draw_25 (by decide) (fun c25 => ?_) (fun c25 => ?_)
      · replace h := xif_f c25 h
        refine ev_aload_n 0 dX12_draw_30 rfl rfl ?_
        obtain ⟨q4, hq4, h⟩ := xbd_some h
        refine ev_callV (ci := 12) (rest := []) 0 (kX12_draws (E := E) (d := 0) (QQ := (fun v τ n' => v = none ∧ τ = xσ q4 R ∧ n = n')) (Nat.le_refl _) hF hq4 (⟨rfl, rfl, rfl⟩)) my_X12_draws ⟨m_1858, m_1860, m_104⟩ cl_12 kd_61 (xl hF rfl) rfl rfl (Nat.le_of_ble_eq_true rfl) (Nat.le_trans (by decide) hd) (xlo (by decide) (Nat.le_trans (by decide) hd)) (Nat.zero_le _) (Nat.zero_le _) dX12_draw_31 (fun v τ n' hv => ?_)
        obtain ⟨rfl, rfl, rfl⟩ := hv
        show Ev E (xcm E d 0 0 QQ) Y_X12_draw 34 [(0, .ref (E.2.2.2 + iM)), (1, .int p0), (2, .int p1)] [] (xσ q4 R) n 0 0
        refine ev_aload_n 0 dX12_draw_34 rfl rfl ?_
        refine xv_getI cl_12 lk_RX12_152 kd_61 (xl hF rfl) (fun _ => rfl) dX12_draw_35 ?_
        refine ev_aload_n 0 dX12_draw_38 rfl rfl ?_
        refine xv_getI cl_12 lk_RX12_148 kd_61 (xl hF rfl) (fun _ => rfl) dX12_draw_39 ?_
        obtain ⟨v5, hv5, h⟩ := xbd_some h
        refine xv_irem hv5 dX12_draw_42 ?_
        refine ev_aload_n 0 dX12_draw_43 rfl rfl ?_
        refine xv_getI cl_12 lk_RX12_374 kd_61 (xl hF rfl) (fun _ => rfl) dX12_draw_44 ?_
        have j55 : ∀ (x6 : Int32), fX12_draw_j55 x6 p0 p1 q4 = some res → Ev E (xcm E d 0 0 QQ) Y_X12_draw 55 [(0, .ref (E.2.2.2 + iM)), (1, .int p0), (2, .int p1)] [.int x6] (xσ q4 R) n 0 0 := by
          intro x6 h
          unfold fX12_draw_j55 at h
          refine xv_istore_n (L' := [(3, .int x6), (0, .ref (E.2.2.2 + iM)), (1, .int p0), (2, .int p1)]) rfl dX12_draw_55 rfl (Nat.le_of_ble_eq_true rfl) rfl ?_
          refine ev_iconst (v := 0) dX12_draw_56 (by decide) ?_
          refine xv_istore (L' := [(4, .int 0), (3, .int x6), (0, .ref (E.2.2.2 + iM)), (1, .int p0), (2, .int p1)]) rfl dX12_draw_57 (Nat.le_of_ble_eq_true rfl) rfl ?_
          obtain ⟨q22, hq22, h⟩ := xbd_some h
          refine ev_sub (L' := [(0, .ref (E.2.2.2 + iM)), (1, .int p0), (2, .int p1), (3, .int x6), (4, .int 0)]) [2, 3, 4, 1, 0] rfl ?_
          refine xloop_run (fun v => Ev E (xcm E d 0 0 QQ) Y_X12_draw 59 [(0, .ref (E.2.2.2 + iM)), (1, .int p0), (2, .int p1), (3, .int x6), (4, .int v.1)] [] (xσ v.2 R) n 0 0) (fun v => Ev E (xcm E d 0 0 QQ) Y_X12_draw 146 [(3, .int x6)] [] (xσ v R) n 0 0) ?_ _ _ _ hq22 ?_
          · rintro ⟨x7, μ8⟩ y9 h hk
            replace h : fX12_draw_b59 x7 μ8 p0 p1 x6 = some y9 := h
            show Ev E (xcm E d 0 0 QQ) Y_X12_draw 59 [(0, .ref (E.2.2.2 + iM)), (1, .int p0), (2, .int p1), (3, .int x6), (4, .int x7)] [] (xσ μ8 R) n 0 0
            unfold fX12_draw_b59 at h
            refine ev_iload 4 dX12_draw_59 rfl ?_
            refine ev_bipush (v := 8) dX12_draw_61 (by decide) ?_
            refine ev_icmp_ge (tgt := 146) dX12_draw_63 (by decide) (fun c63 => ?_) (fun c63 => ?_)
            · replace h := xif_t c63 h
              cases h
              replace hk := xel_r hk
              exact ev_sub [3] rfl (hk)
            · replace h := xif_f c63 h
              refine ev_aload_n 0 dX12_draw_66 rfl rfl ?_
              refine ev_iload_n 1 dX12_draw_67 rfl rfl ?_
              refine ev_iload 4 dX12_draw_68 rfl ?_
              obtain ⟨q10, hq10, h⟩ := xbd_some h
              refine ev_callV (ci := 12) (rest := []) 2 (kX12_isOf (E := E) (d := 1) (QQ := (fun v τ n' => v = some (.int q10) ∧ τ = xσ μ8 R ∧ n = n')) (Nat.le_refl _) hF hq10 (⟨rfl, rfl, rfl⟩)) my_X12_isOf ⟨m_1470, m_1472, m_40⟩ cl_12 kd_61 (xl hF rfl) rfl rfl (Nat.le_of_ble_eq_true rfl) (Nat.le_trans (by decide) hd) (xlo (by decide) (Nat.le_trans (by decide) hd)) (Nat.zero_le _) (Nat.zero_le _) dX12_draw_70 (fun v τ n' hv => ?_)
              obtain ⟨rfl, rfl, rfl⟩ := hv
              show Ev E (xcm E d 0 0 QQ) Y_X12_draw 73 [(0, .ref (E.2.2.2 + iM)), (1, .int p0), (2, .int p1), (3, .int x6), (4, .int x7)] [.int q10] (xσ μ8 R) n 0 0
              refine ev_if_ne (tgt := 79) dX12_draw_73 (by decide) (fun c73 => ?_) (fun c73 => ?_)
              · replace h := xif_f c73 h
                refine ev_aload_n 0 dX12_draw_79 rfl rfl ?_
                refine xv_getF (a := iM_minuteOf) cl_12 lk_RX12_16 kd_61 (xl hF rfl) (fun _ => rfl) (fr_61_6 hF) dX12_draw_80 ?_
                refine ev_iload_n 1 dX12_draw_83 rfl rfl ?_
                obtain ⟨v11, hv11, h⟩ := xbd_some h
                refine xv_iald kd_64 (xl hF rfl) hv11 dX12_draw_84 ?_
                refine ev_iload_n 2 dX12_draw_85 rfl rfl ?_
                refine ev_isub dX12_draw_86 ?_
                refine ev_aload_n 0 dX12_draw_87 rfl rfl ?_
                refine ev_iload 4 dX12_draw_88 rfl ?_
                refine ev_aload_n 0 dX12_draw_90 rfl rfl ?_
                refine ev_iload 4 dX12_draw_91 rfl ?_
                obtain ⟨q12, hq12, h⟩ := xbd_some h
                refine ev_callV (ci := 12) (rest := [.int x7, .ref (E.2.2.2 + iM), .int (v11 - p1)]) 1 (kX12_drawnEnd (E := E) (d := 2) (QQ := (fun v τ n' => v = some (.int q12.1) ∧ τ = xσ q12.2 R ∧ n = n')) (Nat.le_refl _) hF hq12 (⟨rfl, rfl, rfl⟩)) my_X12_drawnEnd ⟨m_1863, m_1865, m_105⟩ cl_12 kd_61 (xl hF rfl) rfl rfl (Nat.le_of_ble_eq_true rfl) (Nat.le_trans (by decide) hd) (xlo (by decide) (Nat.le_trans (by decide) hd)) (Nat.zero_le _) (Nat.zero_le _) dX12_draw_93 (fun v τ n' hv => ?_)
                obtain ⟨rfl, rfl, rfl⟩ := hv
                show Ev E (xcm E d 0 0 QQ) Y_X12_draw 96 [(0, .ref (E.2.2.2 + iM)), (1, .int p0), (2, .int p1), (3, .int x6), (4, .int x7)] [.int q12.1, .int x7, .ref (E.2.2.2 + iM), .int (v11 - p1)] (xσ q12.2 R) n 0 0
                refine ev_iload_n 3 dX12_draw_96 rfl rfl ?_
                obtain ⟨q13, hq13, h⟩ := xbd_some h
                refine ev_callV (ci := 12) (rest := [.int (v11 - p1)]) 3 (kX12_wayAt (E := E) (d := 1) (QQ := (fun v τ n' => v = some (.int q13) ∧ τ = xσ q12.2 R ∧ n = n')) (Nat.le_refl _) hF hq13 (⟨rfl, rfl, rfl⟩)) my_X12_wayAt ⟨m_1758, m_1760, m_89⟩ cl_12 kd_61 (xl hF rfl) rfl rfl (Nat.le_of_ble_eq_true rfl) (Nat.le_trans (by decide) hd) (xlo (by decide) (Nat.le_trans (by decide) hd)) (Nat.zero_le _) (Nat.zero_le _) dX12_draw_97 (fun v τ n' hv => ?_)
                obtain ⟨rfl, rfl, rfl⟩ := hv
                show Ev E (xcm E d 0 0 QQ) Y_X12_draw 100 [(0, .ref (E.2.2.2 + iM)), (1, .int p0), (2, .int p1), (3, .int x6), (4, .int x7)] [.int q13, .int (v11 - p1)] (xσ q12.2 R) n 0 0
                refine ev_iadd dX12_draw_100 ?_
                obtain ⟨x14, hx14, h⟩ := xlt_some h
                refine xv_istore (L' := [(5, .int x14), (0, .ref (E.2.2.2 + iM)), (1, .int p0), (2, .int p1), (3, .int x6), (4, .int x7)]) hx14 dX12_draw_101 (Nat.le_of_ble_eq_true rfl) rfl ?_
                refine ev_aload_n 1 dX12_draw_103 rfl rfl ?_
                refine xv_getF (a := iM_cameAt) cl_12 lk_RX12_22 kd_61 (xl hF rfl) (fun _ => rfl) (fr_61_8 hF) dX12_draw_104 ?_
                refine ev_bipush (v := 8) dX12_draw_107 (by decide) ?_
                refine ev_iload_n 2 dX12_draw_109 rfl rfl ?_
                refine ev_imul dX12_draw_110 ?_
                refine ev_iload 5 dX12_draw_111 rfl ?_
                refine ev_iadd dX12_draw_113 ?_
                refine ev_iload 0 dX12_draw_114 rfl ?_
                refine ev_if_ge (tgt := 123) dX12_draw_116 (by decide) (fun c116 => ?_) (fun c116 => ?_)
                · replace h := xif_t c116 h
                  refine ev_iload 0 dX12_draw_123 rfl ?_
                  refine ev_sipush (v := 1439) dX12_draw_125 (by decide) ?_
                  refine ev_icmp_le (tgt := 137) dX12_draw_128 (by decide) (fun c128 => ?_) (fun c128 => ?_)
                  · replace h := xif_t c128 h
                    refine ev_iload 0 dX12_draw_137 rfl ?_
                    obtain ⟨μ15, hμ15, h⟩ := xbd_some h
                    refine xv_iast kd_66 (xl hF rfl) hμ15 dX12_draw_139 ?_
                    obtain ⟨x16, hx16, h⟩ := xlt_some h
                    refine ev_iinc (L' := [(4, .int x16), (5, .int x14), (0, .ref (E.2.2.2 + iM)), (1, .int p0), (2, .int p1), (3, .int x6)]) 5 dX12_draw_140 rfl ((by rfl : x7 + Int32.ofInt 1 = x7 + 1).trans hx16) (Nat.le_of_ble_eq_true rfl) rfl ?_
                    refine ev_goto (tgt := 59) dX12_draw_143 (by decide) ?_
                    cases h
                    replace hk := xel_l hk
                    exact ev_sub [2, 3, 4, 5, 0] rfl (hk)
                  · replace h := xif_f c128 h
                    refine ev_sipush (v := 1439) dX12_draw_131 (by decide) ?_
                    refine ev_goto (tgt := 139) dX12_draw_134 (by decide) ?_
                    obtain ⟨μ17, hμ17, h⟩ := xbd_some h
                    refine xv_iast kd_66 (xl hF rfl) hμ17 dX12_draw_139 ?_
                    obtain ⟨x18, hx18, h⟩ := xlt_some h
                    refine ev_iinc (L' := [(4, .int x18), (5, .int x14), (0, .ref (E.2.2.2 + iM)), (1, .int p0), (2, .int p1), (3, .int x6)]) 5 dX12_draw_140 rfl ((by rfl : x7 + Int32.ofInt 1 = x7 + 1).trans hx18) (Nat.le_of_ble_eq_true rfl) rfl ?_
                    refine ev_goto (tgt := 59) dX12_draw_143 (by decide) ?_
                    cases h
                    replace hk := xel_l hk
                    exact ev_sub [2, 3, 4, 5, 0] rfl (hk)
                · replace h := xif_f c116 h
                  refine ev_iconst (v := 0) dX12_draw_119 (by decide) ?_
                  refine ev_goto (tgt := 139) dX12_draw_120 (by decide) ?_
                  obtain ⟨μ19, hμ19, h⟩ := xbd_some h
                  refine xv_iast kd_66 (xl hF rfl) hμ19 dX12_draw_139 ?_
                  obtain ⟨x20, hx20, h⟩ := xlt_some h
                  refine ev_iinc (L' := [(4, .int x20), (5, .int x14), (0, .ref (E.2.2.2 + iM)), (1, .int p0), (2, .int p1), (3, .int x6)]) 5 dX12_draw_140 rfl ((by rfl : x7 + Int32.ofInt 1 = x7 + 1).trans hx20) (Nat.le_of_ble_eq_true rfl) rfl ?_
                  refine ev_goto (tgt := 59) dX12_draw_143 (by decide) ?_
                  cases h
                  replace hk := xel_l hk
                  exact ev_sub [2, 3, 4, 5, 0] rfl (hk)
              · replace h := xif_t c73 h
                refine ev_goto (tgt := 140) dX12_draw_76 (by decide) ?_
                obtain ⟨x21, hx21, h⟩ := xlt_some h
                refine ev_iinc (L' := [(4, .int x21), (0, .ref (E.2.2.2 + iM)), (1, .int p0), (2, .int p1), (3, .int x6)]) 4 dX12_draw_140 rfl ((by rfl : x7 + Int32.ofInt 1 = x7 + 1).trans hx21) (Nat.le_of_ble_eq_true rfl) rfl ?_
                refine ev_goto (tgt := 59) dX12_draw_143 (by decide) ?_
                cases h
                replace hk := xel_l hk
                exact ev_sub [1, 2, 3, 4, 0] rfl (hk)
          · show Ev E (xcm E d 0 0 QQ) Y_X12_draw 146 [(3, .int x6)] [] (xσ q22 R) n 0 0
            refine ev_iload_n 0 dX12_draw_146 rfl rfl ?_
            refine ev_if_eq (tgt := 154) dX12_draw_147 (by decide) (fun c147 => ?_) (fun c147 => ?_)
            · replace h := xif_t c147 h
              refine ev_iconst (v := 0) dX12_draw_154 (by decide) ?_
              cases h
              exact ev_iret rfl (hQ) dX12_draw_155 (Nat.zero_le _) (Nat.zero_le _)
            · replace h := xif_f c147 h
              refine ev_iconst (v := 1) dX12_draw_150 (by decide) ?_
              refine ev_goto (tgt := 155) dX12_draw_151 (by decide) ?_
              cases h
              exact ev_iret rfl (hQ) dX12_draw_155 (Nat.zero_le _) (Nat.zero_le _)
        refine ev_icmp_ge (tgt := 54) dX12_draw_47 (by decide) (fun c47 => ?_) (fun c47 => ?_)
        · replace h := xif_t c47 h
          refine ev_iconst (v := 0) dX12_draw_54 (by decide) ?_
          exact ev_sub [0, 1, 2] rfl (j55 _ h)
        · replace h := xif_f c47 h
          refine ev_iconst (v := 1) dX12_draw_50 (by decide) ?_
          refine ev_goto (tgt := 55) dX12_draw_51 (by decide) ?_
          exact ev_sub [0, 1, 2] rfl (j55 _ h)
      · replace h := xif_t c25 h
        refine ev_iconst (v := (-1)) dX12_draw_28 (by decide) ?_
        cases h
        exact ev_iret rfl (hQ) dX12_draw_29 (Nat.zero_le _) (Nat.zero_le _)
