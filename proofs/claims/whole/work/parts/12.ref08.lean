def fX12_hangs_b3 (x1 : Int32) (μ2 : xm) : Option ((Int32 × xm) ⊕ (xm)) := if 9 ≤ x1 then (some (.inr μ2)) else (if x1 = 0 then (xbd (xsJ μ2 iM_lateBy 9 x1 1) fun μ6 => xlt (x1 + 1) fun x7 => some (.inl (x7, μ6))) else (xbd (xsJ μ2 iM_lateBy 9 x1 0) fun μ4 => xlt (x1 + 1) fun x5 => some (.inl (x5, μ4))))
def fX12_hangs_b81 (x15 : Int32) (μ16 : xm) (q12 : Int32) (x14 : Int32) : Option ((Int32 × xm) ⊕ (xm)) := if x15 ≤ 0 then (some (.inr μ16)) else (xbd (xgJ μ16 iM_lateBy 9 x15) fun v18 => xbd (xgJ μ16 iM_lateBy 9 (x15 - 1)) fun v19 => xbd (xsJ μ16 iM_lateBy 9 x15 ((v18 * x14.toInt64) + (v19 * q12.toInt64))) fun μ20 => xlt (x15 + (-1)) fun x21 => some (.inl (x21, μ20)))
def fX12_hangs_b36 (x9 : Int32) (μ10 : xm) (p0 : Int32) (p1 : Int32) (p3 : Int32) : Option ((Int32 × xm) ⊕ (xm)) := if 8 ≤ x9 then (some (.inr μ10)) else (if ((p0 >>> (x9 &&& 31)) &&& 1) = 0 then (xlt (x9 + 1) fun x26 => some (.inl (x26, μ10))) else (xbd (fX12_lateWeight x9 p1 p3 μ10) fun q12 => xbd (fX12_weightsOf x9 μ10) fun q13 => xlt (q13 - q12) fun x14 => xbd (xloop xfu (fun v => fX12_hangs_b81 v.1 v.2 q12 x14) (8, μ10)) fun q22 => xbd (xgJ q22 iM_lateBy 9 0) fun v23 => xbd (xsJ q22 iM_lateBy 9 0 (v23 * x14.toInt64)) fun μ24 => xlt (x9 + 1) fun x25 => some (.inl (x25, μ24))))
def fX12_hangs (p0 : Int32) (p1 : Int32) (p2 : Int32) (p3 : Int32) (μ : xm) : Option (Int64 × xm) := xbd (xloop xfu (fun v => fX12_hangs_b3 v.1 v.2) (0, μ)) fun q8 => xbd (xloop xfu (fun v => fX12_hangs_b36 v.1 v.2 p0 p1 p3) (0, q8)) fun q27 => xbd (fX12_bridgeWeight p3 q27) fun q28 => xbd (xgJ q27 iM_lateBy 9 p2) fun v29 => some (q28.toInt64 * v29, q27)
set_option maxHeartbeats 4000000 in
set_option maxRecDepth 100000 in
theorem kX12_hangs {E : xE} {d : Nat} {QQ : xP} (hd : 3 ≤ d) {p0 : Int32} {p1 : Int32} {p2 : Int32} {p3 : Int32} {μ : xm} {R : xr} {n : Nat} (hF : xFin R n)  {res : Int64 × xm} (h : fX12_hangs p0 p1 p2 p3 μ = some res) (hQ : QQ (some (.long res.1)) (xσ res.2 R) n) : xCon E d Y_X12_hangs 0 0 [.ref (E.2.2.2 + iM), .int p0, .int p1, .int p2, .int p3] (xσ μ R) n QQ := by
  refine xCon_of pn_RX12 (Nat.le_of_ble_eq_true rfl) (L0 := [(0, .ref (E.2.2.2 + iM)), (1, .int p0), (2, .int p1), (3, .int p2), (4, .int p3)]) rfl ?_
  unfold fX12_hangs at h
  refine ev_iconst (v := 0) dX12_hangs_0 (by decide) ?_
  refine xv_istore (L' := [(5, .int 0), (0, .ref (E.2.2.2 + iM)), (1, .int p0), (2, .int p1), (3, .int p2), (4, .int p3)]) rfl dX12_hangs_1 (Nat.le_of_ble_eq_true rfl) rfl ?_
  obtain ⟨q8, hq8, h⟩ := xbd_some h
  refine ev_sub (L' := [(0, .ref (E.2.2.2 + iM)), (1, .int p0), (2, .int p1), (3, .int p2), (4, .int p3), (5, .int 0)]) [1, 2, 3, 4, 5, 0] rfl ?_
  refine xloop_run (fun v => Ev E (xcm E d 0 0 QQ) Y_X12_hangs 3 [(0, .ref (E.2.2.2 + iM)), (1, .int p0), (2, .int p1), (3, .int p2), (4, .int p3), (5, .int v.1)] [] (xσ v.2 R) n 0 0) (fun v => Ev E (xcm E d 0 0 QQ) Y_X12_hangs 33 [(0, .ref (E.2.2.2 + iM)), (1, .int p0), (2, .int p1), (3, .int p2), (4, .int p3)] [] (xσ v R) n 0 0) ?_ _ _ _ hq8 ?_
  · rintro ⟨x1, μ2⟩ y3 h hk
    replace h : fX12_hangs_b3 x1 μ2 = some y3 := h
    show Ev E (xcm E d 0 0 QQ) Y_X12_hangs 3 [(0, .ref (E.2.2.2 + iM)), (1, .int p0), (2, .int p1), (3, .int p2), (4, .int p3), (5, .int x1)] [] (xσ μ2 R) n 0 0
    unfold fX12_hangs_b3 at h
    refine ev_iload 5 dX12_hangs_3 rfl ?_
    refine ev_bipush (v := 9) dX12_hangs_5 (by decide) ?_
    refine ev_icmp_ge (tgt := 33) dX12_hangs_7 (by decide) (fun c7 => ?_) (fun c7 => ?_)
    · replace h := xif_t c7 h
      cases h
      replace hk := xel_r hk
      exact ev_sub [0, 1, 2, 3, 4] rfl (hk)
    · replace h := xif_f c7 h
      refine ev_aload_n 0 dX12_hangs_10 rfl rfl ?_
      refine xv_getF (a := iM_lateBy) cl_12 lk_RX12_132 kd_61 (xl hF rfl) (fun _ => rfl) (fr_61_60 hF) dX12_hangs_11 ?_
      refine ev_iload 5 dX12_hangs_14 rfl ?_
      refine ev_iload 5 dX12_hangs_16 rfl ?_
      refine ev_if_ne (tgt := 25) dX12_hangs_18 (by decide) (fun c18 => ?_) (fun c18 => ?_)
      · replace h := xif_f c18 h
        refine ev_lconst (v := 0) dX12_hangs_25 (by decide) ?_
        obtain ⟨μ4, hμ4, h⟩ := xbd_some h
        refine xv_last kd_102 (xl hF rfl) hμ4 dX12_hangs_26 ?_
        obtain ⟨x5, hx5, h⟩ := xlt_some h
        refine ev_iinc (L' := [(5, .int x5), (0, .ref (E.2.2.2 + iM)), (1, .int p0), (2, .int p1), (3, .int p2), (4, .int p3)]) 5 dX12_hangs_27 rfl ((by rfl : x1 + Int32.ofInt 1 = x1 + 1).trans hx5) (Nat.le_of_ble_eq_true rfl) rfl ?_
        refine ev_goto (tgt := 3) dX12_hangs_30 (by decide) ?_
        cases h
        replace hk := xel_l hk
        exact ev_sub [1, 2, 3, 4, 5, 0] rfl (hk)
      · replace h := xif_t c18 h
        refine ev_lconst (v := 1) dX12_hangs_21 (by decide) ?_
        refine ev_goto (tgt := 26) dX12_hangs_22 (by decide) ?_
        obtain ⟨μ6, hμ6, h⟩ := xbd_some h
        refine xv_last kd_102 (xl hF rfl) hμ6 dX12_hangs_26 ?_
        obtain ⟨x7, hx7, h⟩ := xlt_some h
        refine ev_iinc (L' := [(5, .int x7), (0, .ref (E.2.2.2 + iM)), (1, .int p0), (2, .int p1), (3, .int p2), (4, .int p3)]) 5 dX12_hangs_27 rfl ((by rfl : x1 + Int32.ofInt 1 = x1 + 1).trans hx7) (Nat.le_of_ble_eq_true rfl) rfl ?_
        refine ev_goto (tgt := 3) dX12_hangs_30 (by decide) ?_
        cases h
        replace hk := xel_l hk
        exact ev_sub [1, 2, 3, 4, 5, 0] rfl (hk)
  · show Ev E (xcm E d 0 0 QQ) Y_X12_hangs 33 [(0, .ref (E.2.2.2 + iM)), (1, .int p0), (2, .int p1), (3, .int p2), (4, .int p3)] [] (xσ q8 R) n 0 0
    refine ev_iconst (v := 0) dX12_hangs_33 (by decide) ?_
    refine xv_istore (L' := [(5, .int 0), (0, .ref (E.2.2.2 + iM)), (1, .int p0), (2, .int p1), (3, .int p2), (4, .int p3)]) rfl dX12_hangs_34 (Nat.le_of_ble_eq_true rfl) rfl ?_
    obtain ⟨q27, hq27, h⟩ := xbd_some h
    refine ev_sub (L' := [(0, .ref (E.2.2.2 + iM)), (1, .int p0), (2, .int p1), (3, .int p2), (4, .int p3), (5, .int 0)]) [1, 2, 3, 4, 5, 0] rfl ?_
    refine xloop_run (fun v => Ev E (xcm E d 0 0 QQ) Y_X12_hangs 36 [(0, .ref (E.2.2.2 + iM)), (1, .int p0), (2, .int p1), (3, .int p2), (4, .int p3), (5, .int v.1)] [] (xσ v.2 R) n 0 0) (fun v => Ev E (xcm E d 0 0 QQ) Y_X12_hangs 146 [(0, .ref (E.2.2.2 + iM)), (3, .int p2), (4, .int p3)] [] (xσ v R) n 0 0) ?_ _ _ _ hq27 ?_
    · rintro ⟨x9, μ10⟩ y11 h hk
      replace h : fX12_hangs_b36 x9 μ10 p0 p1 p3 = some y11 := h
      show Ev E (xcm E d 0 0 QQ) Y_X12_hangs 36 [(0, .ref (E.2.2.2 + iM)), (1, .int p0), (2, .int p1), (3, .int p2), (4, .int p3), (5, .int x9)] [] (xσ μ10 R) n 0 0
      unfold fX12_hangs_b36 at h
      refine ev_iload 5 dX12_hangs_36 rfl ?_
      refine ev_bipush (v := 8) dX12_hangs_38 (by decide) ?_
      refine ev_icmp_ge (tgt := 146) dX12_hangs_40 (by decide) (fun c40 => ?_) (fun c40 => ?_)
      · replace h := xif_t c40 h
        cases h
        replace hk := xel_r hk
        exact ev_sub [0, 3, 4] rfl (hk)
      · replace h := xif_f c40 h
        refine ev_iload_n 1 dX12_hangs_43 rfl rfl ?_
        refine ev_iload 5 dX12_hangs_44 rfl ?_
        refine ev_ishr dX12_hangs_46 ?_
        refine ev_iconst (v := 1) dX12_hangs_47 (by decide) ?_
        refine ev_iand dX12_hangs_48 ?_
        refine ev_if_ne (tgt := 55) dX12_hangs_49 (by decide) (fun c49 => ?_) (fun c49 => ?_)
        · replace h := xif_f c49 h
          refine ev_aload_n 0 dX12_hangs_55 rfl rfl ?_
          refine ev_iload 5 dX12_hangs_56 rfl ?_
          refine ev_iload_n 2 dX12_hangs_58 rfl rfl ?_
          refine ev_iload 4 dX12_hangs_59 rfl ?_
          obtain ⟨q12, hq12, h⟩ := xbd_some h
          refine ev_callV (ci := 12) (rest := []) 3 (kX12_lateWeight (E := E) (d := 2) (QQ := (fun v τ n' => v = some (.int q12) ∧ τ = xσ μ10 R ∧ n = n')) (Nat.le_refl _) hF hq12 (⟨rfl, rfl, rfl⟩)) my_X12_lateWeight ⟨m_1750, m_1752, m_87⟩ cl_12 kd_61 (xl hF rfl) rfl rfl (Nat.le_of_ble_eq_true rfl) (Nat.le_trans (by decide) hd) (xlo (by decide) (Nat.le_trans (by decide) hd)) (Nat.zero_le _) (Nat.zero_le _) dX12_hangs_61 (fun v τ n' hv => ?_)
          obtain ⟨rfl, rfl, rfl⟩ := hv
          show Ev E (xcm E d 0 0 QQ) Y_X12_hangs 64 [(0, .ref (E.2.2.2 + iM)), (1, .int p0), (2, .int p1), (3, .int p2), (4, .int p3), (5, .int x9)] [.int q12] (xσ μ10 R) n 0 0
          refine xv_istore (L' := [(6, .int q12), (0, .ref (E.2.2.2 + iM)), (1, .int p0), (2, .int p1), (3, .int p2), (4, .int p3), (5, .int x9)]) rfl dX12_hangs_64 (Nat.le_of_ble_eq_true rfl) rfl ?_
          refine ev_aload_n 1 dX12_hangs_66 rfl rfl ?_
          refine ev_iload 6 dX12_hangs_67 rfl ?_
          obtain ⟨q13, hq13, h⟩ := xbd_some h
          refine ev_callV (ci := 12) (rest := []) 1 (kX12_weightsOf (E := E) (d := 1) (QQ := (fun v τ n' => v = some (.int q13) ∧ τ = xσ μ10 R ∧ n = n')) (Nat.le_refl _) hF hq13 (⟨rfl, rfl, rfl⟩)) my_X12_weightsOf ⟨m_1766, m_1768, m_91⟩ cl_12 kd_61 (xl hF rfl) rfl rfl (Nat.le_of_ble_eq_true rfl) (Nat.le_trans (by decide) hd) (xlo (by decide) (Nat.le_trans (by decide) hd)) (Nat.zero_le _) (Nat.zero_le _) dX12_hangs_69 (fun v τ n' hv => ?_)
          obtain ⟨rfl, rfl, rfl⟩ := hv
          show Ev E (xcm E d 0 0 QQ) Y_X12_hangs 72 [(6, .int q12), (0, .ref (E.2.2.2 + iM)), (1, .int p0), (2, .int p1), (3, .int p2), (4, .int p3), (5, .int x9)] [.int q13] (xσ μ10 R) n 0 0
          refine ev_iload 0 dX12_hangs_72 rfl ?_
          refine ev_isub dX12_hangs_74 ?_
          obtain ⟨x14, hx14, h⟩ := xlt_some h
          refine xv_istore (L' := [(7, .int x14), (6, .int q12), (0, .ref (E.2.2.2 + iM)), (1, .int p0), (2, .int p1), (3, .int p2), (4, .int p3), (5, .int x9)]) hx14 dX12_hangs_75 (Nat.le_of_ble_eq_true rfl) rfl ?_
          refine ev_bipush (v := 8) dX12_hangs_77 (by decide) ?_
          refine xv_istore (L' := [(8, .int 8), (7, .int x14), (6, .int q12), (0, .ref (E.2.2.2 + iM)), (1, .int p0), (2, .int p1), (3, .int p2), (4, .int p3), (5, .int x9)]) rfl dX12_hangs_79 (Nat.le_of_ble_eq_true rfl) rfl ?_
          obtain ⟨q22, hq22, h⟩ := xbd_some h
          refine ev_sub (L' := [(0, .ref (E.2.2.2 + iM)), (1, .int p0), (2, .int p1), (3, .int p2), (4, .int p3), (5, .int x9), (6, .int q12), (7, .int x14), (8, .int 8)]) [3, 4, 5, 6, 7, 8, 2, 1, 0] rfl ?_
          refine xloop_run (fun v => Ev E (xcm E d 0 0 QQ) Y_X12_hangs 81 [(0, .ref (E.2.2.2 + iM)), (1, .int p0), (2, .int p1), (3, .int p2), (4, .int p3), (5, .int x9), (6, .int q12), (7, .int x14), (8, .int v.1)] [] (xσ v.2 R) n 0 0) (fun v => Ev E (xcm E d 0 0 QQ) Y_X12_hangs 124 [(0, .ref (E.2.2.2 + iM)), (1, .int p0), (2, .int p1), (3, .int p2), (4, .int p3), (5, .int x9), (7, .int x14)] [] (xσ v R) n 0 0) ?_ _ _ _ hq22 ?_
          · rintro ⟨x15, μ16⟩ y17 h hk
            replace h : fX12_hangs_b81 x15 μ16 q12 x14 = some y17 := h
            show Ev E (xcm E d 0 0 QQ) Y_X12_hangs 81 [(0, .ref (E.2.2.2 + iM)), (1, .int p0), (2, .int p1), (3, .int p2), (4, .int p3), (5, .int x9), (6, .int q12), (7, .int x14), (8, .int x15)] [] (xσ μ16 R) n 0 0
            unfold fX12_hangs_b81 at h
            refine ev_iload 8 dX12_hangs_81 rfl ?_
            refine ev_if_le (tgt := 124) dX12_hangs_83 (by decide) (fun c83 => ?_) (fun c83 => ?_)
            · replace h := xif_t c83 h
              cases h
              replace hk := xel_r hk
              exact ev_sub [0, 1, 2, 3, 4, 5, 7] rfl (hk)
            · replace h := xif_f c83 h
              refine ev_aload_n 0 dX12_hangs_86 rfl rfl ?_
              refine xv_getF (a := iM_lateBy) cl_12 lk_RX12_132 kd_61 (xl hF rfl) (fun _ => rfl) (fr_61_60 hF) dX12_hangs_87 ?_
              refine ev_iload 8 dX12_hangs_90 rfl ?_
              refine ev_aload_n 0 dX12_hangs_92 rfl rfl ?_
              refine xv_getF (a := iM_lateBy) cl_12 lk_RX12_132 kd_61 (xl hF rfl) (fun _ => rfl) (fr_61_60 hF) dX12_hangs_93 ?_
              refine ev_iload 8 dX12_hangs_96 rfl ?_
              obtain ⟨v18, hv18, h⟩ := xbd_some h
              refine xv_lald kd_102 (xl hF rfl) hv18 dX12_hangs_98 ?_
              refine ev_iload 7 dX12_hangs_99 rfl ?_
              refine ev_i2l dX12_hangs_101 ?_
              refine ev_lmul dX12_hangs_102 ?_
              refine ev_aload_n 0 dX12_hangs_103 rfl rfl ?_
              refine xv_getF (a := iM_lateBy) cl_12 lk_RX12_132 kd_61 (xl hF rfl) (fun _ => rfl) (fr_61_60 hF) dX12_hangs_104 ?_
              refine ev_iload 8 dX12_hangs_107 rfl ?_
              refine ev_iconst (v := 1) dX12_hangs_109 (by decide) ?_
              refine ev_isub dX12_hangs_110 ?_
              obtain ⟨v19, hv19, h⟩ := xbd_some h
              refine xv_lald kd_102 (xl hF rfl) hv19 dX12_hangs_111 ?_
              refine ev_iload 6 dX12_hangs_112 rfl ?_
              refine ev_i2l dX12_hangs_114 ?_
              refine ev_lmul dX12_hangs_115 ?_
              refine ev_ladd dX12_hangs_116 ?_
              obtain ⟨μ20, hμ20, h⟩ := xbd_some h
              refine xv_last kd_102 (xl hF rfl) hμ20 dX12_hangs_117 ?_
              obtain ⟨x21, hx21, h⟩ := xlt_some h
              refine ev_iinc (L' := [(8, .int x21), (0, .ref (E.2.2.2 + iM)), (1, .int p0), (2, .int p1), (3, .int p2), (4, .int p3), (5, .int x9), (6, .int q12), (7, .int x14)]) 8 dX12_hangs_118 rfl ((by rfl : x15 + Int32.ofInt (-1) = x15 + (-1)).trans hx21) (Nat.le_of_ble_eq_true rfl) rfl ?_
              refine ev_goto (tgt := 81) dX12_hangs_121 (by decide) ?_
              cases h
              replace hk := xel_l hk
              exact ev_sub [1, 2, 3, 4, 5, 6, 7, 8, 0] rfl (hk)
          · show Ev E (xcm E d 0 0 QQ) Y_X12_hangs 124 [(0, .ref (E.2.2.2 + iM)), (1, .int p0), (2, .int p1), (3, .int p2), (4, .int p3), (5, .int x9), (7, .int x14)] [] (xσ q22 R) n 0 0
            refine ev_aload_n 0 dX12_hangs_124 rfl rfl ?_
            refine xv_getF (a := iM_lateBy) cl_12 lk_RX12_132 kd_61 (xl hF rfl) (fun _ => rfl) (fr_61_60 hF) dX12_hangs_125 ?_
            refine ev_iconst (v := 0) dX12_hangs_128 (by decide) ?_
            refine ev_aload_n 0 dX12_hangs_129 rfl rfl ?_
            refine xv_getF (a := iM_lateBy) cl_12 lk_RX12_132 kd_61 (xl hF rfl) (fun _ => rfl) (fr_61_60 hF) dX12_hangs_130 ?_
            refine ev_iconst (v := 0) dX12_hangs_133 (by decide) ?_
            obtain ⟨v23, hv23, h⟩ := xbd_some h
            refine xv_lald kd_102 (xl hF rfl) hv23 dX12_hangs_134 ?_
            refine ev_iload 6 dX12_hangs_135 rfl ?_
            refine ev_i2l dX12_hangs_137 ?_
            refine ev_lmul dX12_hangs_138 ?_
            obtain ⟨μ24, hμ24, h⟩ := xbd_some h
            refine xv_last kd_102 (xl hF rfl) hμ24 dX12_hangs_139 ?_
            obtain ⟨x25, hx25, h⟩ := xlt_some h
            refine ev_iinc (L' := [(5, .int x25), (0, .ref (E.2.2.2 + iM)), (1, .int p0), (2, .int p1), (3, .int p2), (4, .int p3), (7, .int x14)]) 5 dX12_hangs_140 rfl ((by rfl : x9 + Int32.ofInt 1 = x9 + 1).trans hx25) (Nat.le_of_ble_eq_true rfl) rfl ?_
            refine ev_goto (tgt := 36) dX12_hangs_143 (by decide) ?_
            cases h
            replace hk := xel_l hk
            exact ev_sub [1, 2, 3, 4, 5, 0] rfl (hk)
        · replace h := xif_t c49 h
          refine ev_goto (tgt := 140) dX12_hangs_52 (by decide) ?_
          obtain ⟨x26, hx26, h⟩ := xlt_some h
          refine ev_iinc (L' := [(5, .int x26), (0, .ref (E.2.2.2 + iM)), (1, .int p0), (2, .int p1), (3, .int p2), (4, .int p3)]) 5 dX12_hangs_140 rfl ((by rfl : x9 + Int32.ofInt 1 = x9 + 1).trans hx26) (Nat.le_of_ble_eq_true rfl) rfl ?_
          refine ev_goto (tgt := 36) dX12_hangs_143 (by decide) ?_
          cases h
          replace hk := xel_l hk
          exact ev_sub [1, 2, 3, 4, 5, 0] rfl (hk)
    · show Ev E (xcm E d 0 0 QQ) Y_X12_hangs 146 [(0, .ref (E.2.2.2 + iM)), (3, .int p2), (4, .int p3)] [] (xσ q27 R) n 0 0
      refine ev_aload_n 0 dX12_hangs_146 rfl rfl ?_
      refine ev_iload 2 dX12_hangs_147 rfl ?_
      obtain ⟨q28, hq28, h⟩ := xbd_some h
      refine ev_callV (ci := 12) (rest := []) 1 (kX12_bridgeWeight (E := E) (d := 0) (QQ := (fun v τ n' => v = some (.int q28) ∧ τ = xσ q27 R ∧ n = n')) (Nat.le_refl _) hF hq28 (⟨rfl, rfl, rfl⟩)) my_X12_bridgeWeight ⟨m_1746, m_1748, m_86⟩ cl_12 kd_61 (xl hF rfl) rfl rfl (Nat.le_of_ble_eq_true rfl) (Nat.le_trans (by decide) hd) (xlo (by decide) (Nat.le_trans (by decide) hd)) (Nat.zero_le _) (Nat.zero_le _) dX12_hangs_149 (fun v τ n' hv => ?_)
      obtain ⟨rfl, rfl, rfl⟩ := hv
      show Ev E (xcm E d 0 0 QQ) Y_X12_hangs 152 [(0, .ref (E.2.2.2 + iM)), (3, .int p2), (4, .int p3)] [.int q28] (xσ q27 R) n 0 0
      refine ev_i2l dX12_hangs_152 ?_
      refine ev_aload_n 0 dX12_hangs_153 rfl rfl ?_
      refine xv_getF (a := iM_lateBy) cl_12 lk_RX12_132 kd_61 (xl hF rfl) (fun _ => rfl) (fr_61_60 hF) dX12_hangs_154 ?_
      refine ev_iload_n 1 dX12_hangs_157 rfl rfl ?_
      obtain ⟨v29, hv29, h⟩ := xbd_some h
      refine xv_lald kd_102 (xl hF rfl) hv29 dX12_hangs_158 ?_
      refine ev_lmul dX12_hangs_159 ?_
      cases h
      exact ev_lret rfl (hQ) dX12_hangs_160 (Nat.zero_le _) (Nat.zero_le _)
def fX12_isKeeping (p0 : Int32) (p1 : Int32) (p2 : Int32) (μ : xm) : Option (Int32) := if p0 = p1 then (some 0) else (xbd (xgI μ iM_dayOf 24 p0) fun v1 => xbd (xgI μ iM_dayOf 24 p1) fun v2 => if v1 = v2 then (xbd (xgI μ iM_minuteOf 24 p0) fun v3 => xbd (xgI μ iM_minuteOf 24 p1) fun v4 => if v4 ≤ v3 then (some 0) else (xbd (fX12_isOf p0 p2 μ) fun q5 => if q5 = 0 then (some 0) else (xbd (fX12_allCame p0 μ) fun q6 => if q6 = 0 then (some 0) else (xbd (fX12_beginsAt p0 μ) fun q7 => xbd (xgI μ iM_minuteOf 24 p0) fun v8 => xlt (q7 - v8) fun x9 => if x9 ≤ 0 then (some 0) else (xbd (xgI μ iM_cameAt 192 ((8 * p1) + p2)) fun v10 => xbd (xgI μ iM_minuteOf 24 p1) fun v11 => if v11 < (v10 - x9) then (some 0) else (xbd (fX12_keeperOf p0 μ) fun q12 => if q12 = p2 then (some 0) else (some 1))))))) else (some 0))
set_option maxHeartbeats 4000000 in
set_option maxRecDepth 100000 in
theorem kX12_isKeeping {E : xE} {d : Nat} {QQ : xP} (hd : 3 ≤ d) {p0 : Int32} {p1 : Int32} {p2 : Int32} {μ : xm} {R : xr} {n : Nat} (hF : xFin R n)  {res : Int32} (h : fX12_isKeeping p0 p1 p2 μ = some res) (hQ : QQ (some (.int res)) (xσ μ R) n) : xCon E d Y_X12_isKeeping 0 0 [.ref (E.2.2.2 + iM), .int p0, .int p1, .int p2] (xσ μ R) n QQ := by
  refine xCon_of pn_RX12 (Nat.le_of_ble_eq_true rfl) (L0 := [(0, .ref (E.2.2.2 + iM)), (1, .int p0), (2, .int p1), (3, .int p2)]) rfl ?_
  unfold fX12_isKeeping at h
  refine ev_iload_n 1 dX12_isKeeping_0 rfl rfl ?_
  refine ev_iload_n 2 dX12_isKeeping_1 rfl rfl ?_
  refine ev_icmp_eq (tgt := 52) dX12_isKeeping_2 (by decide) (fun c2 => ?_) (fun c2 => ?_)
  · replace h := xif_t c2 h
    refine ev_iconst (v := 0) dX12_isKeeping_52 (by decide) ?_
    cases h
    exact ev_zret rfl (Or.inl rfl) (hQ) dX12_isKeeping_53 (Nat.zero_le _) (Nat.zero_le _)
  · replace h := xif_f c2 h
    refine ev_aload_n 0 dX12_isKeeping_5 rfl rfl ?_
    refine xv_getF (a := iM_dayOf) cl_12 lk_RX12_13 kd_61 (xl hF rfl) (fun _ => rfl) (fr_61_5 hF) dX12_isKeeping_6 ?_
    refine ev_iload_n 1 dX12_isKeeping_9 rfl rfl ?_
    obtain ⟨v1, hv1, h⟩ := xbd_some h
    refine xv_iald kd_63 (xl hF rfl) hv1 dX12_isKeeping_10 ?_
    refine ev_aload_n 0 dX12_isKeeping_11 rfl rfl ?_
    refine xv_getF (a := iM_dayOf) cl_12 lk_RX12_13 kd_61 (xl hF rfl) (fun _ => rfl) (fr_61_5 hF) dX12_isKeeping_12 ?_
    refine ev_iload_n 2 dX12_isKeeping_15 rfl rfl ?_
    obtain ⟨v2, hv2, h⟩ := xbd_some h
    refine xv_iald kd_63 (xl hF rfl) hv2 dX12_isKeeping_16 ?_
    refine ev_icmp_ne (tgt := 52) dX12_isKeeping_17 (by decide) (fun c17 => ?_) (fun c17 => ?_)
    · replace h := xif_f c17 h
      refine ev_iconst (v := 0) dX12_isKeeping_52 (by decide) ?_
      cases h
      exact ev_zret rfl (Or.inl rfl) (hQ) dX12_isKeeping_53 (Nat.zero_le _) (Nat.zero_le _)
    · replace h := xif_t c17 h
      refine ev_aload_n 0 dX12_isKeeping_20 rfl rfl ?_
      refine xv_getF (a := iM_minuteOf) cl_12 lk_RX12_16 kd_61 (xl hF rfl) (fun _ => rfl) (fr_61_6 hF) dX12_isKeeping_21 ?_
      refine ev_iload_n 1 dX12_isKeeping_24 rfl rfl ?_
      obtain ⟨v3, hv3, h⟩ := xbd_some h
      refine xv_iald kd_64 (xl hF rfl) hv3 dX12_isKeeping_25 ?_
      refine ev_aload_n 0 dX12_isKeeping_26 rfl rfl ?_
      refine xv_getF (a := iM_minuteOf) cl_12 lk_RX12_16 kd_61 (xl hF rfl) (fun _ => rfl) (fr_61_6 hF) dX12_isKeeping_27 ?_
      refine ev_iload_n 2 dX12_isKeeping_30 rfl rfl ?_
      obtain ⟨v4, hv4, h⟩ := xbd_some h
      refine xv_iald kd_64 (xl hF rfl) hv4 dX12_isKeeping_31 ?_
      refine ev_icmp_ge (tgt := 52) dX12_isKeeping_32 (by decide) (fun c32 => ?_) (fun c32 => ?_)
      · replace h := xif_t c32 h
        refine ev_iconst (v := 0) dX12_isKeeping_52 (by decide) ?_
        cases h
        exact ev_zret rfl (Or.inl rfl) (hQ) dX12_isKeeping_53 (Nat.zero_le _) (Nat.zero_le _)
      · replace h := xif_f c32 h
        refine ev_aload_n 0 dX12_isKeeping_35 rfl rfl ?_
        refine ev_iload_n 1 dX12_isKeeping_36 rfl rfl ?_
        refine ev_iload_n 3 dX12_isKeeping_37 rfl rfl ?_
        obtain ⟨q5, hq5, h⟩ := xbd_some h
        refine ev_callV (ci := 12) (rest := []) 2 (kX12_isOf (E := E) (d := 1) (QQ := (fun v τ n' => v = some (.int q5) ∧ τ = xσ μ R ∧ n = n')) (Nat.le_refl _) hF hq5 (⟨rfl, rfl, rfl⟩)) my_X12_isOf ⟨m_1470, m_1472, m_40⟩ cl_12 kd_61 (xl hF rfl) rfl rfl (Nat.le_of_ble_eq_true rfl) (Nat.le_trans (by decide) hd) (xlo (by decide) (Nat.le_trans (by decide) hd)) (Nat.zero_le _) (Nat.zero_le _) dX12_isKeeping_38 (fun v τ n' hv => ?_)
        obtain ⟨rfl, rfl, rfl⟩ := hv
        show Ev E (xcm E d 0 0 QQ) Y_X12_isKeeping 41 [(0, .ref (E.2.2.2 + iM)), (1, .int p0), (2, .int p1), (3, .int p2)] [.int q5] (xσ μ R) n 0 0
        refine ev_if_eq (tgt := 52) dX12_isKeeping_41 (by decide) (fun c41 => ?_) (fun c41 => ?_)
        · replace h := xif_t c41 h
          refine ev_iconst (v := 0) dX12_isKeeping_52 (by decide) ?_
          cases h
          exact ev_zret rfl (Or.inl rfl) (hQ) dX12_isKeeping_53 (Nat.zero_le _) (Nat.zero_le _)
        · replace h := xif_f c41 h
          refine ev_aload_n 0 dX12_isKeeping_44 rfl rfl ?_
          refine ev_iload_n 1 dX12_isKeeping_45 rfl rfl ?_
          obtain ⟨q6, hq6, h⟩ := xbd_some h
          refine ev_callV (ci := 12) (rest := []) 1 (kX12_allCame (E := E) (d := 2) (QQ := (fun v τ n' => v = some (.int q6) ∧ τ = xσ μ R ∧ n = n')) (Nat.le_refl _) hF hq6 (⟨rfl, rfl, rfl⟩)) my_X12_allCame ⟨m_1482, m_1484, m_42⟩ cl_12 kd_61 (xl hF rfl) rfl rfl (Nat.le_of_ble_eq_true rfl) (Nat.le_trans (by decide) hd) (xlo (by decide) (Nat.le_trans (by decide) hd)) (Nat.zero_le _) (Nat.zero_le _) dX12_isKeeping_46 (fun v τ n' hv => ?_)
          obtain ⟨rfl, rfl, rfl⟩ := hv
          show Ev E (xcm E d 0 0 QQ) Y_X12_isKeeping 49 [(0, .ref (E.2.2.2 + iM)), (1, .int p0), (2, .int p1), (3, .int p2)] [.int q6] (xσ μ R) n 0 0
          refine ev_if_ne (tgt := 54) dX12_isKeeping_49 (by decide) (fun c49 => ?_) (fun c49 => ?_)
          · replace h := xif_f c49 h
            refine ev_aload_n 0 dX12_isKeeping_54 rfl rfl ?_
            refine ev_iload_n 1 dX12_isKeeping_55 rfl rfl ?_
            obtain ⟨q7, hq7, h⟩ := xbd_some h
            refine ev_callV (ci := 12) (rest := []) 1 (kX12_beginsAt (E := E) (d := 2) (QQ := (fun v τ n' => v = some (.int q7) ∧ τ = xσ μ R ∧ n = n')) (Nat.le_refl _) hF hq7 (⟨rfl, rfl, rfl⟩)) my_X12_beginsAt ⟨m_1486, m_1488, m_43⟩ cl_12 kd_61 (xl hF rfl) rfl rfl (Nat.le_of_ble_eq_true rfl) (Nat.le_trans (by decide) hd) (xlo (by decide) (Nat.le_trans (by decide) hd)) (Nat.zero_le _) (Nat.zero_le _) dX12_isKeeping_56 (fun v τ n' hv => ?_)
            obtain ⟨rfl, rfl, rfl⟩ := hv
            show Ev E (xcm E d 0 0 QQ) Y_X12_isKeeping 59 [(0, .ref (E.2.2.2 + iM)), (1, .int p0), (2, .int p1), (3, .int p2)] [.int q7] (xσ μ R) n 0 0
            refine ev_aload_n 0 dX12_isKeeping_59 rfl rfl ?_
            refine xv_getF (a := iM_minuteOf) cl_12 lk_RX12_16 kd_61 (xl hF rfl) (fun _ => rfl) (fr_61_6 hF) dX12_isKeeping_60 ?_
            refine ev_iload_n 1 dX12_isKeeping_63 rfl rfl ?_
            obtain ⟨v8, hv8, h⟩ := xbd_some h
            refine xv_iald kd_64 (xl hF rfl) hv8 dX12_isKeeping_64 ?_
            refine ev_isub dX12_isKeeping_65 ?_
            obtain ⟨x9, hx9, h⟩ := xlt_some h
            refine xv_istore (L' := [(4, .int x9), (0, .ref (E.2.2.2 + iM)), (1, .int p0), (2, .int p1), (3, .int p2)]) hx9 dX12_isKeeping_66 (Nat.le_of_ble_eq_true rfl) rfl ?_
            refine ev_iload 0 dX12_isKeeping_68 rfl ?_
            refine ev_if_le (tgt := 109) dX12_isKeeping_70 (by decide) (fun c70 => ?_) (fun c70 => ?_)
            · replace h := xif_t c70 h
              refine ev_iconst (v := 0) dX12_isKeeping_109 (by decide) ?_
              cases h
              exact ev_zret rfl (Or.inl rfl) (hQ) dX12_isKeeping_110 (Nat.zero_le _) (Nat.zero_le _)
            · replace h := xif_f c70 h
              refine ev_aload_n 1 dX12_isKeeping_73 rfl rfl ?_
              refine xv_getF (a := iM_cameAt) cl_12 lk_RX12_22 kd_61 (xl hF rfl) (fun _ => rfl) (fr_61_8 hF) dX12_isKeeping_74 ?_
              refine ev_bipush (v := 8) dX12_isKeeping_77 (by decide) ?_
              refine ev_iload_n 3 dX12_isKeeping_79 rfl rfl ?_
              refine ev_imul dX12_isKeeping_80 ?_
              refine ev_iload_n 4 dX12_isKeeping_81 rfl rfl ?_
              refine ev_iadd dX12_isKeeping_82 ?_
              obtain ⟨v10, hv10, h⟩ := xbd_some h
              refine xv_iald kd_66 (xl hF rfl) hv10 dX12_isKeeping_83 ?_
              refine ev_iload 0 dX12_isKeeping_84 rfl ?_
              refine ev_isub dX12_isKeeping_86 ?_
              refine ev_aload_n 1 dX12_isKeeping_87 rfl rfl ?_
              refine xv_getF (a := iM_minuteOf) cl_12 lk_RX12_16 kd_61 (xl hF rfl) (fun _ => rfl) (fr_61_6 hF) dX12_isKeeping_88 ?_
              refine ev_iload_n 3 dX12_isKeeping_91 rfl rfl ?_
              obtain ⟨v11, hv11, h⟩ := xbd_some h
              refine xv_iald kd_64 (xl hF rfl) hv11 dX12_isKeeping_92 ?_
              refine ev_icmp_gt (tgt := 109) dX12_isKeeping_93 (by decide) (fun c93 => ?_) (fun c93 => ?_)
              · replace h := xif_t c93 h
                refine ev_iconst (v := 0) dX12_isKeeping_109 (by decide) ?_
                cases h
                exact ev_zret rfl (Or.inl rfl) (hQ) dX12_isKeeping_110 (Nat.zero_le _) (Nat.zero_le _)
              · replace h := xif_f c93 h
                refine ev_aload_n 1 dX12_isKeeping_96 rfl rfl ?_
                refine ev_iload_n 2 dX12_isKeeping_97 rfl rfl ?_
                obtain ⟨q12, hq12, h⟩ := xbd_some h
                refine ev_callV (ci := 12) (rest := []) 1 (kX12_keeperOf (E := E) (d := 2) (QQ := (fun v τ n' => v = some (.int q12) ∧ τ = xσ μ R ∧ n = n')) (Nat.le_refl _) hF hq12 (⟨rfl, rfl, rfl⟩)) my_X12_keeperOf ⟨m_1514, m_1516, m_48⟩ cl_12 kd_61 (xl hF rfl) rfl rfl (Nat.le_of_ble_eq_true rfl) (Nat.le_trans (by decide) hd) (xlo (by decide) (Nat.le_trans (by decide) hd)) (Nat.zero_le _) (Nat.zero_le _) dX12_isKeeping_98 (fun v τ n' hv => ?_)
                obtain ⟨rfl, rfl, rfl⟩ := hv
                show Ev E (xcm E d 0 0 QQ) Y_X12_isKeeping 101 [(4, .int x9), (0, .ref (E.2.2.2 + iM)), (1, .int p0), (2, .int p1), (3, .int p2)] [.int q12] (xσ μ R) n 0 0
                refine ev_iload_n 4 dX12_isKeeping_101 rfl rfl ?_
                refine ev_icmp_eq (tgt := 109) dX12_isKeeping_102 (by decide) (fun c102 => ?_) (fun c102 => ?_)
                · replace h := xif_t c102 h
                  refine ev_iconst (v := 0) dX12_isKeeping_109 (by decide) ?_
                  cases h
                  exact ev_zret rfl (Or.inl rfl) (hQ) dX12_isKeeping_110 (Nat.zero_le _) (Nat.zero_le _)
                · replace h := xif_f c102 h
                  refine ev_iconst (v := 1) dX12_isKeeping_105 (by decide) ?_
                  refine ev_goto (tgt := 110) dX12_isKeeping_106 (by decide) ?_
                  cases h
                  exact ev_zret rfl (Or.inr rfl) (hQ) dX12_isKeeping_110 (Nat.zero_le _) (Nat.zero_le _)
          · replace h := xif_t c49 h
            refine ev_iconst (v := 0) dX12_isKeeping_52 (by decide) ?_
            cases h
            exact ev_zret rfl (Or.inl rfl) (hQ) dX12_isKeeping_53 (Nat.zero_le _) (Nat.zero_le _)
def fX12_lateIf (p0 : Int32) (p1 : Int32) (p2 : Int32) (μ : xm) : Option (Int32) := xbd (fX12_isPerson p0) fun q1 => if q1 = 0 then (some (-1)) else (xbd (fX12_in p1 0 600) fun q2 => if q2 = 0 then (some (-1)) else (xbd (fX12_in p2 0 1) fun q3 => if q3 = 0 then (some (-1)) else (xbd (fX12_bridgeWeight 0 μ) fun q4 => xbd (fX12_lateWeight p0 p1 0 μ) fun q5 => xbd (fX12_bridgeWeight 1 μ) fun q6 => xbd (fX12_lateWeight p0 p1 1 μ) fun q7 => xlt ((q4 * q5) + (q6 * q7)) fun x8 => xbd (fX12_weightsOf p0 μ) fun q9 => xlt ((μ.1 iM 54) * q9) fun x10 => xbd (fX12_gcd x8 x10) fun q11 => if p2 = 0 then (xbd (xdiv x8 q11) fun v13 => some v13) else (xbd (xdiv x10 q11) fun v12 => some v12))))
set_option maxHeartbeats 4000000 in
set_option maxRecDepth 100000 in
theorem kX12_lateIf {E : xE} {d : Nat} {QQ : xP} (hd : 3 ≤ d) {p0 : Int32} {p1 : Int32} {p2 : Int32} {μ : xm} {R : xr} {n : Nat} (hF : xFin R n)  {res : Int32} (h : fX12_lateIf p0 p1 p2 μ = some res) (hQ : QQ (some (.int res)) (xσ μ R) n) : xCon E d Y_X12_lateIf 0 0 [.ref (E.2.2.2 + iM), .int p0, .int p1, .int p2] (xσ μ R) n QQ := by
  refine xCon_of pn_RX12 (Nat.le_of_ble_eq_true rfl) (L0 := [(0, .ref (E.2.2.2 + iM)), (1, .int p0), (2, .int p1), (3, .int p2)]) rfl ?_
  unfold fX12_lateIf at h
  refine ev_iload_n 1 dX12_lateIf_0 rfl rfl ?_
  obtain ⟨q1, hq1, h⟩ := xbd_some h
  refine ev_callS (As := [.int p0]) (rest := []) 1 (kX12_isPerson (E := E) (d := 0) (QQ := (fun v τ n' => v = some (.int q1) ∧ τ = xσ μ R ∧ n = n')) (Nat.le_refl _)  hq1 (⟨rfl, rfl, rfl⟩)) my_X12_isPerson ⟨m_1456, m_1457⟩ rfl rfl (Nat.le_of_ble_eq_true rfl) (Nat.le_trans (by decide) hd) (xlo (by decide) (Nat.le_trans (by decide) hd)) (Nat.zero_le _) (Nat.zero_le _) dX12_lateIf_1 (fun v τ n' hv => ?_)
  obtain ⟨rfl, rfl, rfl⟩ := hv
  show Ev E (xcm E d 0 0 QQ) Y_X12_lateIf 4 [(0, .ref (E.2.2.2 + iM)), (1, .int p0), (2, .int p1), (3, .int p2)] [.int q1] (xσ μ R) n 0 0
  refine ev_if_eq (tgt := 27) dX12_lateIf_4 (by decide) (fun c4 => ?_) (fun c4 => ?_)
  · replace h := xif_t c4 h
    refine ev_iconst (v := (-1)) dX12_lateIf_27 (by decide) ?_
    cases h
    exact ev_iret rfl (hQ) dX12_lateIf_28 (Nat.zero_le _) (Nat.zero_le _)
  · replace h := xif_f c4 h
    refine ev_iload_n 2 dX12_lateIf_7 rfl rfl ?_
    refine ev_iconst (v := 0) dX12_lateIf_8 (by decide) ?_
    refine ev_sipush (v := 600) dX12_lateIf_9 (by decide) ?_
    obtain ⟨q2, hq2, h⟩ := xbd_some h
    refine ev_callS (As := [.int p1, .int 0, .int 600]) (rest := []) 3 (kX12_in (E := E) (d := 0) (QQ := (fun v τ n' => v = some (.int q2) ∧ τ = xσ μ R ∧ n = n')) (Nat.le_refl _)  hq2 (⟨rfl, rfl, rfl⟩)) my_X12_in ⟨m_1449, m_1450⟩ rfl rfl (Nat.le_of_ble_eq_true rfl) (Nat.le_trans (by decide) hd) (xlo (by decide) (Nat.le_trans (by decide) hd)) (Nat.zero_le _) (Nat.zero_le _) dX12_lateIf_12 (fun v τ n' hv => ?_)
    obtain ⟨rfl, rfl, rfl⟩ := hv
    show Ev E (xcm E d 0 0 QQ) Y_X12_lateIf 15 [(0, .ref (E.2.2.2 + iM)), (1, .int p0), (2, .int p1), (3, .int p2)] [.int q2] (xσ μ R) n 0 0
    refine ev_if_eq (tgt := 27) dX12_lateIf_15 (by decide) (fun c15 => ?_) (fun c15 => ?_)
    · replace h := xif_t c15 h
      refine ev_iconst (v := (-1)) dX12_lateIf_27 (by decide) ?_
      cases h
      exact ev_iret rfl (hQ) dX12_lateIf_28 (Nat.zero_le _) (Nat.zero_le _)
    · replace h := xif_f c15 h
      refine ev_iload_n 3 dX12_lateIf_18 rfl rfl ?_
      refine ev_iconst (v := 0) dX12_lateIf_19 (by decide) ?_
      refine ev_iconst (v := 1) dX12_lateIf_20 (by decide) ?_
      obtain ⟨q3, hq3, h⟩ := xbd_some h
      refine ev_callS (As := [.int p2, .int 0, .int 1]) (rest := []) 3 (kX12_in (E := E) (d := 0) (QQ := (fun v τ n' => v = some (.int q3) ∧ τ = xσ μ R ∧ n = n')) (Nat.le_refl _)  hq3 (⟨rfl, rfl, rfl⟩)) my_X12_in ⟨m_1449, m_1450⟩ rfl rfl (Nat.le_of_ble_eq_true rfl) (Nat.le_trans (by decide) hd) (xlo (by decide) (Nat.le_trans (by decide) hd)) (Nat.zero_le _) (Nat.zero_le _) dX12_lateIf_21 (fun v τ n' hv => ?_)
      obtain ⟨rfl, rfl, rfl⟩ := hv
      show Ev E (xcm E d 0 0 QQ) Y_X12_lateIf 24 [(0, .ref (E.2.2.2 + iM)), (1, .int p0), (2, .int p1), (3, .int p2)] [.int q3] (xσ μ R) n 0 0
      refine ev_if_ne (tgt := 29) dX12_lateIf_24 (by decide) (fun c24 => ?_) (fun c24 => ?_)
      · replace h := xif_f c24 h
        refine ev_aload_n 0 dX12_lateIf_29 rfl rfl ?_
        refine ev_iconst (v := 0) dX12_lateIf_30 (by decide) ?_
        obtain ⟨q4, hq4, h⟩ := xbd_some h
        refine ev_callV (ci := 12) (rest := []) 1 (kX12_bridgeWeight (E := E) (d := 0) (QQ := (fun v τ n' => v = some (.int q4) ∧ τ = xσ μ R ∧ n = n')) (Nat.le_refl _) hF hq4 (⟨rfl, rfl, rfl⟩)) my_X12_bridgeWeight ⟨m_1746, m_1748, m_86⟩ cl_12 kd_61 (xl hF rfl) rfl rfl (Nat.le_of_ble_eq_true rfl) (Nat.le_trans (by decide) hd) (xlo (by decide) (Nat.le_trans (by decide) hd)) (Nat.zero_le _) (Nat.zero_le _) dX12_lateIf_31 (fun v τ n' hv => ?_)
        obtain ⟨rfl, rfl, rfl⟩ := hv
        show Ev E (xcm E d 0 0 QQ) Y_X12_lateIf 34 [(0, .ref (E.2.2.2 + iM)), (1, .int p0), (2, .int p1), (3, .int p2)] [.int q4] (xσ μ R) n 0 0
        refine ev_aload_n 0 dX12_lateIf_34 rfl rfl ?_
        refine ev_iload_n 1 dX12_lateIf_35 rfl rfl ?_
        refine ev_iload_n 2 dX12_lateIf_36 rfl rfl ?_
        refine ev_iconst (v := 0) dX12_lateIf_37 (by decide) ?_
        obtain ⟨q5, hq5, h⟩ := xbd_some h
        refine ev_callV (ci := 12) (rest := [.int q4]) 3 (kX12_lateWeight (E := E) (d := 2) (QQ := (fun v τ n' => v = some (.int q5) ∧ τ = xσ μ R ∧ n = n')) (Nat.le_refl _) hF hq5 (⟨rfl, rfl, rfl⟩)) my_X12_lateWeight ⟨m_1750, m_1752, m_87⟩ cl_12 kd_61 (xl hF rfl) rfl rfl (Nat.le_of_ble_eq_true rfl) (Nat.le_trans (by decide) hd) (xlo (by decide) (Nat.le_trans (by decide) hd)) (Nat.zero_le _) (Nat.zero_le _) dX12_lateIf_38 (fun v τ n' hv => ?_)
        obtain ⟨rfl, rfl, rfl⟩ := hv
        show Ev E (xcm E d 0 0 QQ) Y_X12_lateIf 41 [(0, .ref (E.2.2.2 + iM)), (1, .int p0), (2, .int p1), (3, .int p2)] [.int q5, .int q4] (xσ μ R) n 0 0
        refine ev_imul dX12_lateIf_41 ?_
        refine ev_aload_n 0 dX12_lateIf_42 rfl rfl ?_
        refine ev_iconst (v := 1) dX12_lateIf_43 (by decide) ?_
        obtain ⟨q6, hq6, h⟩ := xbd_some h
        refine ev_callV (ci := 12) (rest := [.int (q4 * q5)]) 1 (kX12_bridgeWeight (E := E) (d := 0) (QQ := (fun v τ n' => v = some (.int q6) ∧ τ = xσ μ R ∧ n = n')) (Nat.le_refl _) hF hq6 (⟨rfl, rfl, rfl⟩)) my_X12_bridgeWeight ⟨m_1746, m_1748, m_86⟩ cl_12 kd_61 (xl hF rfl) rfl rfl (Nat.le_of_ble_eq_true rfl) (Nat.le_trans (by decide) hd) (xlo (by decide) (Nat.le_trans (by decide) hd)) (Nat.zero_le _) (Nat.zero_le _) dX12_lateIf_44 (fun v τ n' hv => ?_)
        obtain ⟨rfl, rfl, rfl⟩ := hv
        show Ev E (xcm E d 0 0 QQ) Y_X12_lateIf 47 [(0, .ref (E.2.2.2 + iM)), (1, .int p0), (2, .int p1), (3, .int p2)] [.int q6, .int (q4 * q5)] (xσ μ R) n 0 0
        refine ev_aload_n 0 dX12_lateIf_47 rfl rfl ?_
        refine ev_iload_n 1 dX12_lateIf_48 rfl rfl ?_
        refine ev_iload_n 2 dX12_lateIf_49 rfl rfl ?_
        refine ev_iconst (v := 1) dX12_lateIf_50 (by decide) ?_
        obtain ⟨q7, hq7, h⟩ := xbd_some h
        refine ev_callV (ci := 12) (rest := [.int q6, .int (q4 * q5)]) 3 (kX12_lateWeight (E := E) (d := 2) (QQ := (fun v τ n' => v = some (.int q7) ∧ τ = xσ μ R ∧ n = n')) (Nat.le_refl _) hF hq7 (⟨rfl, rfl, rfl⟩)) my_X12_lateWeight ⟨m_1750, m_1752, m_87⟩ cl_12 kd_61 (xl hF rfl) rfl rfl (Nat.le_of_ble_eq_true rfl) (Nat.le_trans (by decide) hd) (xlo (by decide) (Nat.le_trans (by decide) hd)) (Nat.zero_le _) (Nat.zero_le _) dX12_lateIf_51 (fun v τ n' hv => ?_)
        obtain ⟨rfl, rfl, rfl⟩ := hv
        show Ev E (xcm E d 0 0 QQ) Y_X12_lateIf 54 [(0, .ref (E.2.2.2 + iM)), (1, .int p0), (2, .int p1), (3, .int p2)] [.int q7, .int q6, .int (q4 * q5)] (xσ μ R) n 0 0
        refine ev_imul dX12_lateIf_54 ?_
        refine ev_iadd dX12_lateIf_55 ?_
        obtain ⟨x8, hx8, h⟩ := xlt_some h
        refine xv_istore (L' := [(4, .int x8), (0, .ref (E.2.2.2 + iM)), (1, .int p0), (2, .int p1), (3, .int p2)]) hx8 dX12_lateIf_56 (Nat.le_of_ble_eq_true rfl) rfl ?_
        refine ev_aload_n 1 dX12_lateIf_58 rfl rfl ?_
        refine xv_getI cl_12 lk_RX12_148 kd_61 (xl hF rfl) (fun _ => rfl) dX12_lateIf_59 ?_
        refine ev_aload_n 1 dX12_lateIf_62 rfl rfl ?_
        refine ev_iload_n 2 dX12_lateIf_63 rfl rfl ?_
        obtain ⟨q9, hq9, h⟩ := xbd_some h
        refine ev_callV (ci := 12) (rest := [.int (μ.1 iM 54)]) 1 (kX12_weightsOf (E := E) (d := 1) (QQ := (fun v τ n' => v = some (.int q9) ∧ τ = xσ μ R ∧ n = n')) (Nat.le_refl _) hF hq9 (⟨rfl, rfl, rfl⟩)) my_X12_weightsOf ⟨m_1766, m_1768, m_91⟩ cl_12 kd_61 (xl hF rfl) rfl rfl (Nat.le_of_ble_eq_true rfl) (Nat.le_trans (by decide) hd) (xlo (by decide) (Nat.le_trans (by decide) hd)) (Nat.zero_le _) (Nat.zero_le _) dX12_lateIf_64 (fun v τ n' hv => ?_)
        obtain ⟨rfl, rfl, rfl⟩ := hv
        show Ev E (xcm E d 0 0 QQ) Y_X12_lateIf 67 [(4, .int x8), (0, .ref (E.2.2.2 + iM)), (1, .int p0), (2, .int p1), (3, .int p2)] [.int q9, .int (μ.1 iM 54)] (xσ μ R) n 0 0
        refine ev_imul dX12_lateIf_67 ?_
        obtain ⟨x10, hx10, h⟩ := xlt_some h
        refine xv_istore (L' := [(5, .int x10), (4, .int x8), (0, .ref (E.2.2.2 + iM)), (1, .int p0), (2, .int p1), (3, .int p2)]) hx10 dX12_lateIf_68 (Nat.le_of_ble_eq_true rfl) rfl ?_
        refine ev_iload 1 dX12_lateIf_70 rfl ?_
        refine ev_iload 0 dX12_lateIf_72 rfl ?_
        obtain ⟨q11, hq11, h⟩ := xbd_some h
        refine ev_callS (As := [.int x8, .int x10]) (rest := []) 2 (kX12_gcd (E := E) (d := 0) (QQ := (fun v τ n' => v = some (.int q11) ∧ τ = xσ μ R ∧ n = n')) (Nat.le_refl _)  hq11 (⟨rfl, rfl, rfl⟩)) my_X12_gcd ⟨m_1770, m_1771⟩ rfl rfl (Nat.le_of_ble_eq_true rfl) (Nat.le_trans (by decide) hd) (xlo (by decide) (Nat.le_trans (by decide) hd)) (Nat.zero_le _) (Nat.zero_le _) dX12_lateIf_74 (fun v τ n' hv => ?_)
        obtain ⟨rfl, rfl, rfl⟩ := hv
        show Ev E (xcm E d 0 0 QQ) Y_X12_lateIf 77 [(5, .int x10), (4, .int x8), (0, .ref (E.2.2.2 + iM)), (1, .int p0), (2, .int p1), (3, .int p2)] [.int q11] (xσ μ R) n 0 0
        refine xv_istore (L' := [(6, .int q11), (5, .int x10), (4, .int x8), (0, .ref (E.2.2.2 + iM)), (1, .int p0), (2, .int p1), (3, .int p2)]) rfl dX12_lateIf_77 (Nat.le_of_ble_eq_true rfl) rfl ?_
        refine ev_iload_n 6 dX12_lateIf_79 rfl rfl ?_
        refine ev_if_ne (tgt := 91) dX12_lateIf_80 (by decide) (fun c80 => ?_) (fun c80 => ?_)
        · replace h := xif_f c80 h
          refine ev_iload 1 dX12_lateIf_91 rfl ?_
          refine ev_iload 0 dX12_lateIf_93 rfl ?_
          obtain ⟨v12, hv12, h⟩ := xbd_some h
          refine xv_idiv hv12 dX12_lateIf_95 ?_
          cases h
          exact ev_iret rfl (hQ) dX12_lateIf_96 (Nat.zero_le _) (Nat.zero_le _)
        · replace h := xif_t c80 h
          refine ev_iload 2 dX12_lateIf_83 rfl ?_
          refine ev_iload 0 dX12_lateIf_85 rfl ?_
          obtain ⟨v13, hv13, h⟩ := xbd_some h
          refine xv_idiv hv13 dX12_lateIf_87 ?_
          refine ev_goto (tgt := 96) dX12_lateIf_88 (by decide) ?_
          cases h
          exact ev_iret rfl (hQ) dX12_lateIf_96 (Nat.zero_le _) (Nat.zero_le _)
      · replace h := xif_t c24 h
        refine ev_iconst (v := (-1)) dX12_lateIf_27 (by decide) ?_
        cases h
        exact ev_iret rfl (hQ) dX12_lateIf_28 (Nat.zero_le _) (Nat.zero_le _)
def fX12_lost_j81 (x12 : Int32) (μ : xm) (x2 : Int32) (x4 : Int32) (x5 : Int32) : Option ((Int32 × Int32) ⊕ (Int32)) := xbd (fX12_beginsAt x2 μ) fun q13 => xlt ((x4 + q13) - x12) fun x14 => xlt (x5 + 1) fun x15 => some (.inl (x14, x15))
def fX12_lost_b14 (x4 : Int32) (x5 : Int32) (μ : xm) (x2 : Int32) : Option ((Int32 × Int32) ⊕ (Int32)) := if 8 ≤ x5 then (some (.inr x4)) else (xbd (xgI μ iM_isSettled 24 x2) fun v7 => if v7 = 0 then (xlt (x5 + 1) fun x8 => some (.inl (x4, x8))) else (xbd (fX12_isOf x2 x5 μ) fun q9 => if q9 = 0 then (xlt (x5 + 1) fun x18 => some (.inl (x4, x18))) else (xbd (xgI μ iM_cameAt 192 ((8 * x2) + x5)) fun v10 => xbd (xgI μ iM_minuteOf 24 x2) fun v11 => if v10 ≤ v11 then (xbd (xgI μ iM_minuteOf 24 x2) fun v16 => fX12_lost_j81 v16 μ x2 x4 x5) else (xbd (xgI μ iM_cameAt 192 ((8 * x2) + x5)) fun v17 => fX12_lost_j81 v17 μ x2 x4 x5))))
def fX12_lost_b4 (x1 : Int32) (x2 : Int32) (μ : xm) : Option ((Int32 × Int32) ⊕ (Int32)) := if (μ.1 iM 1) ≤ x2 then (some (.inr x1)) else (xbd (xloop xfu (fun v => fX12_lost_b14 v.1 v.2 μ x2) (x1, 0)) fun q19 => xlt (x2 + 1) fun x20 => some (.inl (q19, x20)))
def fX12_lost (μ : xm) : Option (Int32) := xbd (xloop xfu (fun v => fX12_lost_b4 v.1 v.2 μ) (0, 0)) fun q21 => some q21
set_option maxHeartbeats 4000000 in
set_option maxRecDepth 100000 in
theorem kX12_lost {E : xE} {d : Nat} {QQ : xP} (hd : 3 ≤ d)  {μ : xm} {R : xr} {n : Nat} (hF : xFin R n)  {res : Int32} (h : fX12_lost μ = some res) (hQ : QQ (some (.int res)) (xσ μ R) n) : xCon E d Y_X12_lost 0 0 [.ref (E.2.2.2 + iM)] (xσ μ R) n QQ := by
  refine xCon_of pn_RX12 (Nat.le_of_ble_eq_true rfl) (L0 := [(0, .ref (E.2.2.2 + iM))]) rfl ?_
  unfold fX12_lost at h
  refine ev_iconst (v := 0) dX12_lost_0 (by decide) ?_
  refine xv_istore_n (L' := [(1, .int 0), (0, .ref (E.2.2.2 + iM))]) rfl dX12_lost_1 rfl (Nat.le_of_ble_eq_true rfl) rfl ?_
  refine ev_iconst (v := 0) dX12_lost_2 (by decide) ?_
  refine xv_istore_n (L' := [(2, .int 0), (1, .int 0), (0, .ref (E.2.2.2 + iM))]) rfl dX12_lost_3 rfl (Nat.le_of_ble_eq_true rfl) rfl ?_
  obtain ⟨q21, hq21, h⟩ := xbd_some h
  refine ev_sub (L' := [(0, .ref (E.2.2.2 + iM)), (1, .int 0), (2, .int 0)]) [2, 1, 0] rfl ?_
  refine xloop_run (fun v => Ev E (xcm E d 0 0 QQ) Y_X12_lost 4 [(0, .ref (E.2.2.2 + iM)), (1, .int v.1), (2, .int v.2)] [] (xσ μ R) n 0 0) (fun v => Ev E (xcm E d 0 0 QQ) Y_X12_lost 106 [(1, .int v)] [] (xσ μ R) n 0 0) ?_ _ _ _ hq21 ?_
  · rintro ⟨x1, x2⟩ y3 h hk
    replace h : fX12_lost_b4 x1 x2 μ = some y3 := h
    show Ev E (xcm E d 0 0 QQ) Y_X12_lost 4 [(0, .ref (E.2.2.2 + iM)), (1, .int x1), (2, .int x2)] [] (xσ μ R) n 0 0
    unfold fX12_lost_b4 at h
    refine ev_iload_n 2 dX12_lost_4 rfl rfl ?_
    refine ev_aload_n 0 dX12_lost_5 rfl rfl ?_
    refine xv_getI cl_12 lk_RX12_155 kd_61 (xl hF rfl) (fun _ => rfl) dX12_lost_6 ?_
    refine ev_icmp_ge (tgt := 106) dX12_lost_9 (by decide) (fun c9 => ?_) (fun c9 => ?_)
    · replace h := xif_t c9 h
      cases h
      replace hk := xel_r hk
      exact ev_sub [1] rfl (hk)
    · replace h := xif_f c9 h
      refine ev_iconst (v := 0) dX12_lost_12 (by decide) ?_
      refine xv_istore_n (L' := [(3, .int 0), (0, .ref (E.2.2.2 + iM)), (1, .int x1), (2, .int x2)]) rfl dX12_lost_13 rfl (Nat.le_of_ble_eq_true rfl) rfl ?_
      obtain ⟨q19, hq19, h⟩ := xbd_some h
      refine ev_sub (L' := [(0, .ref (E.2.2.2 + iM)), (1, .int x1), (2, .int x2), (3, .int 0)]) [1, 2, 3, 0] rfl ?_
      refine xloop_run (fun v => Ev E (xcm E d 0 0 QQ) Y_X12_lost 14 [(0, .ref (E.2.2.2 + iM)), (1, .int v.1), (2, .int x2), (3, .int v.2)] [] (xσ μ R) n 0 0) (fun v => Ev E (xcm E d 0 0 QQ) Y_X12_lost 100 [(0, .ref (E.2.2.2 + iM)), (1, .int v), (2, .int x2)] [] (xσ μ R) n 0 0) ?_ _ _ _ hq19 ?_
      · rintro ⟨x4, x5⟩ y6 h hk
        replace h : fX12_lost_b14 x4 x5 μ x2 = some y6 := h
        show Ev E (xcm E d 0 0 QQ) Y_X12_lost 14 [(0, .ref (E.2.2.2 + iM)), (1, .int x4), (2, .int x2), (3, .int x5)] [] (xσ μ R) n 0 0
        unfold fX12_lost_b14 at h
        refine ev_iload_n 3 dX12_lost_14 rfl rfl ?_
        refine ev_bipush (v := 8) dX12_lost_15 (by decide) ?_
        refine ev_icmp_ge (tgt := 100) dX12_lost_17 (by decide) (fun c17 => ?_) (fun c17 => ?_)
        · replace h := xif_t c17 h
          cases h
          replace hk := xel_r hk
          exact ev_sub [0, 1, 2] rfl (hk)
        · replace h := xif_f c17 h
          refine ev_aload_n 0 dX12_lost_20 rfl rfl ?_
          refine xv_getF (a := iM_isSettled) cl_12 lk_RX12_25 kd_61 (xl hF rfl) (fun _ => rfl) (fr_61_9 hF) dX12_lost_21 ?_
          refine ev_iload_n 2 dX12_lost_24 rfl rfl ?_
          obtain ⟨v7, hv7, h⟩ := xbd_some h
          refine xv_zald kd_67 (xl hF rfl) hv7 dX12_lost_25 ?_
          refine ev_if_eq (tgt := 94) dX12_lost_26 (by decide) (fun c26 => ?_) (fun c26 => ?_)
          · replace h := xif_t c26 h
            obtain ⟨x8, hx8, h⟩ := xlt_some h
            refine ev_iinc (L' := [(3, .int x8), (0, .ref (E.2.2.2 + iM)), (1, .int x4), (2, .int x2)]) 3 dX12_lost_94 rfl ((by rfl : x5 + Int32.ofInt 1 = x5 + 1).trans hx8) (Nat.le_of_ble_eq_true rfl) rfl ?_
            refine ev_goto (tgt := 14) dX12_lost_97 (by decide) ?_
            cases h
            replace hk := xel_l hk
            exact ev_sub [1, 2, 3, 0] rfl (hk)
          · replace h := xif_f c26 h
            refine ev_aload_n 0 dX12_lost_29 rfl rfl ?_
            refine ev_iload_n 2 dX12_lost_30 rfl rfl ?_
            refine ev_iload_n 3 dX12_lost_31 rfl rfl ?_
            obtain ⟨q9, hq9, h⟩ := xbd_some h
            refine ev_callV (ci := 12) (rest := []) 2 (kX12_isOf (E := E) (d := 1) (QQ := (fun v τ n' => v = some (.int q9) ∧ τ = xσ μ R ∧ n = n')) (Nat.le_refl _) hF hq9 (⟨rfl, rfl, rfl⟩)) my_X12_isOf ⟨m_1470, m_1472, m_40⟩ cl_12 kd_61 (xl hF rfl) rfl rfl (Nat.le_of_ble_eq_true rfl) (Nat.le_trans (by decide) hd) (xlo (by decide) (Nat.le_trans (by decide) hd)) (Nat.zero_le _) (Nat.zero_le _) dX12_lost_32 (fun v τ n' hv => ?_)
            obtain ⟨rfl, rfl, rfl⟩ := hv
            show Ev E (xcm E d 0 0 QQ) Y_X12_lost 35 [(0, .ref (E.2.2.2 + iM)), (1, .int x4), (2, .int x2), (3, .int x5)] [.int q9] (xσ μ R) n 0 0
            refine ev_if_ne (tgt := 41) dX12_lost_35 (by decide) (fun c35 => ?_) (fun c35 => ?_)
            · replace h := xif_f c35 h
              refine ev_aload_n 0 dX12_lost_41 rfl rfl ?_
              refine xv_getF (a := iM_cameAt) cl_12 lk_RX12_22 kd_61 (xl hF rfl) (fun _ => rfl) (fr_61_8 hF) dX12_lost_42 ?_
              refine ev_bipush (v := 8) dX12_lost_45 (by decide) ?_
              refine ev_iload_n 2 dX12_lost_47 rfl rfl ?_
              refine ev_imul dX12_lost_48 ?_
              refine ev_iload_n 3 dX12_lost_49 rfl rfl ?_
              refine ev_iadd dX12_lost_50 ?_
              obtain ⟨v10, hv10, h⟩ := xbd_some h
              refine xv_iald kd_66 (xl hF rfl) hv10 dX12_lost_51 ?_
              refine ev_aload_n 0 dX12_lost_52 rfl rfl ?_
              refine xv_getF (a := iM_minuteOf) cl_12 lk_RX12_16 kd_61 (xl hF rfl) (fun _ => rfl) (fr_61_6 hF) dX12_lost_53 ?_
              refine ev_iload_n 2 dX12_lost_56 rfl rfl ?_
              obtain ⟨v11, hv11, h⟩ := xbd_some h
              refine xv_iald kd_64 (xl hF rfl) hv11 dX12_lost_57 ?_
              have j81 : ∀ (x12 : Int32), fX12_lost_j81 x12 μ x2 x4 x5 = some y6 → Ev E (xcm E d 0 0 QQ) Y_X12_lost 81 [(0, .ref (E.2.2.2 + iM)), (1, .int x4), (2, .int x2), (3, .int x5)] [.int x12] (xσ μ R) n 0 0 := by
                intro x12 h
                unfold fX12_lost_j81 at h
                refine xv_istore (L' := [(4, .int x12), (0, .ref (E.2.2.2 + iM)), (1, .int x4), (2, .int x2), (3, .int x5)]) rfl dX12_lost_81 (Nat.le_of_ble_eq_true rfl) rfl ?_
                refine ev_iload_n 2 dX12_lost_83 rfl rfl ?_
                refine ev_aload_n 1 dX12_lost_84 rfl rfl ?_
                refine ev_iload_n 3 dX12_lost_85 rfl rfl ?_
                obtain ⟨q13, hq13, h⟩ := xbd_some h
                refine ev_callV (ci := 12) (rest := [.int x4]) 1 (kX12_beginsAt (E := E) (d := 2) (QQ := (fun v τ n' => v = some (.int q13) ∧ τ = xσ μ R ∧ n = n')) (Nat.le_refl _) hF hq13 (⟨rfl, rfl, rfl⟩)) my_X12_beginsAt ⟨m_1486, m_1488, m_43⟩ cl_12 kd_61 (xl hF rfl) rfl rfl (Nat.le_of_ble_eq_true rfl) (Nat.le_trans (by decide) hd) (xlo (by decide) (Nat.le_trans (by decide) hd)) (Nat.zero_le _) (Nat.zero_le _) dX12_lost_86 (fun v τ n' hv => ?_)
                obtain ⟨rfl, rfl, rfl⟩ := hv
                show Ev E (xcm E d 0 0 QQ) Y_X12_lost 89 [(4, .int x12), (0, .ref (E.2.2.2 + iM)), (1, .int x4), (2, .int x2), (3, .int x5)] [.int q13, .int x4] (xσ μ R) n 0 0
                refine ev_iadd dX12_lost_89 ?_
                refine ev_iload 0 dX12_lost_90 rfl ?_
                refine ev_isub dX12_lost_92 ?_
                obtain ⟨x14, hx14, h⟩ := xlt_some h
                refine xv_istore_n (L' := [(1, .int x14), (4, .int x12), (0, .ref (E.2.2.2 + iM)), (2, .int x2), (3, .int x5)]) hx14 dX12_lost_93 rfl (Nat.le_of_ble_eq_true rfl) rfl ?_
                obtain ⟨x15, hx15, h⟩ := xlt_some h
                refine ev_iinc (L' := [(3, .int x15), (1, .int x14), (4, .int x12), (0, .ref (E.2.2.2 + iM)), (2, .int x2)]) 4 dX12_lost_94 rfl ((by rfl : x5 + Int32.ofInt 1 = x5 + 1).trans hx15) (Nat.le_of_ble_eq_true rfl) rfl ?_
                refine ev_goto (tgt := 14) dX12_lost_97 (by decide) ?_
                cases h
                replace hk := xel_l hk
                exact ev_sub [3, 1, 4, 0] rfl (hk)
              refine ev_icmp_le (tgt := 75) dX12_lost_58 (by decide) (fun c58 => ?_) (fun c58 => ?_)
              · replace h := xif_t c58 h
                refine ev_aload_n 0 dX12_lost_75 rfl rfl ?_
                refine xv_getF (a := iM_minuteOf) cl_12 lk_RX12_16 kd_61 (xl hF rfl) (fun _ => rfl) (fr_61_6 hF) dX12_lost_76 ?_
                refine ev_iload_n 2 dX12_lost_79 rfl rfl ?_
                obtain ⟨v16, hv16, h⟩ := xbd_some h
                refine xv_iald kd_64 (xl hF rfl) hv16 dX12_lost_80 ?_
                exact ev_sub [0, 1, 2, 3] rfl (j81 _ h)
              · replace h := xif_f c58 h
                refine ev_aload_n 0 dX12_lost_61 rfl rfl ?_
                refine xv_getF (a := iM_cameAt) cl_12 lk_RX12_22 kd_61 (xl hF rfl) (fun _ => rfl) (fr_61_8 hF) dX12_lost_62 ?_
                refine ev_bipush (v := 8) dX12_lost_65 (by decide) ?_
                refine ev_iload_n 2 dX12_lost_67 rfl rfl ?_
                refine ev_imul dX12_lost_68 ?_
                refine ev_iload_n 3 dX12_lost_69 rfl rfl ?_
                refine ev_iadd dX12_lost_70 ?_
                obtain ⟨v17, hv17, h⟩ := xbd_some h
                refine xv_iald kd_66 (xl hF rfl) hv17 dX12_lost_71 ?_
                refine ev_goto (tgt := 81) dX12_lost_72 (by decide) ?_
                exact ev_sub [0, 1, 2, 3] rfl (j81 _ h)
            · replace h := xif_t c35 h
              refine ev_goto (tgt := 94) dX12_lost_38 (by decide) ?_
              obtain ⟨x18, hx18, h⟩ := xlt_some h
              refine ev_iinc (L' := [(3, .int x18), (0, .ref (E.2.2.2 + iM)), (1, .int x4), (2, .int x2)]) 3 dX12_lost_94 rfl ((by rfl : x5 + Int32.ofInt 1 = x5 + 1).trans hx18) (Nat.le_of_ble_eq_true rfl) rfl ?_
              refine ev_goto (tgt := 14) dX12_lost_97 (by decide) ?_
              cases h
              replace hk := xel_l hk
              exact ev_sub [1, 2, 3, 0] rfl (hk)
      · show Ev E (xcm E d 0 0 QQ) Y_X12_lost 100 [(0, .ref (E.2.2.2 + iM)), (1, .int q19), (2, .int x2)] [] (xσ μ R) n 0 0
        obtain ⟨x20, hx20, h⟩ := xlt_some h
        refine ev_iinc (L' := [(2, .int x20), (0, .ref (E.2.2.2 + iM)), (1, .int q19)]) 2 dX12_lost_100 rfl ((by rfl : x2 + Int32.ofInt 1 = x2 + 1).trans hx20) (Nat.le_of_ble_eq_true rfl) rfl ?_
        refine ev_goto (tgt := 4) dX12_lost_103 (by decide) ?_
        cases h
        replace hk := xel_l hk
        exact ev_sub [1, 2, 0] rfl (hk)
  · show Ev E (xcm E d 0 0 QQ) Y_X12_lost 106 [(1, .int q21)] [] (xσ μ R) n 0 0
    refine ev_iload_n 0 dX12_lost_106 rfl rfl ?_
    cases h
    exact ev_iret rfl (hQ) dX12_lost_107 (Nat.zero_le _) (Nat.zero_le _)
def fX12_readsFactor_b0 (μ1 : xm) : Option ((xm) ⊕ ((xm) ⊕ (Int32 × xm))) := xbd (fX12_here μ1) fun q3 => if q3 = 91 then (xbd (fX12_opens 14 μ1) fun q4 => if q4.1 = 0 then (some (.inr (.inr (0, q4.2)))) else (some (.inl q4.2))) else (some (.inr (.inl μ1)))
def fX12_readsFactor (μ : xm) : Option (Int32 × xm) := xbd (xloop xfu (fun v => fX12_readsFactor_b0 v) μ) fun q5 => xsm q5 (fun q6 => xbd (fX12_isDigit q6) fun q8 => if q8 = 0 then (xbd (fX12_here q6) fun q9 => xbd (fX12_factOf q9) fun q10 => if q10 = (-1) then (xbd (fX12_wrongAt 1 (q6.1 iM 12) q6) fun q13 => xbd (xz q13.1) fun z14 => some (z14, q13.2)) else (xbd (fX12_notes 1 q10 q6) fun q11 => xlt (xpI q11 iM 12 ((q11.1 iM 12) + 1)) fun μ12 => some (1, μ12))) else (xbd (fX12_readsNumber q6) fun q15 => if q15.1 = 0 then (some (0, q15.2)) else (xbd (fX12_notes 0 (q15.2.1 iM 19) q15.2) fun q16 => some (1, q16)))) (fun q7 => some q7)
set_option maxHeartbeats 4000000 in
set_option maxRecDepth 100000 in
theorem kX12_readsFactor {E : xE} {d : Nat} {QQ : xP} (hd : 3 ≤ d)  {μ : xm} {R : xr} {n : Nat} (hF : xFin R n)  {res : Int32 × xm} (h : fX12_readsFactor μ = some res) (hQ : QQ (some (.int res.1)) (xσ res.2 R) n) : xCon E d Y_X12_readsFactor 0 0 [.ref (E.2.2.2 + iM)] (xσ μ R) n QQ := by
  refine xCon_of pn_RX12 (Nat.le_of_ble_eq_true rfl) (L0 := [(0, .ref (E.2.2.2 + iM))]) rfl ?_
  unfold fX12_readsFactor at h
  obtain ⟨q5, hq5, h⟩ := xbd_some h
  refine ev_sub (L' := [(0, .ref (E.2.2.2 + iM))]) [0] rfl ?_
  refine xloop_run (fun v => Ev E (xcm E d 0 0 QQ) Y_X12_readsFactor 0 [(0, .ref (E.2.2.2 + iM))] [] (xσ v R) n 0 0) (xel (fun v => Ev E (xcm E d 0 0 QQ) Y_X12_readsFactor 20 [(0, .ref (E.2.2.2 + iM))] [] (xσ v R) n 0 0) (fun v => QQ (some (.int v.1)) (xσ v.2 R) n)) ?_ _ _ _ hq5 ?_
  · rintro μ1 y2 h hk
    replace h : fX12_readsFactor_b0 μ1 = some y2 := h
    show Ev E (xcm E d 0 0 QQ) Y_X12_readsFactor 0 [(0, .ref (E.2.2.2 + iM))] [] (xσ μ1 R) n 0 0
    unfold fX12_readsFactor_b0 at h
    refine ev_aload_n 0 dX12_readsFactor_0 rfl rfl ?_
    obtain ⟨q3, hq3, h⟩ := xbd_some h
    refine ev_callV (ci := 12) (rest := []) 0 (kX12_here (E := E) (d := 0) (QQ := (fun v τ n' => v = some (.int q3) ∧ τ = xσ μ1 R ∧ n = n')) (Nat.le_refl _) hF hq3 (⟨rfl, rfl, rfl⟩)) my_X12_here ⟨m_1534, m_1536, m_51⟩ cl_12 kd_61 (xl hF rfl) rfl rfl (Nat.le_of_ble_eq_true rfl) (Nat.le_trans (by decide) hd) (xlo (by decide) (Nat.le_trans (by decide) hd)) (Nat.zero_le _) (Nat.zero_le _) dX12_readsFactor_1 (fun v τ n' hv => ?_)
    obtain ⟨rfl, rfl, rfl⟩ := hv
    show Ev E (xcm E d 0 0 QQ) Y_X12_readsFactor 4 [(0, .ref (E.2.2.2 + iM))] [.int q3] (xσ μ1 R) n 0 0
    refine ev_bipush (v := 91) dX12_readsFactor_4 (by decide) ?_
    refine ev_icmp_ne (tgt := 20) dX12_readsFactor_6 (by decide) (fun c6 => ?_) (fun c6 => ?_)
    · replace h := xif_f c6 h
      cases h
      replace hk := xel_r hk
      replace hk := xel_l hk
      exact ev_sub [0] rfl (hk)
    · replace h := xif_t c6 h
      refine ev_aload_n 0 dX12_readsFactor_9 rfl rfl ?_
      refine ev_bipush (v := 14) dX12_readsFactor_10 (by decide) ?_
      obtain ⟨q4, hq4, h⟩ := xbd_some h
      refine ev_callV (ci := 12) (rest := []) 1 (kX12_opens (E := E) (d := 1) (QQ := (fun v τ n' => v = some (.int q4.1) ∧ τ = xσ q4.2 R ∧ n = n')) (Nat.le_refl _) hF hq4 (⟨rfl, rfl, rfl⟩)) my_X12_opens ⟨m_1550, m_1552, m_55⟩ cl_12 kd_61 (xl hF rfl) rfl rfl (Nat.le_of_ble_eq_true rfl) (Nat.le_trans (by decide) hd) (xlo (by decide) (Nat.le_trans (by decide) hd)) (Nat.zero_le _) (Nat.zero_le _) dX12_readsFactor_12 (fun v τ n' hv => ?_)
      obtain ⟨rfl, rfl, rfl⟩ := hv
      show Ev E (xcm E d 0 0 QQ) Y_X12_readsFactor 15 [(0, .ref (E.2.2.2 + iM))] [.int q4.1] (xσ q4.2 R) n 0 0
      refine ev_if_ne (tgt := 0) dX12_readsFactor_15 (by decide) (fun c15 => ?_) (fun c15 => ?_)
      · replace h := xif_f c15 h
        cases h
        replace hk := xel_l hk
        exact ev_sub [0] rfl (hk)
      · replace h := xif_t c15 h
        refine ev_iconst (v := 0) dX12_readsFactor_18 (by decide) ?_
        cases h
        replace hk := xel_r hk
        replace hk := xel_r hk
        exact ev_zret rfl (Or.inl rfl) (hk) dX12_readsFactor_19 (Nat.zero_le _) (Nat.zero_le _)
  · rcases q5 with q6 | q7
    · replace h := xsm_l h
      show Ev E (xcm E d 0 0 QQ) Y_X12_readsFactor 20 [(0, .ref (E.2.2.2 + iM))] [] (xσ q6 R) n 0 0
      refine ev_aload_n 0 dX12_readsFactor_20 rfl rfl ?_
      obtain ⟨q8, hq8, h⟩ := xbd_some h
      refine ev_callV (ci := 12) (rest := []) 0 (kX12_isDigit (E := E) (d := 1) (QQ := (fun v τ n' => v = some (.int q8) ∧ τ = xσ q6 R ∧ n = n')) (Nat.le_refl _) hF hq8 (⟨rfl, rfl, rfl⟩)) my_X12_isDigit ⟨m_1555, m_1557, m_56⟩ cl_12 kd_61 (xl hF rfl) rfl rfl (Nat.le_of_ble_eq_true rfl) (Nat.le_trans (by decide) hd) (xlo (by decide) (Nat.le_trans (by decide) hd)) (Nat.zero_le _) (Nat.zero_le _) dX12_readsFactor_21 (fun v τ n' hv => ?_)
      obtain ⟨rfl, rfl, rfl⟩ := hv
      show Ev E (xcm E d 0 0 QQ) Y_X12_readsFactor 24 [(0, .ref (E.2.2.2 + iM))] [.int q8] (xσ q6 R) n 0 0
      refine ev_if_eq (tgt := 47) dX12_readsFactor_24 (by decide) (fun c24 => ?_) (fun c24 => ?_)
      · replace h := xif_t c24 h
        refine ev_aload_n 0 dX12_readsFactor_47 rfl rfl ?_
        obtain ⟨q9, hq9, h⟩ := xbd_some h
        refine ev_callV (ci := 12) (rest := []) 0 (kX12_here (E := E) (d := 0) (QQ := (fun v τ n' => v = some (.int q9) ∧ τ = xσ q6 R ∧ n = n')) (Nat.le_refl _) hF hq9 (⟨rfl, rfl, rfl⟩)) my_X12_here ⟨m_1534, m_1536, m_51⟩ cl_12 kd_61 (xl hF rfl) rfl rfl (Nat.le_of_ble_eq_true rfl) (Nat.le_trans (by decide) hd) (xlo (by decide) (Nat.le_trans (by decide) hd)) (Nat.zero_le _) (Nat.zero_le _) dX12_readsFactor_48 (fun v τ n' hv => ?_)
        obtain ⟨rfl, rfl, rfl⟩ := hv
        show Ev E (xcm E d 0 0 QQ) Y_X12_readsFactor 51 [(0, .ref (E.2.2.2 + iM))] [.int q9] (xσ q6 R) n 0 0
        obtain ⟨q10, hq10, h⟩ := xbd_some h
        refine ev_callS (As := [.int q9]) (rest := []) 1 (kX12_factOf (E := E) (d := 0) (QQ := (fun v τ n' => v = some (.int q10) ∧ τ = xσ q6 R ∧ n = n')) (Nat.le_refl _)  hq10 (⟨rfl, rfl, rfl⟩)) my_X12_factOf ⟨m_1567, m_1568⟩ rfl rfl (Nat.le_of_ble_eq_true rfl) (Nat.le_trans (by decide) hd) (xlo (by decide) (Nat.le_trans (by decide) hd)) (Nat.zero_le _) (Nat.zero_le _) dX12_readsFactor_51 (fun v τ n' hv => ?_)
        obtain ⟨rfl, rfl, rfl⟩ := hv
        show Ev E (xcm E d 0 0 QQ) Y_X12_readsFactor 54 [(0, .ref (E.2.2.2 + iM))] [.int q10] (xσ q6 R) n 0 0
        refine xv_istore_n (L' := [(1, .int q10), (0, .ref (E.2.2.2 + iM))]) rfl dX12_readsFactor_54 rfl (Nat.le_of_ble_eq_true rfl) rfl ?_
        refine ev_iload_n 0 dX12_readsFactor_55 rfl rfl ?_
        refine ev_iconst (v := (-1)) dX12_readsFactor_56 (by decide) ?_
        refine ev_icmp_ne (tgt := 70) dX12_readsFactor_57 (by decide) (fun c57 => ?_) (fun c57 => ?_)
        · replace h := xif_f c57 h
          refine ev_aload_n 1 dX12_readsFactor_70 rfl rfl ?_
          refine ev_iconst (v := 1) dX12_readsFactor_71 (by decide) ?_
          refine ev_iload_n 0 dX12_readsFactor_72 rfl rfl ?_
          obtain ⟨q11, hq11, h⟩ := xbd_some h
          refine ev_callV (ci := 12) (rest := []) 2 (kX12_notes (E := E) (d := 0) (QQ := (fun v τ n' => v = none ∧ τ = xσ q11 R ∧ n = n')) (Nat.le_refl _) hF hq11 (⟨rfl, rfl, rfl⟩)) my_X12_notes ⟨m_1563, m_1565, m_58⟩ cl_12 kd_61 (xl hF rfl) rfl rfl (Nat.le_of_ble_eq_true rfl) (Nat.le_trans (by decide) hd) (xlo (by decide) (Nat.le_trans (by decide) hd)) (Nat.zero_le _) (Nat.zero_le _) dX12_readsFactor_73 (fun v τ n' hv => ?_)
          obtain ⟨rfl, rfl, rfl⟩ := hv
          show Ev E (xcm E d 0 0 QQ) Y_X12_readsFactor 76 [(1, .int q10), (0, .ref (E.2.2.2 + iM))] [] (xσ q11 R) n 0 0
          refine ev_aload_n 1 dX12_readsFactor_76 rfl rfl ?_
          refine ev_aload_n 1 dX12_readsFactor_77 rfl rfl ?_
          refine xv_getI cl_12 lk_RX12_210 kd_61 (xl hF rfl) (fun _ => rfl) dX12_readsFactor_78 ?_
          refine ev_iconst (v := 1) dX12_readsFactor_81 (by decide) ?_
          refine ev_iadd dX12_readsFactor_82 ?_
          obtain ⟨μ12, hμ12, h⟩ := xlt_some h
          refine xv_putI cl_12 lk_RX12_210 rfl kd_61 (xl hF rfl) rfl rfl (fun _ => rfl) hμ12 dX12_readsFactor_83 ?_
          refine ev_iconst (v := 1) dX12_readsFactor_86 (by decide) ?_
          cases h
          exact ev_zret rfl (Or.inr rfl) (hQ) dX12_readsFactor_87 (Nat.zero_le _) (Nat.zero_le _)
        · replace h := xif_t c57 h
          refine ev_aload_n 1 dX12_readsFactor_60 rfl rfl ?_
          refine ev_iconst (v := 1) dX12_readsFactor_61 (by decide) ?_
          refine ev_aload_n 1 dX12_readsFactor_62 rfl rfl ?_
          refine xv_getI cl_12 lk_RX12_210 kd_61 (xl hF rfl) (fun _ => rfl) dX12_readsFactor_63 ?_
          obtain ⟨q13, hq13, h⟩ := xbd_some h
          refine ev_callV (ci := 12) (rest := []) 2 (kX12_wrongAt (E := E) (d := 0) (QQ := (fun v τ n' => v = some (.int q13.1) ∧ τ = xσ q13.2 R ∧ n = n')) (Nat.le_refl _) hF hq13 (⟨rfl, rfl, rfl⟩)) my_X12_wrongAt ⟨m_1538, m_1540, m_52⟩ cl_12 kd_61 (xl hF rfl) rfl rfl (Nat.le_of_ble_eq_true rfl) (Nat.le_trans (by decide) hd) (xlo (by decide) (Nat.le_trans (by decide) hd)) (Nat.zero_le _) (Nat.zero_le _) dX12_readsFactor_66 (fun v τ n' hv => ?_)
          obtain ⟨rfl, rfl, rfl⟩ := hv
          show Ev E (xcm E d 0 0 QQ) Y_X12_readsFactor 69 [(1, .int q10), (0, .ref (E.2.2.2 + iM))] [.int q13.1] (xσ q13.2 R) n 0 0
          obtain ⟨z14, hz14, h⟩ := xbd_some h
          obtain ⟨hzz14, hez14⟩ := xz_some hz14
          rw [hez14]
          cases h
          exact ev_zret rfl hzz14 (hQ) dX12_readsFactor_69 (Nat.zero_le _) (Nat.zero_le _)
      · replace h := xif_f c24 h
        refine ev_aload_n 0 dX12_readsFactor_27 rfl rfl ?_
        obtain ⟨q15, hq15, h⟩ := xbd_some h
        refine ev_callV (ci := 12) (rest := []) 0 (kX12_readsNumber (E := E) (d := 2) (QQ := (fun v τ n' => v = some (.int q15.1) ∧ τ = xσ q15.2 R ∧ n = n')) (Nat.le_refl _) hF hq15 (⟨rfl, rfl, rfl⟩)) my_X12_readsNumber ⟨m_1559, m_1561, m_57⟩ cl_12 kd_61 (xl hF rfl) rfl rfl (Nat.le_of_ble_eq_true rfl) (Nat.le_trans (by decide) hd) (xlo (by decide) (Nat.le_trans (by decide) hd)) (Nat.zero_le _) (Nat.zero_le _) dX12_readsFactor_28 (fun v τ n' hv => ?_)
        obtain ⟨rfl, rfl, rfl⟩ := hv
        show Ev E (xcm E d 0 0 QQ) Y_X12_readsFactor 31 [(0, .ref (E.2.2.2 + iM))] [.int q15.1] (xσ q15.2 R) n 0 0
        refine ev_if_ne (tgt := 36) dX12_readsFactor_31 (by decide) (fun c31 => ?_) (fun c31 => ?_)
        · replace h := xif_f c31 h
          refine ev_aload_n 0 dX12_readsFactor_36 rfl rfl ?_
          refine ev_iconst (v := 0) dX12_readsFactor_37 (by decide) ?_
          refine ev_aload_n 0 dX12_readsFactor_38 rfl rfl ?_
          refine xv_getI cl_12 lk_RX12_226 kd_61 (xl hF rfl) (fun _ => rfl) dX12_readsFactor_39 ?_
          obtain ⟨q16, hq16, h⟩ := xbd_some h
          refine ev_callV (ci := 12) (rest := []) 2 (kX12_notes (E := E) (d := 0) (QQ := (fun v τ n' => v = none ∧ τ = xσ q16 R ∧ n = n')) (Nat.le_refl _) hF hq16 (⟨rfl, rfl, rfl⟩)) my_X12_notes ⟨m_1563, m_1565, m_58⟩ cl_12 kd_61 (xl hF rfl) rfl rfl (Nat.le_of_ble_eq_true rfl) (Nat.le_trans (by decide) hd) (xlo (by decide) (Nat.le_trans (by decide) hd)) (Nat.zero_le _) (Nat.zero_le _) dX12_readsFactor_42 (fun v τ n' hv => ?_)
          obtain ⟨rfl, rfl, rfl⟩ := hv
          show Ev E (xcm E d 0 0 QQ) Y_X12_readsFactor 45 [(0, .ref (E.2.2.2 + iM))] [] (xσ q16 R) n 0 0
          refine ev_iconst (v := 1) dX12_readsFactor_45 (by decide) ?_
          cases h
          exact ev_zret rfl (Or.inr rfl) (hQ) dX12_readsFactor_46 (Nat.zero_le _) (Nat.zero_le _)
        · replace h := xif_t c31 h
          refine ev_iconst (v := 0) dX12_readsFactor_34 (by decide) ?_
          cases h
          exact ev_zret rfl (Or.inl rfl) (hQ) dX12_readsFactor_35 (Nat.zero_le _) (Nat.zero_le _)
    · replace h := xsm_r h
      cases h
      exact hQ
def fX12_twoOf (p0 : Int32) (p1 : Int32) (p2 : Int32) (p3 : Int32) (p4 : Int32) (p5 : Int32) (μ : xm) : Option (Int64) := xbd (fX12_twoWith p0 p1 p2 p3 p4 p5 0 μ) fun q1 => xbd (fX12_twoWith p0 p1 p2 p3 p4 p5 1 μ) fun q2 => some (q1 + q2)
set_option maxHeartbeats 4000000 in
set_option maxRecDepth 100000 in
theorem kX12_twoOf {E : xE} {d : Nat} {QQ : xP} (hd : 3 ≤ d) {p0 : Int32} {p1 : Int32} {p2 : Int32} {p3 : Int32} {p4 : Int32} {p5 : Int32} {μ : xm} {R : xr} {n : Nat} (hF : xFin R n)  {res : Int64} (h : fX12_twoOf p0 p1 p2 p3 p4 p5 μ = some res) (hQ : QQ (some (.long res)) (xσ μ R) n) : xCon E d Y_X12_twoOf 0 0 [.ref (E.2.2.2 + iM), .int p0, .int p1, .int p2, .int p3, .int p4, .int p5] (xσ μ R) n QQ := by
  refine xCon_of pn_RX12 (Nat.le_of_ble_eq_true rfl) (L0 := [(0, .ref (E.2.2.2 + iM)), (1, .int p0), (2, .int p1), (3, .int p2), (4, .int p3), (5, .int p4), (6, .int p5)]) rfl ?_
  unfold fX12_twoOf at h
  refine ev_aload_n 0 dX12_twoOf_0 rfl rfl ?_
  refine ev_iload_n 1 dX12_twoOf_1 rfl rfl ?_
  refine ev_iload_n 2 dX12_twoOf_2 rfl rfl ?_
  refine ev_iload_n 3 dX12_twoOf_3 rfl rfl ?_
  refine ev_iload 4 dX12_twoOf_4 rfl ?_
  refine ev_iload 5 dX12_twoOf_6 rfl ?_
  refine ev_iload 6 dX12_twoOf_8 rfl ?_
  refine ev_iconst (v := 0) dX12_twoOf_10 (by decide) ?_
  obtain ⟨q1, hq1, h⟩ := xbd_some h
  refine ev_callV (ci := 12) (rest := []) 7 (kX12_twoWith (E := E) (d := 2) (QQ := (fun v τ n' => v = some (.long q1) ∧ τ = xσ μ R ∧ n = n')) (Nat.le_refl _) hF hq1 (⟨rfl, rfl, rfl⟩)) my_X12_twoWith ⟨m_1817, m_1819, m_99⟩ cl_12 kd_61 (xl hF rfl) rfl rfl (Nat.le_of_ble_eq_true rfl) (Nat.le_trans (by decide) hd) (xlo (by decide) (Nat.le_trans (by decide) hd)) (Nat.zero_le _) (Nat.zero_le _) dX12_twoOf_11 (fun v τ n' hv => ?_)
  obtain ⟨rfl, rfl, rfl⟩ := hv
  show Ev E (xcm E d 0 0 QQ) Y_X12_twoOf 14 [(0, .ref (E.2.2.2 + iM)), (1, .int p0), (2, .int p1), (3, .int p2), (4, .int p3), (5, .int p4), (6, .int p5)] [.long q1] (xσ μ R) n 0 0
  refine ev_aload_n 0 dX12_twoOf_14 rfl rfl ?_
  refine ev_iload_n 1 dX12_twoOf_15 rfl rfl ?_
  refine ev_iload_n 2 dX12_twoOf_16 rfl rfl ?_
  refine ev_iload_n 3 dX12_twoOf_17 rfl rfl ?_
  refine ev_iload 4 dX12_twoOf_18 rfl ?_
  refine ev_iload 5 dX12_twoOf_20 rfl ?_
  refine ev_iload 6 dX12_twoOf_22 rfl ?_
  refine ev_iconst (v := 1) dX12_twoOf_24 (by decide) ?_
  obtain ⟨q2, hq2, h⟩ := xbd_some h
  refine ev_callV (ci := 12) (rest := [.long q1]) 7 (kX12_twoWith (E := E) (d := 2) (QQ := (fun v τ n' => v = some (.long q2) ∧ τ = xσ μ R ∧ n = n')) (Nat.le_refl _) hF hq2 (⟨rfl, rfl, rfl⟩)) my_X12_twoWith ⟨m_1817, m_1819, m_99⟩ cl_12 kd_61 (xl hF rfl) rfl rfl (Nat.le_of_ble_eq_true rfl) (Nat.le_trans (by decide) hd) (xlo (by decide) (Nat.le_trans (by decide) hd)) (Nat.zero_le _) (Nat.zero_le _) dX12_twoOf_25 (fun v τ n' hv => ?_)
  obtain ⟨rfl, rfl, rfl⟩ := hv
  show Ev E (xcm E d 0 0 QQ) Y_X12_twoOf 28 [(0, .ref (E.2.2.2 + iM)), (1, .int p0), (2, .int p1), (3, .int p2), (4, .int p3), (5, .int p4), (6, .int p5)] [.long q2, .long q1] (xσ μ R) n 0 0
  refine ev_ladd dX12_twoOf_28 ?_
  cases h
  exact ev_lret rfl (hQ) dX12_twoOf_29 (Nat.zero_le _) (Nat.zero_le _)
def fX12_cost (p0 : Int32) (p1 : Int32) (p2 : Int32) (p3 : Int32) (μ : xm) : Option (Int64) := xbd (fX12_isOf p0 p1 μ) fun q1 => if q1 = 0 then (some (-1)) else (xbd (fX12_in p2 (-60) 600) fun q2 => if q2 = 0 then (some (-1)) else (xbd (fX12_in p3 0 99) fun q3 => if q3 = 0 then (some (-1)) else (xbd (fX12_costOf p0 p1 p2 p3 μ) fun q4 => some q4)))
set_option maxHeartbeats 4000000 in
set_option maxRecDepth 100000 in
theorem kX12_cost {E : xE} {d : Nat} {QQ : xP} (hd : 4 ≤ d) {p0 : Int32} {p1 : Int32} {p2 : Int32} {p3 : Int32} {μ : xm} {R : xr} {n : Nat} (hF : xFin R n)  {res : Int64} (h : fX12_cost p0 p1 p2 p3 μ = some res) (hQ : QQ (some (.long res)) (xσ μ R) n) : xCon E d Y_X12_cost 0 0 [.ref (E.2.2.2 + iM), .int p0, .int p1, .int p2, .int p3] (xσ μ R) n QQ := by
  refine xCon_of pn_RX12 (Nat.le_of_ble_eq_true rfl) (L0 := [(0, .ref (E.2.2.2 + iM)), (1, .int p0), (2, .int p1), (3, .int p2), (4, .int p3)]) rfl ?_
  unfold fX12_cost at h
  refine ev_aload_n 0 dX12_cost_0 rfl rfl ?_
  refine ev_iload_n 1 dX12_cost_1 rfl rfl ?_
  refine ev_iload_n 2 dX12_cost_2 rfl rfl ?_
  obtain ⟨q1, hq1, h⟩ := xbd_some h
  refine ev_callV (ci := 12) (rest := []) 2 (kX12_isOf (E := E) (d := 1) (QQ := (fun v τ n' => v = some (.int q1) ∧ τ = xσ μ R ∧ n = n')) (Nat.le_refl _) hF hq1 (⟨rfl, rfl, rfl⟩)) my_X12_isOf ⟨m_1470, m_1472, m_40⟩ cl_12 kd_61 (xl hF rfl) rfl rfl (Nat.le_of_ble_eq_true rfl) (Nat.le_trans (by decide) hd) (xlo (by decide) (Nat.le_trans (by decide) hd)) (Nat.zero_le _) (Nat.zero_le _) dX12_cost_3 (fun v τ n' hv => ?_)
  obtain ⟨rfl, rfl, rfl⟩ := hv
  show Ev E (xcm E d 0 0 QQ) Y_X12_cost 6 [(0, .ref (E.2.2.2 + iM)), (1, .int p0), (2, .int p1), (3, .int p2), (4, .int p3)] [.int q1] (xσ μ R) n 0 0
  refine ev_if_eq (tgt := 32) dX12_cost_6 (by decide) (fun c6 => ?_) (fun c6 => ?_)
  · replace h := xif_t c6 h
    refine ev_ldc2 (v := (-1)) m_1692 dX12_cost_32 ?_
    refine ev_goto (tgt := 47) dX12_cost_35 (by decide) ?_
    cases h
    exact ev_lret rfl (hQ) dX12_cost_47 (Nat.zero_le _) (Nat.zero_le _)
  · replace h := xif_f c6 h
    refine ev_iload_n 3 dX12_cost_9 rfl rfl ?_
    refine ev_bipush (v := (-60)) dX12_cost_10 (by decide) ?_
    refine ev_sipush (v := 600) dX12_cost_12 (by decide) ?_
    obtain ⟨q2, hq2, h⟩ := xbd_some h
    refine ev_callS (As := [.int p2, .int (-60), .int 600]) (rest := []) 3 (kX12_in (E := E) (d := 0) (QQ := (fun v τ n' => v = some (.int q2) ∧ τ = xσ μ R ∧ n = n')) (Nat.le_refl _)  hq2 (⟨rfl, rfl, rfl⟩)) my_X12_in ⟨m_1449, m_1450⟩ rfl rfl (Nat.le_of_ble_eq_true rfl) (Nat.le_trans (by decide) hd) (xlo (by decide) (Nat.le_trans (by decide) hd)) (Nat.zero_le _) (Nat.zero_le _) dX12_cost_15 (fun v τ n' hv => ?_)
    obtain ⟨rfl, rfl, rfl⟩ := hv
    show Ev E (xcm E d 0 0 QQ) Y_X12_cost 18 [(0, .ref (E.2.2.2 + iM)), (1, .int p0), (2, .int p1), (3, .int p2), (4, .int p3)] [.int q2] (xσ μ R) n 0 0
    refine ev_if_eq (tgt := 32) dX12_cost_18 (by decide) (fun c18 => ?_) (fun c18 => ?_)
    · replace h := xif_t c18 h
      refine ev_ldc2 (v := (-1)) m_1692 dX12_cost_32 ?_
      refine ev_goto (tgt := 47) dX12_cost_35 (by decide) ?_
      cases h
      exact ev_lret rfl (hQ) dX12_cost_47 (Nat.zero_le _) (Nat.zero_le _)
    · replace h := xif_f c18 h
      refine ev_iload 4 dX12_cost_21 rfl ?_
      refine ev_iconst (v := 0) dX12_cost_23 (by decide) ?_
      refine ev_bipush (v := 99) dX12_cost_24 (by decide) ?_
      obtain ⟨q3, hq3, h⟩ := xbd_some h
      refine ev_callS (As := [.int p3, .int 0, .int 99]) (rest := []) 3 (kX12_in (E := E) (d := 0) (QQ := (fun v τ n' => v = some (.int q3) ∧ τ = xσ μ R ∧ n = n')) (Nat.le_refl _)  hq3 (⟨rfl, rfl, rfl⟩)) my_X12_in ⟨m_1449, m_1450⟩ rfl rfl (Nat.le_of_ble_eq_true rfl) (Nat.le_trans (by decide) hd) (xlo (by decide) (Nat.le_trans (by decide) hd)) (Nat.zero_le _) (Nat.zero_le _) dX12_cost_26 (fun v τ n' hv => ?_)
      obtain ⟨rfl, rfl, rfl⟩ := hv
      show Ev E (xcm E d 0 0 QQ) Y_X12_cost 29 [(0, .ref (E.2.2.2 + iM)), (1, .int p0), (2, .int p1), (3, .int p2), (4, .int p3)] [.int q3] (xσ μ R) n 0 0
      refine ev_if_ne (tgt := 38) dX12_cost_29 (by decide) (fun c29 => ?_) (fun c29 => ?_)
      · replace h := xif_f c29 h
        refine ev_aload_n 0 dX12_cost_38 rfl rfl ?_
        refine ev_iload_n 1 dX12_cost_39 rfl rfl ?_
        refine ev_iload_n 2 dX12_cost_40 rfl rfl ?_
        refine ev_iload_n 3 dX12_cost_41 rfl rfl ?_
        refine ev_iload 4 dX12_cost_42 rfl ?_
        obtain ⟨q4, hq4, h⟩ := xbd_some h
        refine ev_callV (ci := 12) (rest := []) 4 (kX12_costOf (E := E) (d := 3) (QQ := (fun v τ n' => v = some (.long q4) ∧ τ = xσ μ R ∧ n = n')) (Nat.le_refl _) hF hq4 (⟨rfl, rfl, rfl⟩)) my_X12_costOf ⟨m_1785, m_1787, m_93⟩ cl_12 kd_61 (xl hF rfl) rfl rfl (Nat.le_of_ble_eq_true rfl) (Nat.le_trans (by decide) hd) (xlo (by decide) (Nat.le_trans (by decide) hd)) (Nat.zero_le _) (Nat.zero_le _) dX12_cost_44 (fun v τ n' hv => ?_)
        obtain ⟨rfl, rfl, rfl⟩ := hv
        show Ev E (xcm E d 0 0 QQ) Y_X12_cost 47 [(0, .ref (E.2.2.2 + iM)), (1, .int p0), (2, .int p1), (3, .int p2), (4, .int p3)] [.long q4] (xσ μ R) n 0 0
        cases h
        exact ev_lret rfl (hQ) dX12_cost_47 (Nat.zero_le _) (Nat.zero_le _)
      · replace h := xif_t c29 h
        refine ev_ldc2 (v := (-1)) m_1692 dX12_cost_32 ?_
        refine ev_goto (tgt := 47) dX12_cost_35 (by decide) ?_
        cases h
        exact ev_lret rfl (hQ) dX12_cost_47 (Nat.zero_le _) (Nat.zero_le _)
def fX12_hang (p0 : Int32) (p1 : Int32) (p2 : Int32) (μ : xm) : Option (Int64 × xm) := xbd (fX12_in p0 1 255) fun q1 => if q1 = 0 then (some ((-1), μ)) else (xbd (fX12_in p1 0 600) fun q2 => if q2 = 0 then (some ((-1), μ)) else (xbd (fX12_bits p0) fun q3 => xbd (fX12_in p2 0 q3) fun q4 => if q4 = 0 then (some ((-1), μ)) else (xbd (fX12_hangs p0 p1 p2 0 μ) fun q5 => xbd (fX12_hangs p0 p1 p2 1 q5.2) fun q6 => some (q5.1 + q6.1, q6.2))))
set_option maxHeartbeats 4000000 in
set_option maxRecDepth 100000 in
theorem kX12_hang {E : xE} {d : Nat} {QQ : xP} (hd : 4 ≤ d) {p0 : Int32} {p1 : Int32} {p2 : Int32} {μ : xm} {R : xr} {n : Nat} (hF : xFin R n)  {res : Int64 × xm} (h : fX12_hang p0 p1 p2 μ = some res) (hQ : QQ (some (.long res.1)) (xσ res.2 R) n) : xCon E d Y_X12_hang 0 0 [.ref (E.2.2.2 + iM), .int p0, .int p1, .int p2] (xσ μ R) n QQ := by
  refine xCon_of pn_RX12 (Nat.le_of_ble_eq_true rfl) (L0 := [(0, .ref (E.2.2.2 + iM)), (1, .int p0), (2, .int p1), (3, .int p2)]) rfl ?_
  unfold fX12_hang at h
  refine ev_iload_n 1 dX12_hang_0 rfl rfl ?_
  refine ev_iconst (v := 1) dX12_hang_1 (by decide) ?_
  refine ev_sipush (v := 255) dX12_hang_2 (by decide) ?_
  obtain ⟨q1, hq1, h⟩ := xbd_some h
  refine ev_callS (As := [.int p0, .int 1, .int 255]) (rest := []) 3 (kX12_in (E := E) (d := 0) (QQ := (fun v τ n' => v = some (.int q1) ∧ τ = xσ μ R ∧ n = n')) (Nat.le_refl _)  hq1 (⟨rfl, rfl, rfl⟩)) my_X12_in ⟨m_1449, m_1450⟩ rfl rfl (Nat.le_of_ble_eq_true rfl) (Nat.le_trans (by decide) hd) (xlo (by decide) (Nat.le_trans (by decide) hd)) (Nat.zero_le _) (Nat.zero_le _) dX12_hang_5 (fun v τ n' hv => ?_)
  obtain ⟨rfl, rfl, rfl⟩ := hv
  show Ev E (xcm E d 0 0 QQ) Y_X12_hang 8 [(0, .ref (E.2.2.2 + iM)), (1, .int p0), (2, .int p1), (3, .int p2)] [.int q1] (xσ μ R) n 0 0
  refine ev_if_eq (tgt := 34) dX12_hang_8 (by decide) (fun c8 => ?_) (fun c8 => ?_)
  · replace h := xif_t c8 h
    refine ev_ldc2 (v := (-1)) m_1692 dX12_hang_34 ?_
    cases h
    exact ev_lret rfl (hQ) dX12_hang_37 (Nat.zero_le _) (Nat.zero_le _)
  · replace h := xif_f c8 h
    refine ev_iload_n 2 dX12_hang_11 rfl rfl ?_
    refine ev_iconst (v := 0) dX12_hang_12 (by decide) ?_
    refine ev_sipush (v := 600) dX12_hang_13 (by decide) ?_
    obtain ⟨q2, hq2, h⟩ := xbd_some h
    refine ev_callS (As := [.int p1, .int 0, .int 600]) (rest := []) 3 (kX12_in (E := E) (d := 0) (QQ := (fun v τ n' => v = some (.int q2) ∧ τ = xσ μ R ∧ n = n')) (Nat.le_refl _)  hq2 (⟨rfl, rfl, rfl⟩)) my_X12_in ⟨m_1449, m_1450⟩ rfl rfl (Nat.le_of_ble_eq_true rfl) (Nat.le_trans (by decide) hd) (xlo (by decide) (Nat.le_trans (by decide) hd)) (Nat.zero_le _) (Nat.zero_le _) dX12_hang_16 (fun v τ n' hv => ?_)
    obtain ⟨rfl, rfl, rfl⟩ := hv
    show Ev E (xcm E d 0 0 QQ) Y_X12_hang 19 [(0, .ref (E.2.2.2 + iM)), (1, .int p0), (2, .int p1), (3, .int p2)] [.int q2] (xσ μ R) n 0 0
    refine ev_if_eq (tgt := 34) dX12_hang_19 (by decide) (fun c19 => ?_) (fun c19 => ?_)
    · replace h := xif_t c19 h
      refine ev_ldc2 (v := (-1)) m_1692 dX12_hang_34 ?_
      cases h
      exact ev_lret rfl (hQ) dX12_hang_37 (Nat.zero_le _) (Nat.zero_le _)
    · replace h := xif_f c19 h
      refine ev_iload_n 3 dX12_hang_22 rfl rfl ?_
      refine ev_iconst (v := 0) dX12_hang_23 (by decide) ?_
      refine ev_iload_n 1 dX12_hang_24 rfl rfl ?_
      obtain ⟨q3, hq3, h⟩ := xbd_some h
      refine ev_callS (As := [.int p0]) (rest := [.int 0, .int p2]) 1 (kX12_bits (E := E) (d := 0) (QQ := (fun v τ n' => v = some (.int q3) ∧ τ = xσ μ R ∧ n = n')) (Nat.le_refl _)  hq3 (⟨rfl, rfl, rfl⟩)) my_X12_bits ⟨m_1463, m_1464⟩ rfl rfl (Nat.le_of_ble_eq_true rfl) (Nat.le_trans (by decide) hd) (xlo (by decide) (Nat.le_trans (by decide) hd)) (Nat.zero_le _) (Nat.zero_le _) dX12_hang_25 (fun v τ n' hv => ?_)
      obtain ⟨rfl, rfl, rfl⟩ := hv
      show Ev E (xcm E d 0 0 QQ) Y_X12_hang 28 [(0, .ref (E.2.2.2 + iM)), (1, .int p0), (2, .int p1), (3, .int p2)] [.int q3, .int 0, .int p2] (xσ μ R) n 0 0
      obtain ⟨q4, hq4, h⟩ := xbd_some h
      refine ev_callS (As := [.int p2, .int 0, .int q3]) (rest := []) 3 (kX12_in (E := E) (d := 0) (QQ := (fun v τ n' => v = some (.int q4) ∧ τ = xσ μ R ∧ n = n')) (Nat.le_refl _)  hq4 (⟨rfl, rfl, rfl⟩)) my_X12_in ⟨m_1449, m_1450⟩ rfl rfl (Nat.le_of_ble_eq_true rfl) (Nat.le_trans (by decide) hd) (xlo (by decide) (Nat.le_trans (by decide) hd)) (Nat.zero_le _) (Nat.zero_le _) dX12_hang_28 (fun v τ n' hv => ?_)
      obtain ⟨rfl, rfl, rfl⟩ := hv
      show Ev E (xcm E d 0 0 QQ) Y_X12_hang 31 [(0, .ref (E.2.2.2 + iM)), (1, .int p0), (2, .int p1), (3, .int p2)] [.int q4] (xσ μ R) n 0 0
      refine ev_if_ne (tgt := 38) dX12_hang_31 (by decide) (fun c31 => ?_) (fun c31 => ?_)
      · replace h := xif_f c31 h
        refine ev_aload_n 0 dX12_hang_38 rfl rfl ?_
        refine ev_iload_n 1 dX12_hang_39 rfl rfl ?_
        refine ev_iload_n 2 dX12_hang_40 rfl rfl ?_
        refine ev_iload_n 3 dX12_hang_41 rfl rfl ?_
        refine ev_iconst (v := 0) dX12_hang_42 (by decide) ?_
        obtain ⟨q5, hq5, h⟩ := xbd_some h
        refine ev_callV (ci := 12) (rest := []) 4 (kX12_hangs (E := E) (d := 3) (QQ := (fun v τ n' => v = some (.long q5.1) ∧ τ = xσ q5.2 R ∧ n = n')) (Nat.le_refl _) hF hq5 (⟨rfl, rfl, rfl⟩)) my_X12_hangs ⟨m_1777, m_1779, m_92⟩ cl_12 kd_61 (xl hF rfl) rfl rfl (Nat.le_of_ble_eq_true rfl) (Nat.le_trans (by decide) hd) (xlo (by decide) (Nat.le_trans (by decide) hd)) (Nat.zero_le _) (Nat.zero_le _) dX12_hang_43 (fun v τ n' hv => ?_)
        obtain ⟨rfl, rfl, rfl⟩ := hv
        show Ev E (xcm E d 0 0 QQ) Y_X12_hang 46 [(0, .ref (E.2.2.2 + iM)), (1, .int p0), (2, .int p1), (3, .int p2)] [.long q5.1] (xσ q5.2 R) n 0 0
        refine ev_aload_n 0 dX12_hang_46 rfl rfl ?_
        refine ev_iload_n 1 dX12_hang_47 rfl rfl ?_
        refine ev_iload_n 2 dX12_hang_48 rfl rfl ?_
        refine ev_iload_n 3 dX12_hang_49 rfl rfl ?_
        refine ev_iconst (v := 1) dX12_hang_50 (by decide) ?_
        obtain ⟨q6, hq6, h⟩ := xbd_some h
        refine ev_callV (ci := 12) (rest := [.long q5.1]) 4 (kX12_hangs (E := E) (d := 3) (QQ := (fun v τ n' => v = some (.long q6.1) ∧ τ = xσ q6.2 R ∧ n = n')) (Nat.le_refl _) hF hq6 (⟨rfl, rfl, rfl⟩)) my_X12_hangs ⟨m_1777, m_1779, m_92⟩ cl_12 kd_61 (xl hF rfl) rfl rfl (Nat.le_of_ble_eq_true rfl) (Nat.le_trans (by decide) hd) (xlo (by decide) (Nat.le_trans (by decide) hd)) (Nat.zero_le _) (Nat.zero_le _) dX12_hang_51 (fun v τ n' hv => ?_)
        obtain ⟨rfl, rfl, rfl⟩ := hv
        show Ev E (xcm E d 0 0 QQ) Y_X12_hang 54 [(0, .ref (E.2.2.2 + iM)), (1, .int p0), (2, .int p1), (3, .int p2)] [.long q6.1, .long q5.1] (xσ q6.2 R) n 0 0
        refine ev_ladd dX12_hang_54 ?_
        cases h
        exact ev_lret rfl (hQ) dX12_hang_55 (Nat.zero_le _) (Nat.zero_le _)
      · replace h := xif_t c31 h
        refine ev_ldc2 (v := (-1)) m_1692 dX12_hang_34 ?_
        cases h
        exact ev_lret rfl (hQ) dX12_hang_37 (Nat.zero_le _) (Nat.zero_le _)
def fX12_keptBy_b16 (x2 : Int32) (x3 : Int32) (p0 : Int32) (p1 : Int32) (μ : xm) : Option ((Int32 × Int32) ⊕ (Int32)) := if (μ.1 iM 1) ≤ x3 then (some (.inr x2)) else (xbd (fX12_isKeeping x3 p0 p1 μ) fun q5 => if q5 = 0 then (xlt (x3 + 1) fun x6 => some (.inl (x2, x6))) else (if x2 = (-1) then (xlt (x3 + 1) fun x7 => some (.inl (x3, x7))) else (xbd (xgI μ iM_minuteOf 24 x3) fun v8 => xbd (xgI μ iM_minuteOf 24 x2) fun v9 => if v8 < v9 then (xlt (x3 + 1) fun x10 => some (.inl (x2, x10))) else (xlt (x3 + 1) fun x11 => some (.inl (x3, x11))))))
def fX12_keptBy (p0 : Int32) (p1 : Int32) (μ : xm) : Option (Int32) := xbd (fX12_lateAt p0 p1 μ) fun q1 => if q1 = 0 then (some (-1)) else (xbd (xloop xfu (fun v => fX12_keptBy_b16 v.1 v.2 p0 p1 μ) ((-1), 0)) fun q12 => some q12)
set_option maxHeartbeats 4000000 in
set_option maxRecDepth 100000 in
theorem kX12_keptBy {E : xE} {d : Nat} {QQ : xP} (hd : 4 ≤ d) {p0 : Int32} {p1 : Int32} {μ : xm} {R : xr} {n : Nat} (hF : xFin R n)  {res : Int32} (h : fX12_keptBy p0 p1 μ = some res) (hQ : QQ (some (.int res)) (xσ μ R) n) : xCon E d Y_X12_keptBy 0 0 [.ref (E.2.2.2 + iM), .int p0, .int p1] (xσ μ R) n QQ := by
  refine xCon_of pn_RX12 (Nat.le_of_ble_eq_true rfl) (L0 := [(0, .ref (E.2.2.2 + iM)), (1, .int p0), (2, .int p1)]) rfl ?_
  unfold fX12_keptBy at h
  refine ev_aload_n 0 dX12_keptBy_0 rfl rfl ?_
  refine ev_iload_n 1 dX12_keptBy_1 rfl rfl ?_
  refine ev_iload_n 2 dX12_keptBy_2 rfl rfl ?_
  obtain ⟨q1, hq1, h⟩ := xbd_some h
  refine ev_callV (ci := 12) (rest := []) 2 (kX12_lateAt (E := E) (d := 0) (QQ := (fun v τ n' => v = some (.int q1) ∧ τ = xσ μ R ∧ n = n')) (Nat.le_refl _) hF hq1 (⟨rfl, rfl, rfl⟩)) my_X12_lateAt ⟨m_1506, m_1508, m_46⟩ cl_12 kd_61 (xl hF rfl) rfl rfl (Nat.le_of_ble_eq_true rfl) (Nat.le_trans (by decide) hd) (xlo (by decide) (Nat.le_trans (by decide) hd)) (Nat.zero_le _) (Nat.zero_le _) dX12_keptBy_3 (fun v τ n' hv => ?_)
  obtain ⟨rfl, rfl, rfl⟩ := hv
  show Ev E (xcm E d 0 0 QQ) Y_X12_keptBy 6 [(0, .ref (E.2.2.2 + iM)), (1, .int p0), (2, .int p1)] [.int q1] (xσ μ R) n 0 0
  refine ev_if_ne (tgt := 11) dX12_keptBy_6 (by decide) (fun c6 => ?_) (fun c6 => ?_)
  · replace h := xif_f c6 h
    refine ev_iconst (v := (-1)) dX12_keptBy_11 (by decide) ?_
    refine xv_istore_n (L' := [(3, .int (-1)), (0, .ref (E.2.2.2 + iM)), (1, .int p0), (2, .int p1)]) rfl dX12_keptBy_12 rfl (Nat.le_of_ble_eq_true rfl) rfl ?_
    refine ev_iconst (v := 0) dX12_keptBy_13 (by decide) ?_
    refine xv_istore (L' := [(4, .int 0), (3, .int (-1)), (0, .ref (E.2.2.2 + iM)), (1, .int p0), (2, .int p1)]) rfl dX12_keptBy_14 (Nat.le_of_ble_eq_true rfl) rfl ?_
    obtain ⟨q12, hq12, h⟩ := xbd_some h
    refine ev_sub (L' := [(0, .ref (E.2.2.2 + iM)), (1, .int p0), (2, .int p1), (3, .int (-1)), (4, .int 0)]) [2, 3, 4, 1, 0] rfl ?_
    refine xloop_run (fun v => Ev E (xcm E d 0 0 QQ) Y_X12_keptBy 16 [(0, .ref (E.2.2.2 + iM)), (1, .int p0), (2, .int p1), (3, .int v.1), (4, .int v.2)] [] (xσ μ R) n 0 0) (fun v => Ev E (xcm E d 0 0 QQ) Y_X12_keptBy 66 [(3, .int v)] [] (xσ μ R) n 0 0) ?_ _ _ _ hq12 ?_
    · rintro ⟨x2, x3⟩ y4 h hk
      replace h : fX12_keptBy_b16 x2 x3 p0 p1 μ = some y4 := h
      show Ev E (xcm E d 0 0 QQ) Y_X12_keptBy 16 [(0, .ref (E.2.2.2 + iM)), (1, .int p0), (2, .int p1), (3, .int x2), (4, .int x3)] [] (xσ μ R) n 0 0
      unfold fX12_keptBy_b16 at h
      refine ev_iload 4 dX12_keptBy_16 rfl ?_
      refine ev_aload_n 0 dX12_keptBy_18 rfl rfl ?_
      refine xv_getI cl_12 lk_RX12_155 kd_61 (xl hF rfl) (fun _ => rfl) dX12_keptBy_19 ?_
      refine ev_icmp_ge (tgt := 66) dX12_keptBy_22 (by decide) (fun c22 => ?_) (fun c22 => ?_)
      · replace h := xif_t c22 h
        cases h
        replace hk := xel_r hk
        exact ev_sub [3] rfl (hk)
      · replace h := xif_f c22 h
        refine ev_aload_n 0 dX12_keptBy_25 rfl rfl ?_
        refine ev_iload 4 dX12_keptBy_26 rfl ?_
        refine ev_iload_n 1 dX12_keptBy_28 rfl rfl ?_
        refine ev_iload_n 2 dX12_keptBy_29 rfl rfl ?_
        obtain ⟨q5, hq5, h⟩ := xbd_some h
        refine ev_callV (ci := 12) (rest := []) 3 (kX12_isKeeping (E := E) (d := 3) (QQ := (fun v τ n' => v = some (.int q5) ∧ τ = xσ μ R ∧ n = n')) (Nat.le_refl _) hF hq5 (⟨rfl, rfl, rfl⟩)) my_X12_isKeeping ⟨m_1510, m_1512, m_47⟩ cl_12 kd_61 (xl hF rfl) rfl rfl (Nat.le_of_ble_eq_true rfl) (Nat.le_trans (by decide) hd) (xlo (by decide) (Nat.le_trans (by decide) hd)) (Nat.zero_le _) (Nat.zero_le _) dX12_keptBy_30 (fun v τ n' hv => ?_)
        obtain ⟨rfl, rfl, rfl⟩ := hv
        show Ev E (xcm E d 0 0 QQ) Y_X12_keptBy 33 [(0, .ref (E.2.2.2 + iM)), (1, .int p0), (2, .int p1), (3, .int x2), (4, .int x3)] [.int q5] (xσ μ R) n 0 0
        refine ev_if_eq (tgt := 60) dX12_keptBy_33 (by decide) (fun c33 => ?_) (fun c33 => ?_)
        · replace h := xif_t c33 h
          obtain ⟨x6, hx6, h⟩ := xlt_some h
          refine ev_iinc (L' := [(4, .int x6), (0, .ref (E.2.2.2 + iM)), (1, .int p0), (2, .int p1), (3, .int x2)]) 4 dX12_keptBy_60 rfl ((by rfl : x3 + Int32.ofInt 1 = x3 + 1).trans hx6) (Nat.le_of_ble_eq_true rfl) rfl ?_
          refine ev_goto (tgt := 16) dX12_keptBy_63 (by decide) ?_
          cases h
          replace hk := xel_l hk
          exact ev_sub [1, 2, 3, 4, 0] rfl (hk)
        · replace h := xif_f c33 h
          refine ev_iload_n 3 dX12_keptBy_36 rfl rfl ?_
          refine ev_iconst (v := (-1)) dX12_keptBy_37 (by decide) ?_
          refine ev_icmp_eq (tgt := 57) dX12_keptBy_38 (by decide) (fun c38 => ?_) (fun c38 => ?_)
          · replace h := xif_t c38 h
            refine ev_iload 4 dX12_keptBy_57 rfl ?_
            refine xv_istore_n (L' := [(3, .int x3), (0, .ref (E.2.2.2 + iM)), (1, .int p0), (2, .int p1), (4, .int x3)]) rfl dX12_keptBy_59 rfl (Nat.le_of_ble_eq_true rfl) rfl ?_
            obtain ⟨x7, hx7, h⟩ := xlt_some h
            refine ev_iinc (L' := [(4, .int x7), (3, .int x3), (0, .ref (E.2.2.2 + iM)), (1, .int p0), (2, .int p1)]) 4 dX12_keptBy_60 rfl ((by rfl : x3 + Int32.ofInt 1 = x3 + 1).trans hx7) (Nat.le_of_ble_eq_true rfl) rfl ?_
            refine ev_goto (tgt := 16) dX12_keptBy_63 (by decide) ?_
            cases h
            replace hk := xel_l hk
            exact ev_sub [2, 3, 4, 1, 0] rfl (hk)
          · replace h := xif_f c38 h
            refine ev_aload_n 0 dX12_keptBy_41 rfl rfl ?_
            refine xv_getF (a := iM_minuteOf) cl_12 lk_RX12_16 kd_61 (xl hF rfl) (fun _ => rfl) (fr_61_6 hF) dX12_keptBy_42 ?_
            refine ev_iload 4 dX12_keptBy_45 rfl ?_
            obtain ⟨v8, hv8, h⟩ := xbd_some h
            refine xv_iald kd_64 (xl hF rfl) hv8 dX12_keptBy_47 ?_
            refine ev_aload_n 0 dX12_keptBy_48 rfl rfl ?_
            refine xv_getF (a := iM_minuteOf) cl_12 lk_RX12_16 kd_61 (xl hF rfl) (fun _ => rfl) (fr_61_6 hF) dX12_keptBy_49 ?_
            refine ev_iload_n 3 dX12_keptBy_52 rfl rfl ?_
            obtain ⟨v9, hv9, h⟩ := xbd_some h
            refine xv_iald kd_64 (xl hF rfl) hv9 dX12_keptBy_53 ?_
            refine ev_icmp_lt (tgt := 60) dX12_keptBy_54 (by decide) (fun c54 => ?_) (fun c54 => ?_)
            · replace h := xif_t c54 h
              obtain ⟨x10, hx10, h⟩ := xlt_some h
              refine ev_iinc (L' := [(4, .int x10), (0, .ref (E.2.2.2 + iM)), (1, .int p0), (2, .int p1), (3, .int x2)]) 4 dX12_keptBy_60 rfl ((by rfl : x3 + Int32.ofInt 1 = x3 + 1).trans hx10) (Nat.le_of_ble_eq_true rfl) rfl ?_
              refine ev_goto (tgt := 16) dX12_keptBy_63 (by decide) ?_
              cases h
              replace hk := xel_l hk
              exact ev_sub [1, 2, 3, 4, 0] rfl (hk)
            · replace h := xif_f c54 h
              refine ev_iload 4 dX12_keptBy_57 rfl ?_
              refine xv_istore_n (L' := [(3, .int x3), (0, .ref (E.2.2.2 + iM)), (1, .int p0), (2, .int p1), (4, .int x3)]) rfl dX12_keptBy_59 rfl (Nat.le_of_ble_eq_true rfl) rfl ?_
              obtain ⟨x11, hx11, h⟩ := xlt_some h
              refine ev_iinc (L' := [(4, .int x11), (3, .int x3), (0, .ref (E.2.2.2 + iM)), (1, .int p0), (2, .int p1)]) 4 dX12_keptBy_60 rfl ((by rfl : x3 + Int32.ofInt 1 = x3 + 1).trans hx11) (Nat.le_of_ble_eq_true rfl) rfl ?_
              refine ev_goto (tgt := 16) dX12_keptBy_63 (by decide) ?_
              cases h
              replace hk := xel_l hk
              exact ev_sub [2, 3, 4, 1, 0] rfl (hk)
    · show Ev E (xcm E d 0 0 QQ) Y_X12_keptBy 66 [(3, .int q12)] [] (xσ μ R) n 0 0
      refine ev_iload_n 0 dX12_keptBy_66 rfl rfl ?_
      cases h
      exact ev_iret rfl (hQ) dX12_keptBy_67 (Nat.zero_le _) (Nat.zero_le _)
  · replace h := xif_t c6 h
    refine ev_iconst (v := (-1)) dX12_keptBy_9 (by decide) ?_
    cases h
    exact ev_iret rfl (hQ) dX12_keptBy_10 (Nat.zero_le _) (Nat.zero_le _)
