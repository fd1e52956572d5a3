def fX12_comesTo_j63 (x2 : Int32) (μ4 : xm) (x7 : Int32) (x9 : Int32) (x10 : Int32) : Option ((Int32 × Int32 × xm) ⊕ ((xm) ⊕ (Int32 × xm))) := if x7 = 0 then (xbd (xsI μ4 iM_stack 220 x2 x9) fun μ14 => xlt (x2 + 1) fun x15 => some (.inl (x15, x10, μ14))) else (xbd (xgI μ4 iM_facts 12 x9) fun v11 => xbd (xsI μ4 iM_stack 220 x2 v11) fun μ12 => xlt (x2 + 1) fun x13 => some (.inl (x13, x10, μ12)))
def fX12_comesTo_j155 (x17 : Int32) (x1 : Int32) (x2 : Int32) (μ4 : xm) (x9 : Int32) (x10 : Int32) (v16 : Int32) : Option ((Int32 × Int32 × xm) ⊕ ((xm) ⊕ (Int32 × xm))) := if v16 = x17 then (xlt (x1 + x9) fun x19 => some (.inl (x2, x19, μ4))) else (xlt (x2 - 1) fun x18 => some (.inl (x18, x10, μ4)))
def fX12_comesTo_j135 (x1 : Int32) (x2 : Int32) (μ4 : xm) (x7 : Int32) (x9 : Int32) (x10 : Int32) : Option ((Int32 × Int32 × xm) ⊕ ((xm) ⊕ (Int32 × xm))) := xbd (xgI μ4 iM_stack 220 (x2 - 1)) fun v16 => if x7 = 12 then (fX12_comesTo_j155 1 x1 x2 μ4 x9 x10 v16) else (fX12_comesTo_j155 0 x1 x2 μ4 x9 x10 v16)
def fX12_comesTo_j203 (μ4 : xm) (x7 : Int32) (x10 : Int32) (x20 : Int32) : Option ((Int32 × Int32 × xm) ⊕ ((xm) ⊕ (Int32 × xm))) := xbd (xgI μ4 iM_stack 220 (x20 - 1)) fun v21 => xbd (xgI μ4 iM_stack 220 x20) fun v22 => xbd (fX12_reckon x7 v21 v22) fun q23 => xbd (xsI μ4 iM_stack 220 (x20 - 1) q23) fun μ24 => some (.inl (x20, x10, μ24))
def fX12_comesTo_j192 (μ4 : xm) (x7 : Int32) (x10 : Int32) (x20 : Int32) : Option ((Int32 × Int32 × xm) ⊕ ((xm) ⊕ (Int32 × xm))) := xbd (xgI μ4 iM_stack 220 x20) fun v25 => if v25 = 0 then (some (.inr (.inr (0, μ4)))) else (fX12_comesTo_j203 μ4 x7 x10 x20)
def fX12_comesTo_b16 (x2 : Int32) (x3 : Int32) (μ4 : xm) (p1 : Int32) (x1 : Int32) : Option ((Int32 × Int32 × xm) ⊕ ((xm) ⊕ (Int32 × xm))) := if p1 ≤ x3 then (some (.inr (.inl μ4))) else (xbd (xgI μ4 iM_codes 220 x3) fun v6 => xlt (v6 / 1048576) fun x7 => xbd (xgI μ4 iM_codes 220 x3) fun v8 => xlt (v8 - v8 / 1048576 * 1048576) fun x9 => xlt (x3 + 1) fun x10 => if x7 = 0 then (fX12_comesTo_j63 x2 μ4 x7 x9 x10) else (if x7 = 1 then (fX12_comesTo_j63 x2 μ4 x7 x9 x10) else (if x7 = 10 then (xbd (xgI μ4 iM_stack 220 (x2 - 1)) fun v26 => xbd (xsI μ4 iM_stack 220 (x2 - 1) (1 - v26)) fun μ27 => some (.inl (x2, x10, μ27))) else (if x7 = 11 then (fX12_comesTo_j135 x1 x2 μ4 x7 x9 x10) else (if x7 = 12 then (fX12_comesTo_j135 x1 x2 μ4 x7 x9 x10) else (xlt (x2 - 1) fun x20 => if x7 = 5 then (fX12_comesTo_j192 μ4 x7 x10 x20) else (if x7 = 6 then (fX12_comesTo_j192 μ4 x7 x10 x20) else (fX12_comesTo_j203 μ4 x7 x10 x20))))))))
def fX12_comesTo (p0 : Int32) (p1 : Int32) (μ : xm) : Option (Int32 × xm) := xlt (220 * (p0 / 220)) fun x1 => xbd (xloop xfu (fun v => fX12_comesTo_b16 v.1 v.2.1 v.2.2 p1 x1) (0, p0, μ)) fun q28 => xsm q28 (fun q29 => xbd (xgI q29 iM_stack 220 0) fun v31 => some (v31, q29)) (fun q30 => some q30)
set_option maxHeartbeats 4000000 in
set_option maxRecDepth 100000 in
theorem kX12_comesTo {E : xE} {d : Nat} {QQ : xP} (hd : 1 ≤ d) {p0 : Int32} {p1 : Int32} {μ : xm} {R : xr} {n : Nat} (hF : xFin R n)  {res : Int32 × xm} (h : fX12_comesTo p0 p1 μ = some res) (hQ : QQ (some (.int res.1)) (xσ res.2 R) n) : xCon E d Y_X12_comesTo 0 0 [.ref (E.2.2.2 + iM), .int p0, .int p1] (xσ μ R) n QQ := by
  refine xCon_of pn_RX12 (Nat.le_of_ble_eq_true rfl) (L0 := [(0, .ref (E.2.2.2 + iM)), (1, .int p0), (2, .int p1)]) rfl ?_
  unfold fX12_comesTo at h
  refine ev_iconst (v := 0) dX12_comesTo_0 (by decide) ?_
  refine xv_istore_n (L' := [(3, .int 0), (0, .ref (E.2.2.2 + iM)), (1, .int p0), (2, .int p1)]) rfl dX12_comesTo_1 rfl (Nat.le_of_ble_eq_true rfl) rfl ?_
  refine ev_sipush (v := 220) dX12_comesTo_2 (by decide) ?_
  refine ev_iload_n 2 dX12_comesTo_5 rfl rfl ?_
  refine ev_sipush (v := 220) dX12_comesTo_6 (by decide) ?_
  refine ev_idiv dX12_comesTo_9 (by decide) ?_
  refine ev_imul dX12_comesTo_10 ?_
  obtain ⟨x1, hx1, h⟩ := xlt_some h
  refine xv_istore (L' := [(4, .int x1), (3, .int 0), (0, .ref (E.2.2.2 + iM)), (1, .int p0), (2, .int p1)]) hx1 dX12_comesTo_11 (Nat.le_of_ble_eq_true rfl) rfl ?_
  refine ev_iload_n 3 dX12_comesTo_13 rfl rfl ?_
  refine xv_istore (L' := [(5, .int p0), (4, .int x1), (3, .int 0), (0, .ref (E.2.2.2 + iM)), (1, .int p0), (2, .int p1)]) rfl dX12_comesTo_14 (Nat.le_of_ble_eq_true rfl) rfl ?_
  obtain ⟨q28, hq28, h⟩ := xbd_some h
  refine ev_sub (L' := [(0, .ref (E.2.2.2 + iM)), (2, .int p1), (3, .int 0), (4, .int x1), (5, .int p0)]) [3, 5, 2, 1, 0] rfl ?_
  refine xloop_run (fun v => Ev E (xcm E d 0 0 QQ) Y_X12_comesTo 16 [(0, .ref (E.2.2.2 + iM)), (2, .int p1), (3, .int v.1), (4, .int x1), (5, .int v.2.1)] [] (xσ v.2.2 R) n 0 0) (xel (fun v => Ev E (xcm E d 0 0 QQ) Y_X12_comesTo 233 [(0, .ref (E.2.2.2 + iM))] [] (xσ v R) n 0 0) (fun v => QQ (some (.int v.1)) (xσ v.2 R) n)) ?_ _ _ _ hq28 ?_
  · rintro ⟨x2, x3, μ4⟩ y5 h hk
    replace h : fX12_comesTo_b16 x2 x3 μ4 p1 x1 = some y5 := h
    show Ev E (xcm E d 0 0 QQ) Y_X12_comesTo 16 [(0, .ref (E.2.2.2 + iM)), (2, .int p1), (3, .int x2), (4, .int x1), (5, .int x3)] [] (xσ μ4 R) n 0 0
    unfold fX12_comesTo_b16 at h
    refine ev_iload 4 dX12_comesTo_16 rfl ?_
    refine ev_iload_n 1 dX12_comesTo_18 rfl rfl ?_
    refine ev_icmp_ge (tgt := 233) dX12_comesTo_19 (by decide) (fun c19 => ?_) (fun c19 => ?_)
    · replace h := xif_t c19 h
      cases h
      replace hk := xel_r hk
      replace hk := xel_l hk
      exact ev_sub [0] rfl (hk)
    · replace h := xif_f c19 h
      refine ev_aload_n 0 dX12_comesTo_22 rfl rfl ?_
      refine xv_getF (a := iM_codes) cl_12 lk_RX12_51 kd_61 (xl hF rfl) (fun _ => rfl) (fr_61_27 hF) dX12_comesTo_23 ?_
      refine ev_iload 4 dX12_comesTo_26 rfl ?_
      obtain ⟨v6, hv6, h⟩ := xbd_some h
      refine xv_iald kd_75 (xl hF rfl) hv6 dX12_comesTo_28 ?_
      refine ev_ldc (v := 1048576) m_1554 dX12_comesTo_29 ?_
      refine ev_idiv dX12_comesTo_31 (by decide) ?_
      obtain ⟨x7, hx7, h⟩ := xlt_some h
      refine xv_istore (L' := [(6, .int x7), (0, .ref (E.2.2.2 + iM)), (2, .int p1), (3, .int x2), (4, .int x1), (5, .int x3)]) hx7 dX12_comesTo_32 (Nat.le_of_ble_eq_true rfl) rfl ?_
      refine ev_aload_n 1 dX12_comesTo_34 rfl rfl ?_
      refine xv_getF (a := iM_codes) cl_12 lk_RX12_51 kd_61 (xl hF rfl) (fun _ => rfl) (fr_61_27 hF) dX12_comesTo_35 ?_
      refine ev_iload 5 dX12_comesTo_38 rfl ?_
      obtain ⟨v8, hv8, h⟩ := xbd_some h
      refine xv_iald kd_75 (xl hF rfl) hv8 dX12_comesTo_40 ?_
      refine ev_ldc (v := 1048576) m_1554 dX12_comesTo_41 ?_
      refine ev_irem dX12_comesTo_43 (by decide) ?_
      obtain ⟨x9, hx9, h⟩ := xlt_some h
      refine xv_istore (L' := [(7, .int x9), (6, .int x7), (0, .ref (E.2.2.2 + iM)), (2, .int p1), (3, .int x2), (4, .int x1), (5, .int x3)]) hx9 dX12_comesTo_44 (Nat.le_of_ble_eq_true rfl) rfl ?_
      refine ev_iload 6 dX12_comesTo_46 rfl ?_
      refine ev_iconst (v := 1) dX12_comesTo_48 (by decide) ?_
      refine ev_iadd dX12_comesTo_49 ?_
      obtain ⟨x10, hx10, h⟩ := xlt_some h
      refine xv_istore (L' := [(5, .int x10), (7, .int x9), (6, .int x7), (0, .ref (E.2.2.2 + iM)), (2, .int p1), (3, .int x2), (4, .int x1)]) hx10 dX12_comesTo_50 (Nat.le_of_ble_eq_true rfl) rfl ?_
      refine ev_iload 2 dX12_comesTo_52 rfl ?_
      have j63 : fX12_comesTo_j63 x2 μ4 x7 x9 x10 = some y5 → Ev E (xcm E d 0 0 QQ) Y_X12_comesTo 63 [(0, .ref (E.2.2.2 + iM)), (2, .int p1), (3, .int x2), (4, .int x1), (5, .int x10), (6, .int x7), (7, .int x9)] [] (xσ μ4 R) n 0 0 := by
        intro h
        unfold fX12_comesTo_j63 at h
        refine ev_aload_n 0 dX12_comesTo_63 rfl rfl ?_
        refine xv_getF (a := iM_stack) cl_12 lk_RX12_66 kd_61 (xl hF rfl) (fun _ => rfl) (fr_61_32 hF) dX12_comesTo_64 ?_
        refine ev_iload_n 2 dX12_comesTo_67 rfl rfl ?_
        refine ev_iload 5 dX12_comesTo_68 rfl ?_
        refine ev_if_ne (tgt := 78) dX12_comesTo_70 (by decide) (fun c70 => ?_) (fun c70 => ?_)
        · replace h := xif_f c70 h
          refine ev_aload_n 0 dX12_comesTo_78 rfl rfl ?_
          refine xv_getF (a := iM_facts) cl_12 lk_RX12_69 kd_61 (xl hF rfl) (fun _ => rfl) (fr_61_33 hF) dX12_comesTo_79 ?_
          refine ev_iload 6 dX12_comesTo_82 rfl ?_
          obtain ⟨v11, hv11, h⟩ := xbd_some h
          refine xv_iald kd_81 (xl hF rfl) hv11 dX12_comesTo_84 ?_
          obtain ⟨μ12, hμ12, h⟩ := xbd_some h
          refine xv_iast kd_80 (xl hF rfl) hμ12 dX12_comesTo_85 ?_
          refine ev_iload_n 2 dX12_comesTo_86 rfl rfl ?_
          refine ev_iconst (v := 1) dX12_comesTo_87 (by decide) ?_
          refine ev_iadd dX12_comesTo_88 ?_
          obtain ⟨x13, hx13, h⟩ := xlt_some h
          refine xv_istore_n (L' := [(3, .int x13), (0, .ref (E.2.2.2 + iM)), (2, .int p1), (4, .int x1), (5, .int x10), (6, .int x7), (7, .int x9)]) hx13 dX12_comesTo_89 rfl (Nat.le_of_ble_eq_true rfl) rfl ?_
          refine ev_goto (tgt := 230) dX12_comesTo_90 (by decide) ?_
          refine ev_goto (tgt := 16) dX12_comesTo_230 (by decide) ?_
          cases h
          replace hk := xel_l hk
          exact ev_sub [1, 2, 0, 3, 4] rfl (hk)
        · replace h := xif_t c70 h
          refine ev_iload 6 dX12_comesTo_73 rfl ?_
          refine ev_goto (tgt := 85) dX12_comesTo_75 (by decide) ?_
          obtain ⟨μ14, hμ14, h⟩ := xbd_some h
          refine xv_iast kd_80 (xl hF rfl) hμ14 dX12_comesTo_85 ?_
          refine ev_iload_n 2 dX12_comesTo_86 rfl rfl ?_
          refine ev_iconst (v := 1) dX12_comesTo_87 (by decide) ?_
          refine ev_iadd dX12_comesTo_88 ?_
          obtain ⟨x15, hx15, h⟩ := xlt_some h
          refine xv_istore_n (L' := [(3, .int x15), (0, .ref (E.2.2.2 + iM)), (2, .int p1), (4, .int x1), (5, .int x10), (6, .int x7), (7, .int x9)]) hx15 dX12_comesTo_89 rfl (Nat.le_of_ble_eq_true rfl) rfl ?_
          refine ev_goto (tgt := 230) dX12_comesTo_90 (by decide) ?_
          refine ev_goto (tgt := 16) dX12_comesTo_230 (by decide) ?_
          cases h
          replace hk := xel_l hk
          exact ev_sub [1, 2, 0, 3, 4] rfl (hk)
      refine ev_if_eq (tgt := 63) dX12_comesTo_54 (by decide) (fun c54 => ?_) (fun c54 => ?_)
      · replace h := xif_t c54 h
        exact ev_sub [3, 4, 5, 6, 0, 2, 1] rfl (j63 h)
      · replace h := xif_f c54 h
        refine ev_iload 2 dX12_comesTo_57 rfl ?_
        refine ev_iconst (v := 1) dX12_comesTo_59 (by decide) ?_
        refine ev_icmp_ne (tgt := 93) dX12_comesTo_60 (by decide) (fun c60 => ?_) (fun c60 => ?_)
        · replace h := xif_f c60 h
          refine ev_iload 2 dX12_comesTo_93 rfl ?_
          refine ev_bipush (v := 10) dX12_comesTo_95 (by decide) ?_
          refine ev_icmp_ne (tgt := 121) dX12_comesTo_97 (by decide) (fun c97 => ?_) (fun c97 => ?_)
          · replace h := xif_f c97 h
            refine ev_iload 2 dX12_comesTo_121 rfl ?_
            refine ev_bipush (v := 11) dX12_comesTo_123 (by decide) ?_
            have j135 : fX12_comesTo_j135 x1 x2 μ4 x7 x9 x10 = some y5 → Ev E (xcm E d 0 0 QQ) Y_X12_comesTo 135 [(0, .ref (E.2.2.2 + iM)), (2, .int p1), (3, .int x2), (4, .int x1), (5, .int x10), (6, .int x7), (7, .int x9)] [] (xσ μ4 R) n 0 0 := by
              intro h
              unfold fX12_comesTo_j135 at h
              refine ev_aload_n 0 dX12_comesTo_135 rfl rfl ?_
              refine xv_getF (a := iM_stack) cl_12 lk_RX12_66 kd_61 (xl hF rfl) (fun _ => rfl) (fr_61_32 hF) dX12_comesTo_136 ?_
              refine ev_iload_n 2 dX12_comesTo_139 rfl rfl ?_
              refine ev_iconst (v := 1) dX12_comesTo_140 (by decide) ?_
              refine ev_isub dX12_comesTo_141 ?_
              obtain ⟨v16, hv16, h⟩ := xbd_some h
              refine xv_iald kd_80 (xl hF rfl) hv16 dX12_comesTo_142 ?_
              refine ev_iload 5 dX12_comesTo_143 rfl ?_
              refine ev_bipush (v := 12) dX12_comesTo_145 (by decide) ?_
              have j155 : ∀ (x17 : Int32), fX12_comesTo_j155 x17 x1 x2 μ4 x9 x10 v16 = some y5 → Ev E (xcm E d 0 0 QQ) Y_X12_comesTo 155 [(0, .ref (E.2.2.2 + iM)), (2, .int p1), (3, .int x2), (4, .int x1), (5, .int x10), (7, .int x9)] [.int x17, .int v16] (xσ μ4 R) n 0 0 := by
                intro x17 h
                unfold fX12_comesTo_j155 at h
                refine ev_icmp_ne (tgt := 168) dX12_comesTo_155 (by decide) (fun c155 => ?_) (fun c155 => ?_)
                · replace h := xif_f c155 h
                  refine ev_iload_n 2 dX12_comesTo_168 rfl rfl ?_
                  refine ev_iconst (v := 1) dX12_comesTo_169 (by decide) ?_
                  refine ev_isub dX12_comesTo_170 ?_
                  obtain ⟨x18, hx18, h⟩ := xlt_some h
                  refine xv_istore_n (L' := [(3, .int x18), (0, .ref (E.2.2.2 + iM)), (2, .int p1), (4, .int x1), (5, .int x10), (7, .int x9)]) hx18 dX12_comesTo_171 rfl (Nat.le_of_ble_eq_true rfl) rfl ?_
                  refine ev_goto (tgt := 230) dX12_comesTo_172 (by decide) ?_
                  refine ev_goto (tgt := 16) dX12_comesTo_230 (by decide) ?_
                  cases h
                  replace hk := xel_l hk
                  exact ev_sub [1, 2, 0, 3, 4] rfl (hk)
                · replace h := xif_t c155 h
                  refine ev_iload 3 dX12_comesTo_158 rfl ?_
                  refine ev_iload 5 dX12_comesTo_160 rfl ?_
                  refine ev_iadd dX12_comesTo_162 ?_
                  obtain ⟨x19, hx19, h⟩ := xlt_some h
                  refine xv_istore (L' := [(5, .int x19), (0, .ref (E.2.2.2 + iM)), (2, .int p1), (3, .int x2), (4, .int x1), (7, .int x9)]) hx19 dX12_comesTo_163 (Nat.le_of_ble_eq_true rfl) rfl ?_
                  refine ev_goto (tgt := 230) dX12_comesTo_165 (by decide) ?_
                  refine ev_goto (tgt := 16) dX12_comesTo_230 (by decide) ?_
                  cases h
                  replace hk := xel_l hk
                  exact ev_sub [1, 2, 3, 4, 0] rfl (hk)
              refine ev_icmp_ne (tgt := 154) dX12_comesTo_147 (by decide) (fun c147 => ?_) (fun c147 => ?_)
              · replace h := xif_f c147 h
                refine ev_iconst (v := 0) dX12_comesTo_154 (by decide) ?_
                exact ev_sub [0, 1, 2, 3, 4, 6] rfl (j155 _ h)
              · replace h := xif_t c147 h
                refine ev_iconst (v := 1) dX12_comesTo_150 (by decide) ?_
                refine ev_goto (tgt := 155) dX12_comesTo_151 (by decide) ?_
                exact ev_sub [0, 1, 2, 3, 4, 6] rfl (j155 _ h)
            refine ev_icmp_eq (tgt := 135) dX12_comesTo_125 (by decide) (fun c125 => ?_) (fun c125 => ?_)
            · replace h := xif_t c125 h
              exact ev_sub [3, 4, 5, 6, 0, 2, 1] rfl (j135 h)
            · replace h := xif_f c125 h
              refine ev_iload 2 dX12_comesTo_128 rfl ?_
              refine ev_bipush (v := 12) dX12_comesTo_130 (by decide) ?_
              refine ev_icmp_ne (tgt := 175) dX12_comesTo_132 (by decide) (fun c132 => ?_) (fun c132 => ?_)
              · replace h := xif_f c132 h
                refine ev_iload_n 5 dX12_comesTo_175 rfl rfl ?_
                refine ev_iconst (v := 1) dX12_comesTo_176 (by decide) ?_
                refine ev_isub dX12_comesTo_177 ?_
                obtain ⟨x20, hx20, h⟩ := xlt_some h
                refine xv_istore_n (L' := [(3, .int x20), (5, .int x10), (7, .int x9), (6, .int x7), (0, .ref (E.2.2.2 + iM)), (2, .int p1), (4, .int x1)]) hx20 dX12_comesTo_178 rfl (Nat.le_of_ble_eq_true rfl) rfl ?_
                refine ev_iload 3 dX12_comesTo_179 rfl ?_
                refine ev_iconst (v := 5) dX12_comesTo_181 (by decide) ?_
                have j203 : fX12_comesTo_j203 μ4 x7 x10 x20 = some y5 → Ev E (xcm E d 0 0 QQ) Y_X12_comesTo 203 [(0, .ref (E.2.2.2 + iM)), (2, .int p1), (3, .int x20), (4, .int x1), (5, .int x10), (6, .int x7)] [] (xσ μ4 R) n 0 0 := by
                  intro h
                  unfold fX12_comesTo_j203 at h
                  refine ev_aload_n 0 dX12_comesTo_203 rfl rfl ?_
                  refine xv_getF (a := iM_stack) cl_12 lk_RX12_66 kd_61 (xl hF rfl) (fun _ => rfl) (fr_61_32 hF) dX12_comesTo_204 ?_
                  refine ev_iload_n 2 dX12_comesTo_207 rfl rfl ?_
                  refine ev_iconst (v := 1) dX12_comesTo_208 (by decide) ?_
                  refine ev_isub dX12_comesTo_209 ?_
                  refine ev_iload 5 dX12_comesTo_210 rfl ?_
                  refine ev_aload_n 0 dX12_comesTo_212 rfl rfl ?_
                  refine xv_getF (a := iM_stack) cl_12 lk_RX12_66 kd_61 (xl hF rfl) (fun _ => rfl) (fr_61_32 hF) dX12_comesTo_213 ?_
                  refine ev_iload_n 2 dX12_comesTo_216 rfl rfl ?_
                  refine ev_iconst (v := 1) dX12_comesTo_217 (by decide) ?_
                  refine ev_isub dX12_comesTo_218 ?_
                  obtain ⟨v21, hv21, h⟩ := xbd_some h
                  refine xv_iald kd_80 (xl hF rfl) hv21 dX12_comesTo_219 ?_
                  refine ev_aload_n 0 dX12_comesTo_220 rfl rfl ?_
                  refine xv_getF (a := iM_stack) cl_12 lk_RX12_66 kd_61 (xl hF rfl) (fun _ => rfl) (fr_61_32 hF) dX12_comesTo_221 ?_
                  refine ev_iload_n 2 dX12_comesTo_224 rfl rfl ?_
                  obtain ⟨v22, hv22, h⟩ := xbd_some h
                  refine xv_iald kd_80 (xl hF rfl) hv22 dX12_comesTo_225 ?_
                  obtain ⟨q23, hq23, h⟩ := xbd_some h
                  refine ev_callS (As := [.int x7, .int v21, .int v22]) (rest := [.int (x20 - 1), .ref (E.2.2.2 + iM_stack)]) 3 (kX12_reckon (E := E) (d := 0) (QQ := (fun v τ n' => v = some (.int q23) ∧ τ = xσ μ4 R ∧ n = n')) (Nat.le_refl _)  hq23 (⟨rfl, rfl, rfl⟩)) my_X12_reckon ⟨m_1633, m_1634⟩ rfl rfl (Nat.le_of_ble_eq_true rfl) (Nat.le_trans (by decide) hd) (xlo (by decide) (Nat.le_trans (by decide) hd)) (Nat.zero_le _) (Nat.zero_le _) dX12_comesTo_226 (fun v τ n' hv => ?_)
                  obtain ⟨rfl, rfl, rfl⟩ := hv
                  show Ev E (xcm E d 0 0 QQ) Y_X12_comesTo 229 [(0, .ref (E.2.2.2 + iM)), (2, .int p1), (3, .int x20), (4, .int x1), (5, .int x10), (6, .int x7)] [.int q23, .int (x20 - 1), .ref (E.2.2.2 + iM_stack)] (xσ μ4 R) n 0 0
                  obtain ⟨μ24, hμ24, h⟩ := xbd_some h
                  refine xv_iast kd_80 (xl hF rfl) hμ24 dX12_comesTo_229 ?_
                  refine ev_goto (tgt := 16) dX12_comesTo_230 (by decide) ?_
                  cases h
                  replace hk := xel_l hk
                  exact ev_sub [0, 1, 2, 3, 4] rfl (hk)
                have j192 : fX12_comesTo_j192 μ4 x7 x10 x20 = some y5 → Ev E (xcm E d 0 0 QQ) Y_X12_comesTo 192 [(0, .ref (E.2.2.2 + iM)), (2, .int p1), (3, .int x20), (4, .int x1), (5, .int x10), (6, .int x7)] [] (xσ μ4 R) n 0 0 := by
                  intro h
                  unfold fX12_comesTo_j192 at h
                  refine ev_aload_n 0 dX12_comesTo_192 rfl rfl ?_
                  refine xv_getF (a := iM_stack) cl_12 lk_RX12_66 kd_61 (xl hF rfl) (fun _ => rfl) (fr_61_32 hF) dX12_comesTo_193 ?_
                  refine ev_iload_n 2 dX12_comesTo_196 rfl rfl ?_
                  obtain ⟨v25, hv25, h⟩ := xbd_some h
                  refine xv_iald kd_80 (xl hF rfl) hv25 dX12_comesTo_197 ?_
                  refine ev_if_ne (tgt := 203) dX12_comesTo_198 (by decide) (fun c198 => ?_) (fun c198 => ?_)
                  · replace h := xif_f c198 h
                    exact ev_sub [0, 1, 2, 3, 4, 5] rfl (j203 h)
                  · replace h := xif_t c198 h
                    refine ev_iconst (v := 0) dX12_comesTo_201 (by decide) ?_
                    cases h
                    replace hk := xel_r hk
                    replace hk := xel_r hk
                    exact ev_iret rfl (hk) dX12_comesTo_202 (Nat.zero_le _) (Nat.zero_le _)
                refine ev_icmp_eq (tgt := 192) dX12_comesTo_182 (by decide) (fun c182 => ?_) (fun c182 => ?_)
                · replace h := xif_t c182 h
                  exact ev_sub [4, 5, 0, 6, 1, 3] rfl (j192 h)
                · replace h := xif_f c182 h
                  refine ev_iload 3 dX12_comesTo_185 rfl ?_
                  refine ev_bipush (v := 6) dX12_comesTo_187 (by decide) ?_
                  refine ev_icmp_ne (tgt := 203) dX12_comesTo_189 (by decide) (fun c189 => ?_) (fun c189 => ?_)
                  · replace h := xif_f c189 h
                    exact ev_sub [4, 5, 0, 6, 1, 3] rfl (j203 h)
                  · replace h := xif_t c189 h
                    exact ev_sub [4, 5, 0, 6, 1, 3] rfl (j192 h)
              · replace h := xif_t c132 h
                exact ev_sub [3, 4, 5, 6, 0, 2, 1] rfl (j135 h)
          · replace h := xif_t c97 h
            refine ev_aload_n 3 dX12_comesTo_100 rfl rfl ?_
            refine xv_getF (a := iM_stack) cl_12 lk_RX12_66 kd_61 (xl hF rfl) (fun _ => rfl) (fr_61_32 hF) dX12_comesTo_101 ?_
            refine ev_iload_n 5 dX12_comesTo_104 rfl rfl ?_
            refine ev_iconst (v := 1) dX12_comesTo_105 (by decide) ?_
            refine ev_isub dX12_comesTo_106 ?_
            refine ev_iconst (v := 1) dX12_comesTo_107 (by decide) ?_
            refine ev_aload_n 3 dX12_comesTo_108 rfl rfl ?_
            refine xv_getF (a := iM_stack) cl_12 lk_RX12_66 kd_61 (xl hF rfl) (fun _ => rfl) (fr_61_32 hF) dX12_comesTo_109 ?_
            refine ev_iload_n 5 dX12_comesTo_112 rfl rfl ?_
            refine ev_iconst (v := 1) dX12_comesTo_113 (by decide) ?_
            refine ev_isub dX12_comesTo_114 ?_
            obtain ⟨v26, hv26, h⟩ := xbd_some h
            refine xv_iald kd_80 (xl hF rfl) hv26 dX12_comesTo_115 ?_
            refine ev_isub dX12_comesTo_116 ?_
            obtain ⟨μ27, hμ27, h⟩ := xbd_some h
            refine xv_iast kd_80 (xl hF rfl) hμ27 dX12_comesTo_117 ?_
            refine ev_goto (tgt := 230) dX12_comesTo_118 (by decide) ?_
            refine ev_goto (tgt := 16) dX12_comesTo_230 (by decide) ?_
            cases h
            replace hk := xel_l hk
            exact ev_sub [3, 4, 5, 6, 0] rfl (hk)
        · replace h := xif_t c60 h
          exact ev_sub [3, 4, 5, 6, 0, 2, 1] rfl (j63 h)
  · rcases q28 with q29 | q30
    · replace h := xsm_l h
      show Ev E (xcm E d 0 0 QQ) Y_X12_comesTo 233 [(0, .ref (E.2.2.2 + iM))] [] (xσ q29 R) n 0 0
      refine ev_aload_n 0 dX12_comesTo_233 rfl rfl ?_
      refine xv_getF (a := iM_stack) cl_12 lk_RX12_66 kd_61 (xl hF rfl) (fun _ => rfl) (fr_61_32 hF) dX12_comesTo_234 ?_
      refine ev_iconst (v := 0) dX12_comesTo_237 (by decide) ?_
      obtain ⟨v31, hv31, h⟩ := xbd_some h
      refine xv_iald kd_80 (xl hF rfl) hv31 dX12_comesTo_238 ?_
      cases h
      exact ev_iret rfl (hQ) dX12_comesTo_239 (Nat.zero_le _) (Nat.zero_le _)
    · replace h := xsm_r h
      cases h
      exact hQ
def fX12_comingCost (p0 : Int32) (p1 : Int32) (p2 : Int32) (p3 : Int32) (μ : xm) : Option (Int64) := xbd (xgI μ iM_minuteOf 24 p0) fun v1 => if v1 ≤ p2 then (xbd (xgI μ iM_peopleOf 24 p0) fun v2 => xbd (fX12_bits v2) fun q3 => some ((((p2 - v1).toInt64) * ((q3 - 1).toInt64)) * p3.toInt64)) else (xbd (fX12_worthAt p1 p2 μ) fun q4 => some (((v1 - p2).toInt64) * q4.toInt64))
set_option maxHeartbeats 4000000 in
set_option maxRecDepth 100000 in
theorem kX12_comingCost {E : xE} {d : Nat} {QQ : xP} (hd : 1 ≤ d) {p0 : Int32} {p1 : Int32} {p2 : Int32} {p3 : Int32} {μ : xm} {R : xr} {n : Nat} (hF : xFin R n)  {res : Int64} (h : fX12_comingCost p0 p1 p2 p3 μ = some res) (hQ : QQ (some (.long res)) (xσ μ R) n) : xCon E d Y_X12_comingCost 0 0 [.ref (E.2.2.2 + iM), .int p0, .int p1, .int p2, .int p3] (xσ μ R) n QQ := by
  refine xCon_of pn_RX12 (Nat.le_of_ble_eq_true rfl) (L0 := [(0, .ref (E.2.2.2 + iM)), (1, .int p0), (2, .int p1), (3, .int p2), (4, .int p3)]) rfl ?_
  unfold fX12_comingCost at h
  refine ev_aload_n 0 dX12_comingCost_0 rfl rfl ?_
  refine xv_getF (a := iM_minuteOf) cl_12 lk_RX12_16 kd_61 (xl hF rfl) (fun _ => rfl) (fr_61_6 hF) dX12_comingCost_1 ?_
  refine ev_iload_n 1 dX12_comingCost_4 rfl rfl ?_
  obtain ⟨v1, hv1, h⟩ := xbd_some h
  refine xv_iald kd_64 (xl hF rfl) hv1 dX12_comingCost_5 ?_
  refine xv_istore (L' := [(5, .int v1), (0, .ref (E.2.2.2 + iM)), (1, .int p0), (2, .int p1), (3, .int p2), (4, .int p3)]) rfl dX12_comingCost_6 (Nat.le_of_ble_eq_true rfl) rfl ?_
  refine ev_iload_n 4 dX12_comingCost_8 rfl rfl ?_
  refine ev_iload 0 dX12_comingCost_9 rfl ?_
  refine ev_icmp_ge (tgt := 30) dX12_comingCost_11 (by decide) (fun c11 => ?_) (fun c11 => ?_)
  · replace h := xif_t c11 h
    refine ev_iload_n 4 dX12_comingCost_30 rfl rfl ?_
    refine ev_iload 0 dX12_comingCost_31 rfl ?_
    refine ev_isub dX12_comingCost_33 ?_
    refine ev_i2l dX12_comingCost_34 ?_
    refine ev_aload_n 1 dX12_comingCost_35 rfl rfl ?_
    refine xv_getF (a := iM_peopleOf) cl_12 lk_RX12_19 kd_61 (xl hF rfl) (fun _ => rfl) (fr_61_7 hF) dX12_comingCost_36 ?_
    refine ev_iload_n 2 dX12_comingCost_39 rfl rfl ?_
    obtain ⟨v2, hv2, h⟩ := xbd_some h
    refine xv_iald kd_65 (xl hF rfl) hv2 dX12_comingCost_40 ?_
    obtain ⟨q3, hq3, h⟩ := xbd_some h
    refine ev_callS (As := [.int v2]) (rest := [.long ((p2 - v1).toInt64)]) 1 (kX12_bits (E := E) (d := 0) (QQ := (fun v τ n' => v = some (.int q3) ∧ τ = xσ μ R ∧ n = n')) (Nat.le_refl _)  hq3 (⟨rfl, rfl, rfl⟩)) my_X12_bits ⟨m_1463, m_1464⟩ rfl rfl (Nat.le_of_ble_eq_true rfl) (Nat.le_trans (by decide) hd) (xlo (by decide) (Nat.le_trans (by decide) hd)) (Nat.zero_le _) (Nat.zero_le _) dX12_comingCost_41 (fun v τ n' hv => ?_)
    obtain ⟨rfl, rfl, rfl⟩ := hv
    show Ev E (xcm E d 0 0 QQ) Y_X12_comingCost 44 [(5, .int v1), (0, .ref (E.2.2.2 + iM)), (1, .int p0), (2, .int p1), (3, .int p2), (4, .int p3)] [.int q3, .long ((p2 - v1).toInt64)] (xσ μ R) n 0 0
    refine ev_iconst (v := 1) dX12_comingCost_44 (by decide) ?_
    refine ev_isub dX12_comingCost_45 ?_
    refine ev_i2l dX12_comingCost_46 ?_
    refine ev_lmul dX12_comingCost_47 ?_
    refine ev_iload 5 dX12_comingCost_48 rfl ?_
    refine ev_i2l dX12_comingCost_50 ?_
    refine ev_lmul dX12_comingCost_51 ?_
    cases h
    exact ev_lret rfl (hQ) dX12_comingCost_52 (Nat.zero_le _) (Nat.zero_le _)
  · replace h := xif_f c11 h
    refine ev_iload 0 dX12_comingCost_14 rfl ?_
    refine ev_iload_n 4 dX12_comingCost_16 rfl rfl ?_
    refine ev_isub dX12_comingCost_17 ?_
    refine ev_i2l dX12_comingCost_18 ?_
    refine ev_aload_n 1 dX12_comingCost_19 rfl rfl ?_
    refine ev_iload_n 3 dX12_comingCost_20 rfl rfl ?_
    refine ev_iload_n 4 dX12_comingCost_21 rfl rfl ?_
    obtain ⟨q4, hq4, h⟩ := xbd_some h
    refine ev_callV (ci := 12) (rest := [.long ((v1 - p2).toInt64)]) 2 (kX12_worthAt (E := E) (d := 0) (QQ := (fun v τ n' => v = some (.int q4) ∧ τ = xσ μ R ∧ n = n')) (Nat.le_refl _) hF hq4 (⟨rfl, rfl, rfl⟩)) my_X12_worthAt ⟨m_1797, m_1799, m_96⟩ cl_12 kd_61 (xl hF rfl) rfl rfl (Nat.le_of_ble_eq_true rfl) (Nat.le_trans (by decide) hd) (xlo (by decide) (Nat.le_trans (by decide) hd)) (Nat.zero_le _) (Nat.zero_le _) dX12_comingCost_22 (fun v τ n' hv => ?_)
    obtain ⟨rfl, rfl, rfl⟩ := hv
    show Ev E (xcm E d 0 0 QQ) Y_X12_comingCost 25 [(5, .int v1), (0, .ref (E.2.2.2 + iM)), (1, .int p0), (2, .int p1), (3, .int p2), (4, .int p3)] [.int q4, .long ((v1 - p2).toInt64)] (xσ μ R) n 0 0
    refine ev_i2l dX12_comingCost_25 ?_
    refine ev_lmul dX12_comingCost_26 ?_
    refine ev_goto (tgt := 52) dX12_comingCost_27 (by decide) ?_
    cases h
    exact ev_lret rfl (hQ) dX12_comingCost_52 (Nat.zero_le _) (Nat.zero_le _)
def fX12_count (p0 : Int32) (μ : xm) : Option (Int32) := if p0 = 0 then (some (μ.1 iM 0)) else (if p0 = 1 then (some (μ.1 iM 1)) else (if p0 = 2 then (some (μ.1 iM 37)) else (if p0 = 3 then (some (μ.1 iM 20)) else (if p0 = 4 then (some (μ.1 iM 11)) else (if p0 = 5 then (some (μ.1 iM 2)) else (if p0 = 6 then (some (μ.1 iM 3)) else (xbd (fX12_in p0 10 17) fun q1 => if q1 = 0 then (xbd (fX12_in p0 20 (19 + (μ.1 iM 1))) fun q2 => if q2 = 0 then (some (-1)) else (xbd (xgI μ iM_minuteOf 24 (p0 - 20)) fun v3 => some v3)) else (xbd (xgI μ iM_endMany 8 (p0 - 10)) fun v4 => some v4))))))))
set_option maxHeartbeats 4000000 in
set_option maxRecDepth 100000 in
theorem kX12_count {E : xE} {d : Nat} {QQ : xP} (hd : 1 ≤ d) {p0 : Int32} {μ : xm} {R : xr} {n : Nat} (hF : xFin R n)  {res : Int32} (h : fX12_count p0 μ = some res) (hQ : QQ (some (.int res)) (xσ μ R) n) : xCon E d Y_X12_count 0 0 [.ref (E.2.2.2 + iM), .int p0] (xσ μ R) n QQ := by
  refine xCon_of pn_RX12 (Nat.le_of_ble_eq_true rfl) (L0 := [(0, .ref (E.2.2.2 + iM)), (1, .int p0)]) rfl ?_
  unfold fX12_count at h
  refine ev_iload_n 1 dX12_count_0 rfl rfl ?_
  by_cases c1_0 : p0 = 0
  · replace h := xif_t c1_0 h
    refine ev_switch (tgt := 44) (off := 43) dX12_count_1 (xsw_in (v := 0) (by rw [c1_0]; rfl) (by decide +kernel)) (by decide) ?_
    refine ev_aload_n 0 dX12_count_44 rfl rfl ?_
    refine xv_getI cl_12 lk_RX12_165 kd_61 (xl hF rfl) (fun _ => rfl) dX12_count_45 ?_
    cases h
    exact ev_iret rfl (hQ) dX12_count_48 (Nat.zero_le _) (Nat.zero_le _)
  · replace h := xif_f c1_0 h
    by_cases c1_1 : p0 = 1
    · replace h := xif_t c1_1 h
      refine ev_switch (tgt := 49) (off := 48) dX12_count_1 (xsw_in (v := 1) (by rw [c1_1]; rfl) (by decide +kernel)) (by decide) ?_
      refine ev_aload_n 0 dX12_count_49 rfl rfl ?_
      refine xv_getI cl_12 lk_RX12_155 kd_61 (xl hF rfl) (fun _ => rfl) dX12_count_50 ?_
      cases h
      exact ev_iret rfl (hQ) dX12_count_53 (Nat.zero_le _) (Nat.zero_le _)
    · replace h := xif_f c1_1 h
      by_cases c1_2 : p0 = 2
      · replace h := xif_t c1_2 h
        refine ev_switch (tgt := 54) (off := 53) dX12_count_1 (xsw_in (v := 2) (by rw [c1_2]; rfl) (by decide +kernel)) (by decide) ?_
        refine ev_aload_n 0 dX12_count_54 rfl rfl ?_
        refine xv_getI cl_12 lk_RX12_328 kd_61 (xl hF rfl) (fun _ => rfl) dX12_count_55 ?_
        cases h
        exact ev_iret rfl (hQ) dX12_count_58 (Nat.zero_le _) (Nat.zero_le _)
      · replace h := xif_f c1_2 h
        by_cases c1_3 : p0 = 3
        · replace h := xif_t c1_3 h
          refine ev_switch (tgt := 59) (off := 58) dX12_count_1 (xsw_in (v := 3) (by rw [c1_3]; rfl) (by decide +kernel)) (by decide) ?_
          refine ev_aload_n 0 dX12_count_59 rfl rfl ?_
          refine xv_getI cl_12 lk_RX12_299 kd_61 (xl hF rfl) (fun _ => rfl) dX12_count_60 ?_
          cases h
          exact ev_iret rfl (hQ) dX12_count_63 (Nat.zero_le _) (Nat.zero_le _)
        · replace h := xif_f c1_3 h
          by_cases c1_4 : p0 = 4
          · replace h := xif_t c1_4 h
            refine ev_switch (tgt := 64) (off := 63) dX12_count_1 (xsw_in (v := 4) (by rw [c1_4]; rfl) (by decide +kernel)) (by decide) ?_
            refine ev_aload_n 0 dX12_count_64 rfl rfl ?_
            refine xv_getI cl_12 lk_RX12_203 kd_61 (xl hF rfl) (fun _ => rfl) dX12_count_65 ?_
            cases h
            exact ev_iret rfl (hQ) dX12_count_68 (Nat.zero_le _) (Nat.zero_le _)
          · replace h := xif_f c1_4 h
            by_cases c1_5 : p0 = 5
            · replace h := xif_t c1_5 h
              refine ev_switch (tgt := 69) (off := 68) dX12_count_1 (xsw_in (v := 5) (by rw [c1_5]; rfl) (by decide +kernel)) (by decide) ?_
              refine ev_aload_n 0 dX12_count_69 rfl rfl ?_
              refine xv_getI cl_12 lk_RX12_152 kd_61 (xl hF rfl) (fun _ => rfl) dX12_count_70 ?_
              cases h
              exact ev_iret rfl (hQ) dX12_count_73 (Nat.zero_le _) (Nat.zero_le _)
            · replace h := xif_f c1_5 h
              by_cases c1_6 : p0 = 6
              · replace h := xif_t c1_6 h
                refine ev_switch (tgt := 74) (off := 73) dX12_count_1 (xsw_in (v := 6) (by rw [c1_6]; rfl) (by decide +kernel)) (by decide) ?_
                refine ev_aload_n 0 dX12_count_74 rfl rfl ?_
                refine xv_getI cl_12 lk_RX12_339 kd_61 (xl hF rfl) (fun _ => rfl) dX12_count_75 ?_
                cases h
                exact ev_iret rfl (hQ) dX12_count_78 (Nat.zero_le _) (Nat.zero_le _)
              · replace h := xif_f c1_6 h
                refine ev_switch (tgt := 79) (off := 78) dX12_count_1 (xsw_out [0, 1, 2, 3, 4, 5, 6] (List.forall_mem_cons.mpr ⟨(xne (c := 0) rfl c1_0), (List.forall_mem_cons.mpr ⟨(xne (c := 1) rfl c1_1), (List.forall_mem_cons.mpr ⟨(xne (c := 2) rfl c1_2), (List.forall_mem_cons.mpr ⟨(xne (c := 3) rfl c1_3), (List.forall_mem_cons.mpr ⟨(xne (c := 4) rfl c1_4), (List.forall_mem_cons.mpr ⟨(xne (c := 5) rfl c1_5), (List.forall_mem_cons.mpr ⟨(xne (c := 6) rfl c1_6), (fun _ e => absurd e List.not_mem_nil)⟩)⟩)⟩)⟩)⟩)⟩)⟩) (by decide +kernel)) (by decide) ?_
                refine ev_iload_n 1 dX12_count_79 rfl rfl ?_
                refine ev_bipush (v := 10) dX12_count_80 (by decide) ?_
                refine ev_bipush (v := 17) dX12_count_82 (by decide) ?_
                obtain ⟨q1, hq1, h⟩ := xbd_some h
                refine ev_callS (As := [.int p0, .int 10, .int 17]) (rest := []) 3 (kX12_in (E := E) (d := 0) (QQ := (fun v τ n' => v = some (.int q1) ∧ τ = xσ μ R ∧ n = n')) (Nat.le_refl _)  hq1 (⟨rfl, rfl, rfl⟩)) my_X12_in ⟨m_1449, m_1450⟩ rfl rfl (Nat.le_of_ble_eq_true rfl) (Nat.le_trans (by decide) hd) (xlo (by decide) (Nat.le_trans (by decide) hd)) (Nat.zero_le _) (Nat.zero_le _) dX12_count_84 (fun v τ n' hv => ?_)
                obtain ⟨rfl, rfl, rfl⟩ := hv
                show Ev E (xcm E d 0 0 QQ) Y_X12_count 87 [(0, .ref (E.2.2.2 + iM)), (1, .int p0)] [.int q1] (xσ μ R) n 0 0
                refine ev_if_eq (tgt := 100) dX12_count_87 (by decide) (fun c87 => ?_) (fun c87 => ?_)
                · replace h := xif_t c87 h
                  refine ev_iload_n 1 dX12_count_100 rfl rfl ?_
                  refine ev_bipush (v := 20) dX12_count_101 (by decide) ?_
                  refine ev_bipush (v := 19) dX12_count_103 (by decide) ?_
                  refine ev_aload_n 0 dX12_count_105 rfl rfl ?_
                  refine xv_getI cl_12 lk_RX12_155 kd_61 (xl hF rfl) (fun _ => rfl) dX12_count_106 ?_
                  refine ev_iadd dX12_count_109 ?_
                  obtain ⟨q2, hq2, h⟩ := xbd_some h
                  refine ev_callS (As := [.int p0, .int 20, .int (19 + (μ.1 iM 1))]) (rest := []) 3 (kX12_in (E := E) (d := 0) (QQ := (fun v τ n' => v = some (.int q2) ∧ τ = xσ μ R ∧ n = n')) (Nat.le_refl _)  hq2 (⟨rfl, rfl, rfl⟩)) my_X12_in ⟨m_1449, m_1450⟩ rfl rfl (Nat.le_of_ble_eq_true rfl) (Nat.le_trans (by decide) hd) (xlo (by decide) (Nat.le_trans (by decide) hd)) (Nat.zero_le _) (Nat.zero_le _) dX12_count_110 (fun v τ n' hv => ?_)
                  obtain ⟨rfl, rfl, rfl⟩ := hv
                  show Ev E (xcm E d 0 0 QQ) Y_X12_count 113 [(0, .ref (E.2.2.2 + iM)), (1, .int p0)] [.int q2] (xσ μ R) n 0 0
                  refine ev_if_eq (tgt := 128) dX12_count_113 (by decide) (fun c113 => ?_) (fun c113 => ?_)
                  · replace h := xif_t c113 h
                    refine ev_iconst (v := (-1)) dX12_count_128 (by decide) ?_
                    cases h
                    exact ev_iret rfl (hQ) dX12_count_129 (Nat.zero_le _) (Nat.zero_le _)
                  · replace h := xif_f c113 h
                    refine ev_aload_n 0 dX12_count_116 rfl rfl ?_
                    refine xv_getF (a := iM_minuteOf) cl_12 lk_RX12_16 kd_61 (xl hF rfl) (fun _ => rfl) (fr_61_6 hF) dX12_count_117 ?_
                    refine ev_iload_n 1 dX12_count_120 rfl rfl ?_
                    refine ev_bipush (v := 20) dX12_count_121 (by decide) ?_
                    refine ev_isub dX12_count_123 ?_
                    obtain ⟨v3, hv3, h⟩ := xbd_some h
                    refine xv_iald kd_64 (xl hF rfl) hv3 dX12_count_124 ?_
                    refine ev_goto (tgt := 129) dX12_count_125 (by decide) ?_
                    cases h
                    exact ev_iret rfl (hQ) dX12_count_129 (Nat.zero_le _) (Nat.zero_le _)
                · replace h := xif_f c87 h
                  refine ev_aload_n 0 dX12_count_90 rfl rfl ?_
                  refine xv_getF (a := iM_endMany) cl_12 lk_RX12_123 kd_61 (xl hF rfl) (fun _ => rfl) (fr_61_57 hF) dX12_count_91 ?_
                  refine ev_iload_n 1 dX12_count_94 rfl rfl ?_
                  refine ev_bipush (v := 10) dX12_count_95 (by decide) ?_
                  refine ev_isub dX12_count_97 ?_
                  obtain ⟨v4, hv4, h⟩ := xbd_some h
                  refine xv_iald kd_99 (xl hF rfl) hv4 dX12_count_98 ?_
                  cases h
                  exact ev_iret rfl (hQ) dX12_count_99 (Nat.zero_le _) (Nat.zero_le _)
def fX12_crosses (p0 : Int32) (p1 : Int32) (μ : xm) : Option (Int32 × xm) := xbd (fX12_isPerson p0) fun q1 => if q1 = 0 then (some (0, μ)) else (xbd (fX12_isCrossing p0 μ) fun q2 => if q2 = p1 then (some (0, μ)) else (if p1 = 0 then (xlt (xpI μ iM 56 ((μ.1 iM 56) &&& (((1 : Int32) <<< (p0 &&& 31)) ^^^ (-1)))) fun μ3 => some (1, μ3)) else (xlt (xpI μ iM 56 ((μ.1 iM 56) ||| ((1 : Int32) <<< (p0 &&& 31)))) fun μ4 => some (1, μ4))))
set_option maxHeartbeats 4000000 in
set_option maxRecDepth 100000 in
theorem kX12_crosses {E : xE} {d : Nat} {QQ : xP} (hd : 1 ≤ d) {p0 : Int32} {p1 : Int32} {μ : xm} {R : xr} {n : Nat} (hF : xFin R n)  {res : Int32 × xm} (h : fX12_crosses p0 p1 μ = some res) (hQ : QQ (some (.int res.1)) (xσ res.2 R) n) : xCon E d Y_X12_crosses 0 0 [.ref (E.2.2.2 + iM), .int p0, .int p1] (xσ μ R) n QQ := by
  refine xCon_of pn_RX12 (Nat.le_of_ble_eq_true rfl) (L0 := [(0, .ref (E.2.2.2 + iM)), (1, .int p0), (2, .int p1)]) rfl ?_
  unfold fX12_crosses at h
  refine ev_iload_n 1 dX12_crosses_0 rfl rfl ?_
  obtain ⟨q1, hq1, h⟩ := xbd_some h
  refine ev_callS (As := [.int p0]) (rest := []) 1 (kX12_isPerson (E := E) (d := 0) (QQ := (fun v τ n' => v = some (.int q1) ∧ τ = xσ μ R ∧ n = n')) (Nat.le_refl _)  hq1 (⟨rfl, rfl, rfl⟩)) my_X12_isPerson ⟨m_1456, m_1457⟩ rfl rfl (Nat.le_of_ble_eq_true rfl) (Nat.le_trans (by decide) hd) (xlo (by decide) (Nat.le_trans (by decide) hd)) (Nat.zero_le _) (Nat.zero_le _) dX12_crosses_1 (fun v τ n' hv => ?_)
  obtain ⟨rfl, rfl, rfl⟩ := hv
  show Ev E (xcm E d 0 0 QQ) Y_X12_crosses 4 [(0, .ref (E.2.2.2 + iM)), (1, .int p0), (2, .int p1)] [.int q1] (xσ μ R) n 0 0
  refine ev_if_eq (tgt := 16) dX12_crosses_4 (by decide) (fun c4 => ?_) (fun c4 => ?_)
  · replace h := xif_t c4 h
    refine ev_iconst (v := 0) dX12_crosses_16 (by decide) ?_
    cases h
    exact ev_zret rfl (Or.inl rfl) (hQ) dX12_crosses_17 (Nat.zero_le _) (Nat.zero_le _)
  · replace h := xif_f c4 h
    refine ev_aload_n 0 dX12_crosses_7 rfl rfl ?_
    refine ev_iload_n 1 dX12_crosses_8 rfl rfl ?_
    obtain ⟨q2, hq2, h⟩ := xbd_some h
    refine ev_callV (ci := 12) (rest := []) 1 (kX12_isCrossing (E := E) (d := 0) (QQ := (fun v τ n' => v = some (.int q2) ∧ τ = xσ μ R ∧ n = n')) (Nat.le_refl _) hF hq2 (⟨rfl, rfl, rfl⟩)) my_X12_isCrossing ⟨m_1738, m_1740, m_85⟩ cl_12 kd_61 (xl hF rfl) rfl rfl (Nat.le_of_ble_eq_true rfl) (Nat.le_trans (by decide) hd) (xlo (by decide) (Nat.le_trans (by decide) hd)) (Nat.zero_le _) (Nat.zero_le _) dX12_crosses_9 (fun v τ n' hv => ?_)
    obtain ⟨rfl, rfl, rfl⟩ := hv
    show Ev E (xcm E d 0 0 QQ) Y_X12_crosses 12 [(0, .ref (E.2.2.2 + iM)), (1, .int p0), (2, .int p1)] [.int q2] (xσ μ R) n 0 0
    refine ev_iload_n 2 dX12_crosses_12 rfl rfl ?_
    refine ev_icmp_ne (tgt := 18) dX12_crosses_13 (by decide) (fun c13 => ?_) (fun c13 => ?_)
    · replace h := xif_f c13 h
      refine ev_aload_n 0 dX12_crosses_18 rfl rfl ?_
      refine ev_iload_n 2 dX12_crosses_19 rfl rfl ?_
      refine ev_if_eq (tgt := 34) dX12_crosses_20 (by decide) (fun c20 => ?_) (fun c20 => ?_)
      · replace h := xif_t c20 h
        refine ev_aload_n 0 dX12_crosses_34 rfl rfl ?_
        refine xv_getI cl_12 lk_RX12_380 kd_61 (xl hF rfl) (fun _ => rfl) dX12_crosses_35 ?_
        refine ev_iconst (v := 1) dX12_crosses_38 (by decide) ?_
        refine ev_iload_n 1 dX12_crosses_39 rfl rfl ?_
        refine ev_ishl dX12_crosses_40 ?_
        refine ev_iconst (v := (-1)) dX12_crosses_41 (by decide) ?_
        refine ev_ixor dX12_crosses_42 ?_
        refine ev_iand dX12_crosses_43 ?_
        obtain ⟨μ3, hμ3, h⟩ := xlt_some h
        refine xv_putI cl_12 lk_RX12_380 rfl kd_61 (xl hF rfl) rfl rfl (fun _ => rfl) hμ3 dX12_crosses_44 ?_
        refine ev_iconst (v := 1) dX12_crosses_47 (by decide) ?_
        cases h
        exact ev_zret rfl (Or.inr rfl) (hQ) dX12_crosses_48 (Nat.zero_le _) (Nat.zero_le _)
      · replace h := xif_f c20 h
        refine ev_aload_n 0 dX12_crosses_23 rfl rfl ?_
        refine xv_getI cl_12 lk_RX12_380 kd_61 (xl hF rfl) (fun _ => rfl) dX12_crosses_24 ?_
        refine ev_iconst (v := 1) dX12_crosses_27 (by decide) ?_
        refine ev_iload_n 1 dX12_crosses_28 rfl rfl ?_
        refine ev_ishl dX12_crosses_29 ?_
        refine ev_ior dX12_crosses_30 ?_
        refine ev_goto (tgt := 44) dX12_crosses_31 (by decide) ?_
        obtain ⟨μ4, hμ4, h⟩ := xlt_some h
        refine xv_putI cl_12 lk_RX12_380 rfl kd_61 (xl hF rfl) rfl rfl (fun _ => rfl) hμ4 dX12_crosses_44 ?_
        refine ev_iconst (v := 1) dX12_crosses_47 (by decide) ?_
        cases h
        exact ev_zret rfl (Or.inr rfl) (hQ) dX12_crosses_48 (Nat.zero_le _) (Nat.zero_le _)
    · replace h := xif_t c13 h
      refine ev_iconst (v := 0) dX12_crosses_16 (by decide) ?_
      cases h
      exact ev_zret rfl (Or.inl rfl) (hQ) dX12_crosses_17 (Nat.zero_le _) (Nat.zero_le _)
def fX12_end (p0 : Int32) (p1 : Int32) (p2 : Int32) (μ : xm) : Option (Int32 × xm) := xbd (fX12_isPerson p0) fun q1 => if q1 = 0 then (some ((-1), μ)) else (xbd (fX12_in p1 0 300) fun q2 => if q2 = 0 then (some ((-1), μ)) else (xbd (fX12_in p2 1 20) fun q3 => if q3 = 0 then (some ((-1), μ)) else (xbd (xgI μ iM_endMany 8 p0) fun v4 => if v4 = 5 then (some ((-1), μ)) else (xbd (xgI μ iM_endMany 8 p0) fun v5 => xbd (xsI μ iM_endMinutes 40 ((5 * p0) + v5) p1) fun μ6 => xbd (xgI μ6 iM_endMany 8 p0) fun v7 => xbd (xsI μ6 iM_endWeight 40 ((5 * p0) + v7) p2) fun μ8 => xbd (xgI μ8 iM_endMany 8 p0) fun v9 => xbd (xsI μ8 iM_endMany 8 p0 (v9 + 1)) fun μ10 => xbd (xgI μ10 iM_endMany 8 p0) fun v11 => some (v11, μ10)))))
set_option maxHeartbeats 4000000 in
set_option maxRecDepth 100000 in
theorem kX12_end {E : xE} {d : Nat} {QQ : xP} (hd : 1 ≤ d) {p0 : Int32} {p1 : Int32} {p2 : Int32} {μ : xm} {R : xr} {n : Nat} (hF : xFin R n)  {res : Int32 × xm} (h : fX12_end p0 p1 p2 μ = some res) (hQ : QQ (some (.int res.1)) (xσ res.2 R) n) : xCon E d Y_X12_end 0 0 [.ref (E.2.2.2 + iM), .int p0, .int p1, .int p2] (xσ μ R) n QQ := by
  refine xCon_of pn_RX12 (Nat.le_of_ble_eq_true rfl) (L0 := [(0, .ref (E.2.2.2 + iM)), (1, .int p0), (2, .int p1), (3, .int p2)]) rfl ?_
  unfold fX12_end at h
  refine ev_iload_n 1 dX12_end_0 rfl rfl ?_
  obtain ⟨q1, hq1, h⟩ := xbd_some h
  refine ev_callS (As := [.int p0]) (rest := []) 1 (kX12_isPerson (E := E) (d := 0) (QQ := (fun v τ n' => v = some (.int q1) ∧ τ = xσ μ R ∧ n = n')) (Nat.le_refl _)  hq1 (⟨rfl, rfl, rfl⟩)) my_X12_isPerson ⟨m_1456, m_1457⟩ rfl rfl (Nat.le_of_ble_eq_true rfl) (Nat.le_trans (by decide) hd) (xlo (by decide) (Nat.le_trans (by decide) hd)) (Nat.zero_le _) (Nat.zero_le _) dX12_end_1 (fun v τ n' hv => ?_)
  obtain ⟨rfl, rfl, rfl⟩ := hv
  show Ev E (xcm E d 0 0 QQ) Y_X12_end 4 [(0, .ref (E.2.2.2 + iM)), (1, .int p0), (2, .int p1), (3, .int p2)] [.int q1] (xσ μ R) n 0 0
  refine ev_if_eq (tgt := 38) dX12_end_4 (by decide) (fun c4 => ?_) (fun c4 => ?_)
  · replace h := xif_t c4 h
    refine ev_iconst (v := (-1)) dX12_end_38 (by decide) ?_
    cases h
    exact ev_iret rfl (hQ) dX12_end_39 (Nat.zero_le _) (Nat.zero_le _)
  · replace h := xif_f c4 h
    refine ev_iload_n 2 dX12_end_7 rfl rfl ?_
    refine ev_iconst (v := 0) dX12_end_8 (by decide) ?_
    refine ev_sipush (v := 300) dX12_end_9 (by decide) ?_
    obtain ⟨q2, hq2, h⟩ := xbd_some h
    refine ev_callS (As := [.int p1, .int 0, .int 300]) (rest := []) 3 (kX12_in (E := E) (d := 0) (QQ := (fun v τ n' => v = some (.int q2) ∧ τ = xσ μ R ∧ n = n')) (Nat.le_refl _)  hq2 (⟨rfl, rfl, rfl⟩)) my_X12_in ⟨m_1449, m_1450⟩ rfl rfl (Nat.le_of_ble_eq_true rfl) (Nat.le_trans (by decide) hd) (xlo (by decide) (Nat.le_trans (by decide) hd)) (Nat.zero_le _) (Nat.zero_le _) dX12_end_12 (fun v τ n' hv => ?_)
    obtain ⟨rfl, rfl, rfl⟩ := hv
    show Ev E (xcm E d 0 0 QQ) Y_X12_end 15 [(0, .ref (E.2.2.2 + iM)), (1, .int p0), (2, .int p1), (3, .int p2)] [.int q2] (xσ μ R) n 0 0
    refine ev_if_eq (tgt := 38) dX12_end_15 (by decide) (fun c15 => ?_) (fun c15 => ?_)
    · replace h := xif_t c15 h
      refine ev_iconst (v := (-1)) dX12_end_38 (by decide) ?_
      cases h
      exact ev_iret rfl (hQ) dX12_end_39 (Nat.zero_le _) (Nat.zero_le _)
    · replace h := xif_f c15 h
      refine ev_iload_n 3 dX12_end_18 rfl rfl ?_
      refine ev_iconst (v := 1) dX12_end_19 (by decide) ?_
      refine ev_bipush (v := 20) dX12_end_20 (by decide) ?_
      obtain ⟨q3, hq3, h⟩ := xbd_some h
      refine ev_callS (As := [.int p2, .int 1, .int 20]) (rest := []) 3 (kX12_in (E := E) (d := 0) (QQ := (fun v τ n' => v = some (.int q3) ∧ τ = xσ μ R ∧ n = n')) (Nat.le_refl _)  hq3 (⟨rfl, rfl, rfl⟩)) my_X12_in ⟨m_1449, m_1450⟩ rfl rfl (Nat.le_of_ble_eq_true rfl) (Nat.le_trans (by decide) hd) (xlo (by decide) (Nat.le_trans (by decide) hd)) (Nat.zero_le _) (Nat.zero_le _) dX12_end_22 (fun v τ n' hv => ?_)
      obtain ⟨rfl, rfl, rfl⟩ := hv
      show Ev E (xcm E d 0 0 QQ) Y_X12_end 25 [(0, .ref (E.2.2.2 + iM)), (1, .int p0), (2, .int p1), (3, .int p2)] [.int q3] (xσ μ R) n 0 0
      refine ev_if_eq (tgt := 38) dX12_end_25 (by decide) (fun c25 => ?_) (fun c25 => ?_)
      · replace h := xif_t c25 h
        refine ev_iconst (v := (-1)) dX12_end_38 (by decide) ?_
        cases h
        exact ev_iret rfl (hQ) dX12_end_39 (Nat.zero_le _) (Nat.zero_le _)
      · replace h := xif_f c25 h
        refine ev_aload_n 0 dX12_end_28 rfl rfl ?_
        refine xv_getF (a := iM_endMany) cl_12 lk_RX12_123 kd_61 (xl hF rfl) (fun _ => rfl) (fr_61_57 hF) dX12_end_29 ?_
        refine ev_iload_n 1 dX12_end_32 rfl rfl ?_
        obtain ⟨v4, hv4, h⟩ := xbd_some h
        refine xv_iald kd_99 (xl hF rfl) hv4 dX12_end_33 ?_
        refine ev_iconst (v := 5) dX12_end_34 (by decide) ?_
        refine ev_icmp_ne (tgt := 40) dX12_end_35 (by decide) (fun c35 => ?_) (fun c35 => ?_)
        · replace h := xif_f c35 h
          refine ev_aload_n 0 dX12_end_40 rfl rfl ?_
          refine xv_getF (a := iM_endMinutes) cl_12 lk_RX12_126 kd_61 (xl hF rfl) (fun _ => rfl) (fr_61_58 hF) dX12_end_41 ?_
          refine ev_iconst (v := 5) dX12_end_44 (by decide) ?_
          refine ev_iload_n 1 dX12_end_45 rfl rfl ?_
          refine ev_imul dX12_end_46 ?_
          refine ev_aload_n 0 dX12_end_47 rfl rfl ?_
          refine xv_getF (a := iM_endMany) cl_12 lk_RX12_123 kd_61 (xl hF rfl) (fun _ => rfl) (fr_61_57 hF) dX12_end_48 ?_
          refine ev_iload_n 1 dX12_end_51 rfl rfl ?_
          obtain ⟨v5, hv5, h⟩ := xbd_some h
          refine xv_iald kd_99 (xl hF rfl) hv5 dX12_end_52 ?_
          refine ev_iadd dX12_end_53 ?_
          refine ev_iload_n 2 dX12_end_54 rfl rfl ?_
          obtain ⟨μ6, hμ6, h⟩ := xbd_some h
          refine xv_iast kd_100 (xl hF rfl) hμ6 dX12_end_55 ?_
          refine ev_aload_n 0 dX12_end_56 rfl rfl ?_
          refine xv_getF (a := iM_endWeight) cl_12 lk_RX12_129 kd_61 (xl hF rfl) (fun _ => rfl) (fr_61_59 hF) dX12_end_57 ?_
          refine ev_iconst (v := 5) dX12_end_60 (by decide) ?_
          refine ev_iload_n 1 dX12_end_61 rfl rfl ?_
          refine ev_imul dX12_end_62 ?_
          refine ev_aload_n 0 dX12_end_63 rfl rfl ?_
          refine xv_getF (a := iM_endMany) cl_12 lk_RX12_123 kd_61 (xl hF rfl) (fun _ => rfl) (fr_61_57 hF) dX12_end_64 ?_
          refine ev_iload_n 1 dX12_end_67 rfl rfl ?_
          obtain ⟨v7, hv7, h⟩ := xbd_some h
          refine xv_iald kd_99 (xl hF rfl) hv7 dX12_end_68 ?_
          refine ev_iadd dX12_end_69 ?_
          refine ev_iload_n 3 dX12_end_70 rfl rfl ?_
          obtain ⟨μ8, hμ8, h⟩ := xbd_some h
          refine xv_iast kd_101 (xl hF rfl) hμ8 dX12_end_71 ?_
          refine ev_aload_n 0 dX12_end_72 rfl rfl ?_
          refine xv_getF (a := iM_endMany) cl_12 lk_RX12_123 kd_61 (xl hF rfl) (fun _ => rfl) (fr_61_57 hF) dX12_end_73 ?_
          refine ev_iload_n 1 dX12_end_76 rfl rfl ?_
          refine ev_aload_n 0 dX12_end_77 rfl rfl ?_
          refine xv_getF (a := iM_endMany) cl_12 lk_RX12_123 kd_61 (xl hF rfl) (fun _ => rfl) (fr_61_57 hF) dX12_end_78 ?_
          refine ev_iload_n 1 dX12_end_81 rfl rfl ?_
          obtain ⟨v9, hv9, h⟩ := xbd_some h
          refine xv_iald kd_99 (xl hF rfl) hv9 dX12_end_82 ?_
          refine ev_iconst (v := 1) dX12_end_83 (by decide) ?_
          refine ev_iadd dX12_end_84 ?_
          obtain ⟨μ10, hμ10, h⟩ := xbd_some h
          refine xv_iast kd_99 (xl hF rfl) hμ10 dX12_end_85 ?_
          refine ev_aload_n 0 dX12_end_86 rfl rfl ?_
          refine xv_getF (a := iM_endMany) cl_12 lk_RX12_123 kd_61 (xl hF rfl) (fun _ => rfl) (fr_61_57 hF) dX12_end_87 ?_
          refine ev_iload_n 1 dX12_end_90 rfl rfl ?_
          obtain ⟨v11, hv11, h⟩ := xbd_some h
          refine xv_iald kd_99 (xl hF rfl) hv11 dX12_end_91 ?_
          cases h
          exact ev_iret rfl (hQ) dX12_end_92 (Nat.zero_le _) (Nat.zero_le _)
        · replace h := xif_t c35 h
          refine ev_iconst (v := (-1)) dX12_end_38 (by decide) ?_
          cases h
          exact ev_iret rfl (hQ) dX12_end_39 (Nat.zero_le _) (Nat.zero_le _)
def fX12_endsPiece_b0 (μ1 : xm) : Option ((xm) ⊕ (xm)) := xbd (fX12_top μ1) fun q3 => if q3 = 10 then (xbd (fX12_notes 10 0 μ1) fun q4 => xlt (xpI q4 iM 17 ((q4.1 iM 17) - 1)) fun μ5 => xlt (xpI μ5 iM 15 ((μ5.1 iM 15) - 1)) fun μ6 => some (.inl μ6)) else (some (.inr μ1))
def fX12_endsPiece (μ : xm) : Option (xm) := xbd (xloop xfu (fun v => fX12_endsPiece_b0 v) μ) fun q7 => some q7
set_option maxHeartbeats 4000000 in
set_option maxRecDepth 100000 in
theorem kX12_endsPiece {E : xE} {d : Nat} {QQ : xP} (hd : 1 ≤ d)  {μ : xm} {R : xr} {n : Nat} (hF : xFin R n)  {res : xm} (h : fX12_endsPiece μ = some res) (hQ : QQ none (xσ res R) n) : xCon E d Y_X12_endsPiece 0 0 [.ref (E.2.2.2 + iM)] (xσ μ R) n QQ := by
  refine xCon_of pn_RX12 (Nat.le_of_ble_eq_true rfl) (L0 := [(0, .ref (E.2.2.2 + iM))]) rfl ?_
  unfold fX12_endsPiece at h
  obtain ⟨q7, hq7, h⟩ := xbd_some h
  refine ev_sub (L' := [(0, .ref (E.2.2.2 + iM))]) [0] rfl ?_
  refine xloop_run (fun v => Ev E (xcm E d 0 0 QQ) Y_X12_endsPiece 0 [(0, .ref (E.2.2.2 + iM))] [] (xσ v R) n 0 0) (fun v => Ev E (xcm E d 0 0 QQ) Y_X12_endsPiece 39 [] [] (xσ v R) n 0 0) ?_ _ _ _ hq7 ?_
  · rintro μ1 y2 h hk
    replace h : fX12_endsPiece_b0 μ1 = some y2 := h
    show Ev E (xcm E d 0 0 QQ) Y_X12_endsPiece 0 [(0, .ref (E.2.2.2 + iM))] [] (xσ μ1 R) n 0 0
    unfold fX12_endsPiece_b0 at h
    refine ev_aload_n 0 dX12_endsPiece_0 rfl rfl ?_
    obtain ⟨q3, hq3, h⟩ := xbd_some h
    refine ev_callV (ci := 12) (rest := []) 0 (kX12_top (E := E) (d := 0) (QQ := (fun v τ n' => v = some (.int q3) ∧ τ = xσ μ1 R ∧ n = n')) (Nat.le_refl _) hF hq3 (⟨rfl, rfl, rfl⟩)) my_X12_top ⟨m_1577, m_1579, m_60⟩ cl_12 kd_61 (xl hF rfl) rfl rfl (Nat.le_of_ble_eq_true rfl) (Nat.le_trans (by decide) hd) (xlo (by decide) (Nat.le_trans (by decide) hd)) (Nat.zero_le _) (Nat.zero_le _) dX12_endsPiece_1 (fun v τ n' hv => ?_)
    obtain ⟨rfl, rfl, rfl⟩ := hv
    show Ev E (xcm E d 0 0 QQ) Y_X12_endsPiece 4 [(0, .ref (E.2.2.2 + iM))] [.int q3] (xσ μ1 R) n 0 0
    refine ev_bipush (v := 10) dX12_endsPiece_4 (by decide) ?_
    refine ev_icmp_ne (tgt := 39) dX12_endsPiece_6 (by decide) (fun c6 => ?_) (fun c6 => ?_)
    · replace h := xif_f c6 h
      cases h
      replace hk := xel_r hk
      exact ev_sub [] rfl (hk)
    · replace h := xif_t c6 h
      refine ev_aload_n 0 dX12_endsPiece_9 rfl rfl ?_
      refine ev_bipush (v := 10) dX12_endsPiece_10 (by decide) ?_
      refine ev_iconst (v := 0) dX12_endsPiece_12 (by decide) ?_
      obtain ⟨q4, hq4, h⟩ := xbd_some h
      refine ev_callV (ci := 12) (rest := []) 2 (kX12_notes (E := E) (d := 0) (QQ := (fun v τ n' => v = none ∧ τ = xσ q4 R ∧ n = n')) (Nat.le_refl _) hF hq4 (⟨rfl, rfl, rfl⟩)) my_X12_notes ⟨m_1563, m_1565, m_58⟩ cl_12 kd_61 (xl hF rfl) rfl rfl (Nat.le_of_ble_eq_true rfl) (Nat.le_trans (by decide) hd) (xlo (by decide) (Nat.le_trans (by decide) hd)) (Nat.zero_le _) (Nat.zero_le _) dX12_endsPiece_13 (fun v τ n' hv => ?_)
      obtain ⟨rfl, rfl, rfl⟩ := hv
      show Ev E (xcm E d 0 0 QQ) Y_X12_endsPiece 16 [(0, .ref (E.2.2.2 + iM))] [] (xσ q4 R) n 0 0
      refine ev_aload_n 0 dX12_endsPiece_16 rfl rfl ?_
      refine ev_aload_n 0 dX12_endsPiece_17 rfl rfl ?_
      refine xv_getI cl_12 lk_RX12_240 kd_61 (xl hF rfl) (fun _ => rfl) dX12_endsPiece_18 ?_
      refine ev_iconst (v := 1) dX12_endsPiece_21 (by decide) ?_
      refine ev_isub dX12_endsPiece_22 ?_
      obtain ⟨μ5, hμ5, h⟩ := xlt_some h
      refine xv_putI cl_12 lk_RX12_240 rfl kd_61 (xl hF rfl) rfl rfl (fun _ => rfl) hμ5 dX12_endsPiece_23 ?_
      refine ev_aload_n 0 dX12_endsPiece_26 rfl rfl ?_
      refine ev_aload_n 0 dX12_endsPiece_27 rfl rfl ?_
      refine xv_getI cl_12 lk_RX12_237 kd_61 (xl hF rfl) (fun _ => rfl) dX12_endsPiece_28 ?_
      refine ev_iconst (v := 1) dX12_endsPiece_31 (by decide) ?_
      refine ev_isub dX12_endsPiece_32 ?_
      obtain ⟨μ6, hμ6, h⟩ := xlt_some h
      refine xv_putI cl_12 lk_RX12_237 rfl kd_61 (xl hF rfl) rfl rfl (fun _ => rfl) hμ6 dX12_endsPiece_33 ?_
      refine ev_goto (tgt := 0) dX12_endsPiece_36 (by decide) ?_
      cases h
      replace hk := xel_l hk
      exact ev_sub [0] rfl (hk)
  · show Ev E (xcm E d 0 0 QQ) Y_X12_endsPiece 39 [] [] (xσ q7 R) n 0 0
    cases h
    exact ev_vret rfl (hQ) dX12_endsPiece_39 (Nat.zero_le _) (Nat.zero_le _)
def fX12_feed (p0 : Int32) (p1 : Int32) (p2 : Int32) (p3 : Int32) (p4 : Int32) (μ : xm) : Option (Int32 × xm) := if ((μ.1 iM 11) + 20) ≤ 400 then (xbd (fX12_types p0 μ) fun q1 => xbd (fX12_types p1 q1) fun q2 => xbd (fX12_types p2 q2) fun q3 => xbd (fX12_types p3 q3) fun q4 => xbd (fX12_types p4 q4) fun q5 => some (q5.1 iM 11, q5)) else (some ((-1), μ))
set_option maxHeartbeats 4000000 in
set_option maxRecDepth 100000 in
theorem kX12_feed {E : xE} {d : Nat} {QQ : xP} (hd : 1 ≤ d) {p0 : Int32} {p1 : Int32} {p2 : Int32} {p3 : Int32} {p4 : Int32} {μ : xm} {R : xr} {n : Nat} (hF : xFin R n)  {res : Int32 × xm} (h : fX12_feed p0 p1 p2 p3 p4 μ = some res) (hQ : QQ (some (.int res.1)) (xσ res.2 R) n) : xCon E d Y_X12_feed 0 0 [.ref (E.2.2.2 + iM), .int p0, .int p1, .int p2, .int p3, .int p4] (xσ μ R) n QQ := by
  refine xCon_of pn_RX12 (Nat.le_of_ble_eq_true rfl) (L0 := [(0, .ref (E.2.2.2 + iM)), (1, .int p0), (2, .int p1), (3, .int p2), (4, .int p3), (5, .int p4)]) rfl ?_
  unfold fX12_feed at h
  refine ev_aload_n 0 dX12_feed_0 rfl rfl ?_
  refine xv_getI cl_12 lk_RX12_203 kd_61 (xl hF rfl) (fun _ => rfl) dX12_feed_1 ?_
  refine ev_bipush (v := 20) dX12_feed_4 (by decide) ?_
  refine ev_iadd dX12_feed_6 ?_
  refine ev_sipush (v := 400) dX12_feed_7 (by decide) ?_
  refine ev_icmp_le (tgt := 15) dX12_feed_10 (by decide) (fun c10 => ?_) (fun c10 => ?_)
  · replace h := xif_t c10 h
    refine ev_aload_n 0 dX12_feed_15 rfl rfl ?_
    refine ev_iload_n 1 dX12_feed_16 rfl rfl ?_
    obtain ⟨q1, hq1, h⟩ := xbd_some h
    refine ev_callV (ci := 12) (rest := []) 1 (kX12_types (E := E) (d := 0) (QQ := (fun v τ n' => v = none ∧ τ = xσ q1 R ∧ n = n')) (Nat.le_refl _) hF hq1 (⟨rfl, rfl, rfl⟩)) my_X12_types ⟨m_1522, m_1524, m_49⟩ cl_12 kd_61 (xl hF rfl) rfl rfl (Nat.le_of_ble_eq_true rfl) (Nat.le_trans (by decide) hd) (xlo (by decide) (Nat.le_trans (by decide) hd)) (Nat.zero_le _) (Nat.zero_le _) dX12_feed_17 (fun v τ n' hv => ?_)
    obtain ⟨rfl, rfl, rfl⟩ := hv
    show Ev E (xcm E d 0 0 QQ) Y_X12_feed 20 [(0, .ref (E.2.2.2 + iM)), (1, .int p0), (2, .int p1), (3, .int p2), (4, .int p3), (5, .int p4)] [] (xσ q1 R) n 0 0
    refine ev_aload_n 0 dX12_feed_20 rfl rfl ?_
    refine ev_iload_n 2 dX12_feed_21 rfl rfl ?_
    obtain ⟨q2, hq2, h⟩ := xbd_some h
    refine ev_callV (ci := 12) (rest := []) 1 (kX12_types (E := E) (d := 0) (QQ := (fun v τ n' => v = none ∧ τ = xσ q2 R ∧ n = n')) (Nat.le_refl _) hF hq2 (⟨rfl, rfl, rfl⟩)) my_X12_types ⟨m_1522, m_1524, m_49⟩ cl_12 kd_61 (xl hF rfl) rfl rfl (Nat.le_of_ble_eq_true rfl) (Nat.le_trans (by decide) hd) (xlo (by decide) (Nat.le_trans (by decide) hd)) (Nat.zero_le _) (Nat.zero_le _) dX12_feed_22 (fun v τ n' hv => ?_)
    obtain ⟨rfl, rfl, rfl⟩ := hv
    show Ev E (xcm E d 0 0 QQ) Y_X12_feed 25 [(0, .ref (E.2.2.2 + iM)), (1, .int p0), (2, .int p1), (3, .int p2), (4, .int p3), (5, .int p4)] [] (xσ q2 R) n 0 0
    refine ev_aload_n 0 dX12_feed_25 rfl rfl ?_
    refine ev_iload_n 3 dX12_feed_26 rfl rfl ?_
    obtain ⟨q3, hq3, h⟩ := xbd_some h
    refine ev_callV (ci := 12) (rest := []) 1 (kX12_types (E := E) (d := 0) (QQ := (fun v τ n' => v = none ∧ τ = xσ q3 R ∧ n = n')) (Nat.le_refl _) hF hq3 (⟨rfl, rfl, rfl⟩)) my_X12_types ⟨m_1522, m_1524, m_49⟩ cl_12 kd_61 (xl hF rfl) rfl rfl (Nat.le_of_ble_eq_true rfl) (Nat.le_trans (by decide) hd) (xlo (by decide) (Nat.le_trans (by decide) hd)) (Nat.zero_le _) (Nat.zero_le _) dX12_feed_27 (fun v τ n' hv => ?_)
    obtain ⟨rfl, rfl, rfl⟩ := hv
    show Ev E (xcm E d 0 0 QQ) Y_X12_feed 30 [(0, .ref (E.2.2.2 + iM)), (1, .int p0), (2, .int p1), (3, .int p2), (4, .int p3), (5, .int p4)] [] (xσ q3 R) n 0 0
    refine ev_aload_n 0 dX12_feed_30 rfl rfl ?_
    refine ev_iload 4 dX12_feed_31 rfl ?_
    obtain ⟨q4, hq4, h⟩ := xbd_some h
    refine ev_callV (ci := 12) (rest := []) 1 (kX12_types (E := E) (d := 0) (QQ := (fun v τ n' => v = none ∧ τ = xσ q4 R ∧ n = n')) (Nat.le_refl _) hF hq4 (⟨rfl, rfl, rfl⟩)) my_X12_types ⟨m_1522, m_1524, m_49⟩ cl_12 kd_61 (xl hF rfl) rfl rfl (Nat.le_of_ble_eq_true rfl) (Nat.le_trans (by decide) hd) (xlo (by decide) (Nat.le_trans (by decide) hd)) (Nat.zero_le _) (Nat.zero_le _) dX12_feed_33 (fun v τ n' hv => ?_)
    obtain ⟨rfl, rfl, rfl⟩ := hv
    show Ev E (xcm E d 0 0 QQ) Y_X12_feed 36 [(0, .ref (E.2.2.2 + iM)), (1, .int p0), (2, .int p1), (3, .int p2), (4, .int p3), (5, .int p4)] [] (xσ q4 R) n 0 0
    refine ev_aload_n 0 dX12_feed_36 rfl rfl ?_
    refine ev_iload 5 dX12_feed_37 rfl ?_
    obtain ⟨q5, hq5, h⟩ := xbd_some h
    refine ev_callV (ci := 12) (rest := []) 1 (kX12_types (E := E) (d := 0) (QQ := (fun v τ n' => v = none ∧ τ = xσ q5 R ∧ n = n')) (Nat.le_refl _) hF hq5 (⟨rfl, rfl, rfl⟩)) my_X12_types ⟨m_1522, m_1524, m_49⟩ cl_12 kd_61 (xl hF rfl) rfl rfl (Nat.le_of_ble_eq_true rfl) (Nat.le_trans (by decide) hd) (xlo (by decide) (Nat.le_trans (by decide) hd)) (Nat.zero_le _) (Nat.zero_le _) dX12_feed_39 (fun v τ n' hv => ?_)
    obtain ⟨rfl, rfl, rfl⟩ := hv
    show Ev E (xcm E d 0 0 QQ) Y_X12_feed 42 [(0, .ref (E.2.2.2 + iM)), (1, .int p0), (2, .int p1), (3, .int p2), (4, .int p3), (5, .int p4)] [] (xσ q5 R) n 0 0
    refine ev_aload_n 0 dX12_feed_42 rfl rfl ?_
    refine xv_getI cl_12 lk_RX12_203 kd_61 (xl hF rfl) (fun _ => rfl) dX12_feed_43 ?_
    cases h
    exact ev_iret rfl (hQ) dX12_feed_46 (Nat.zero_le _) (Nat.zero_le _)
  · replace h := xif_f c10 h
    refine ev_iconst (v := (-1)) dX12_feed_13 (by decide) ?_
    cases h
    exact ev_iret rfl (hQ) dX12_feed_14 (Nat.zero_le _) (Nat.zero_le _)
def fX12_goesTo_b10 (x3 : Int32) (x4 : Int32) (μ : xm) : Option ((Int32 × Int32) ⊕ (Int32 × Int32)) := xbd (xgI μ iM_cameBy 8 x4) fun v6 => if v6 = (-1) then (some (.inr (x3, x4))) else (xbd (xgI μ iM_cameBy 8 x4) fun v7 => xbd (fX12_stepOn v7 x4 μ) fun q8 => if x3 ≤ q8 then (xbd (xgI μ iM_cameBy 8 x4) fun v9 => some (.inl (x3, v9))) else (xbd (xgI μ iM_cameBy 8 x4) fun v10 => some (.inl (q8, v10))))
def fX12_goesTo_b108 (x18 : Int32) (μ19 : xm) (x13 : Int32) : Option ((Int32 × xm) ⊕ (xm)) := xbd (xgI μ19 iM_cameBy 8 x18) fun v21 => if v21 = (-1) then (some (.inr μ19)) else (xbd (xgI μ19 iM_cameBy 8 x18) fun v22 => xbd (xgI μ19 iM_least0 64 ((8 * x18) + v22)) fun v23 => if v23 ≤ 0 then (xbd (xgI μ19 iM_least0 64 ((8 * v22) + x18)) fun v24 => xbd (xsI μ19 iM_least0 64 ((8 * v22) + x18) (v24 + x13)) fun μ25 => xbd (xgI μ25 iM_cameBy 8 x18) fun v26 => some (.inl (v26, μ25))) else (xbd (xgI μ19 iM_least0 64 ((8 * x18) + v22)) fun v27 => xbd (xsI μ19 iM_least0 64 ((8 * x18) + v22) (v27 - x13)) fun μ28 => xbd (xgI μ28 iM_cameBy 8 x18) fun v29 => some (.inl (v29, μ28))))
def fX12_goesTo_j76 (x13 : Int32) (p0 : Int32) (μ : xm) (q11 : Int32 × Int32) : Option (xm) := xbd (xgI μ iM_balance 8 q11.2) fun v14 => xbd (xsI μ iM_balance 8 q11.2 (v14 - x13)) fun μ15 => xbd (xgI μ15 iM_balance 8 p0) fun v16 => xbd (xsI μ15 iM_balance 8 p0 (v16 + x13)) fun μ17 => xbd (xloop xfu (fun v => fX12_goesTo_b108 v.1 v.2 x13) (p0, μ17)) fun q30 => some q30
def fX12_goesTo (p0 : Int32) (μ : xm) : Option (xm) := xbd (xgI μ iM_balance 8 p0) fun v1 => xlt (-v1) fun x2 => xbd (xloop xfu (fun v => fX12_goesTo_b10 v.1 v.2 μ) (x2, p0)) fun q11 => xbd (xgI μ iM_balance 8 q11.2) fun v12 => if q11.1 ≤ v12 then (fX12_goesTo_j76 q11.1 p0 μ q11) else (xbd (xgI μ iM_balance 8 q11.2) fun v31 => fX12_goesTo_j76 v31 p0 μ q11)
set_option maxHeartbeats 4000000 in
set_option maxRecDepth 100000 in
theorem kX12_goesTo {E : xE} {d : Nat} {QQ : xP} (hd : 1 ≤ d) {p0 : Int32} {μ : xm} {R : xr} {n : Nat} (hF : xFin R n)  {res : xm} (h : fX12_goesTo p0 μ = some res) (hQ : QQ none (xσ res R) n) : xCon E d Y_X12_goesTo 0 0 [.ref (E.2.2.2 + iM), .int p0] (xσ μ R) n QQ := by
  refine xCon_of pn_RX12 (Nat.le_of_ble_eq_true rfl) (L0 := [(0, .ref (E.2.2.2 + iM)), (1, .int p0)]) rfl ?_
  unfold fX12_goesTo at h
  refine ev_aload_n 0 dX12_goesTo_0 rfl rfl ?_
  refine xv_getF (a := iM_balance) cl_12 lk_RX12_111 kd_61 (xl hF rfl) (fun _ => rfl) (fr_61_49 hF) dX12_goesTo_1 ?_
  refine ev_iload_n 1 dX12_goesTo_4 rfl rfl ?_
  obtain ⟨v1, hv1, h⟩ := xbd_some h
  refine xv_iald kd_95 (xl hF rfl) hv1 dX12_goesTo_5 ?_
  refine ev_ineg dX12_goesTo_6 ?_
  obtain ⟨x2, hx2, h⟩ := xlt_some h
  refine xv_istore_n (L' := [(2, .int x2), (0, .ref (E.2.2.2 + iM)), (1, .int p0)]) hx2 dX12_goesTo_7 rfl (Nat.le_of_ble_eq_true rfl) rfl ?_
  refine ev_iload_n 2 dX12_goesTo_8 rfl rfl ?_
  refine xv_istore_n (L' := [(3, .int p0), (2, .int x2), (0, .ref (E.2.2.2 + iM)), (1, .int p0)]) rfl dX12_goesTo_9 rfl (Nat.le_of_ble_eq_true rfl) rfl ?_
  obtain ⟨q11, hq11, h⟩ := xbd_some h
  refine ev_sub (L' := [(0, .ref (E.2.2.2 + iM)), (1, .int p0), (2, .int x2), (3, .int p0)]) [2, 3, 1, 0] rfl ?_
  refine xloop_run (fun v => Ev E (xcm E d 0 0 QQ) Y_X12_goesTo 10 [(0, .ref (E.2.2.2 + iM)), (1, .int p0), (2, .int v.1), (3, .int v.2)] [] (xσ μ R) n 0 0) (fun v => Ev E (xcm E d 0 0 QQ) Y_X12_goesTo 56 [(0, .ref (E.2.2.2 + iM)), (1, .int p0), (2, .int v.1), (3, .int v.2)] [] (xσ μ R) n 0 0) ?_ _ _ _ hq11 ?_
  · rintro ⟨x3, x4⟩ y5 h hk
    replace h : fX12_goesTo_b10 x3 x4 μ = some y5 := h
    show Ev E (xcm E d 0 0 QQ) Y_X12_goesTo 10 [(0, .ref (E.2.2.2 + iM)), (1, .int p0), (2, .int x3), (3, .int x4)] [] (xσ μ R) n 0 0
    unfold fX12_goesTo_b10 at h
    refine ev_aload_n 0 dX12_goesTo_10 rfl rfl ?_
    refine xv_getF (a := iM_cameBy) cl_12 lk_RX12_117 kd_61 (xl hF rfl) (fun _ => rfl) (fr_61_51 hF) dX12_goesTo_11 ?_
    refine ev_iload_n 3 dX12_goesTo_14 rfl rfl ?_
    obtain ⟨v6, hv6, h⟩ := xbd_some h
    refine xv_iald kd_97 (xl hF rfl) hv6 dX12_goesTo_15 ?_
    refine ev_iconst (v := (-1)) dX12_goesTo_16 (by decide) ?_
    refine ev_icmp_eq (tgt := 56) dX12_goesTo_17 (by decide) (fun c17 => ?_) (fun c17 => ?_)
    · replace h := xif_t c17 h
      cases h
      replace hk := xel_r hk
      exact ev_sub [0, 1, 2, 3] rfl (hk)
    · replace h := xif_f c17 h
      refine ev_aload_n 0 dX12_goesTo_20 rfl rfl ?_
      refine ev_aload_n 0 dX12_goesTo_21 rfl rfl ?_
      refine xv_getF (a := iM_cameBy) cl_12 lk_RX12_117 kd_61 (xl hF rfl) (fun _ => rfl) (fr_61_51 hF) dX12_goesTo_22 ?_
      refine ev_iload_n 3 dX12_goesTo_25 rfl rfl ?_
      obtain ⟨v7, hv7, h⟩ := xbd_some h
      refine xv_iald kd_97 (xl hF rfl) hv7 dX12_goesTo_26 ?_
      refine ev_iload_n 3 dX12_goesTo_27 rfl rfl ?_
      obtain ⟨q8, hq8, h⟩ := xbd_some h
      refine ev_callV (ci := 12) (rest := []) 2 (kX12_stepOn (E := E) (d := 0) (QQ := (fun v τ n' => v = some (.int q8) ∧ τ = xσ μ R ∧ n = n')) (Nat.le_refl _) hF hq8 (⟨rfl, rfl, rfl⟩)) my_X12_stepOn ⟨m_1718, m_1720, m_84⟩ cl_12 kd_61 (xl hF rfl) rfl rfl (Nat.le_of_ble_eq_true rfl) (Nat.le_trans (by decide) hd) (xlo (by decide) (Nat.le_trans (by decide) hd)) (Nat.zero_le _) (Nat.zero_le _) dX12_goesTo_28 (fun v τ n' hv => ?_)
      obtain ⟨rfl, rfl, rfl⟩ := hv
      show Ev E (xcm E d 0 0 QQ) Y_X12_goesTo 31 [(0, .ref (E.2.2.2 + iM)), (1, .int p0), (2, .int x3), (3, .int x4)] [.int q8] (xσ μ R) n 0 0
      refine xv_istore (L' := [(4, .int q8), (0, .ref (E.2.2.2 + iM)), (1, .int p0), (2, .int x3), (3, .int x4)]) rfl dX12_goesTo_31 (Nat.le_of_ble_eq_true rfl) rfl ?_
      refine ev_iload 0 dX12_goesTo_33 rfl ?_
      refine ev_iload_n 3 dX12_goesTo_35 rfl rfl ?_
      refine ev_icmp_ge (tgt := 44) dX12_goesTo_36 (by decide) (fun c36 => ?_) (fun c36 => ?_)
      · replace h := xif_t c36 h
        refine ev_iload_n 3 dX12_goesTo_44 rfl rfl ?_
        refine xv_istore_n (L' := [(2, .int x3), (4, .int q8), (0, .ref (E.2.2.2 + iM)), (1, .int p0), (3, .int x4)]) rfl dX12_goesTo_45 rfl (Nat.le_of_ble_eq_true rfl) rfl ?_
        refine ev_aload_n 2 dX12_goesTo_46 rfl rfl ?_
        refine xv_getF (a := iM_cameBy) cl_12 lk_RX12_117 kd_61 (xl hF rfl) (fun _ => rfl) (fr_61_51 hF) dX12_goesTo_47 ?_
        refine ev_iload_n 4 dX12_goesTo_50 rfl rfl ?_
        obtain ⟨v9, hv9, h⟩ := xbd_some h
        refine xv_iald kd_97 (xl hF rfl) hv9 dX12_goesTo_51 ?_
        refine xv_istore_n (L' := [(3, .int v9), (2, .int x3), (4, .int q8), (0, .ref (E.2.2.2 + iM)), (1, .int p0)]) rfl dX12_goesTo_52 rfl (Nat.le_of_ble_eq_true rfl) rfl ?_
        refine ev_goto (tgt := 10) dX12_goesTo_53 (by decide) ?_
        cases h
        replace hk := xel_l hk
        exact ev_sub [3, 4, 1, 0] rfl (hk)
      · replace h := xif_f c36 h
        refine ev_iload 0 dX12_goesTo_39 rfl ?_
        refine ev_goto (tgt := 45) dX12_goesTo_41 (by decide) ?_
        refine xv_istore_n (L' := [(2, .int q8), (4, .int q8), (0, .ref (E.2.2.2 + iM)), (1, .int p0), (3, .int x4)]) rfl dX12_goesTo_45 rfl (Nat.le_of_ble_eq_true rfl) rfl ?_
        refine ev_aload_n 2 dX12_goesTo_46 rfl rfl ?_
        refine xv_getF (a := iM_cameBy) cl_12 lk_RX12_117 kd_61 (xl hF rfl) (fun _ => rfl) (fr_61_51 hF) dX12_goesTo_47 ?_
        refine ev_iload_n 4 dX12_goesTo_50 rfl rfl ?_
        obtain ⟨v10, hv10, h⟩ := xbd_some h
        refine xv_iald kd_97 (xl hF rfl) hv10 dX12_goesTo_51 ?_
        refine xv_istore_n (L' := [(3, .int v10), (2, .int q8), (4, .int q8), (0, .ref (E.2.2.2 + iM)), (1, .int p0)]) rfl dX12_goesTo_52 rfl (Nat.le_of_ble_eq_true rfl) rfl ?_
        refine ev_goto (tgt := 10) dX12_goesTo_53 (by decide) ?_
        cases h
        replace hk := xel_l hk
        exact ev_sub [3, 4, 1, 0] rfl (hk)
  · show Ev E (xcm E d 0 0 QQ) Y_X12_goesTo 56 [(0, .ref (E.2.2.2 + iM)), (1, .int p0), (2, .int q11.1), (3, .int q11.2)] [] (xσ μ R) n 0 0
    refine ev_aload_n 0 dX12_goesTo_56 rfl rfl ?_
    refine xv_getF (a := iM_balance) cl_12 lk_RX12_111 kd_61 (xl hF rfl) (fun _ => rfl) (fr_61_49 hF) dX12_goesTo_57 ?_
    refine ev_iload_n 3 dX12_goesTo_60 rfl rfl ?_
    obtain ⟨v12, hv12, h⟩ := xbd_some h
    refine xv_iald kd_95 (xl hF rfl) hv12 dX12_goesTo_61 ?_
    refine ev_iload_n 2 dX12_goesTo_62 rfl rfl ?_
    have j76 : ∀ (x13 : Int32), fX12_goesTo_j76 x13 p0 μ q11 = some res → Ev E (xcm E d 0 0 QQ) Y_X12_goesTo 76 [(0, .ref (E.2.2.2 + iM)), (1, .int p0), (3, .int q11.2)] [.int x13] (xσ μ R) n 0 0 := by
      intro x13 h
      unfold fX12_goesTo_j76 at h
      refine xv_istore_n (L' := [(2, .int x13), (0, .ref (E.2.2.2 + iM)), (1, .int p0), (3, .int q11.2)]) rfl dX12_goesTo_76 rfl (Nat.le_of_ble_eq_true rfl) rfl ?_
      refine ev_aload_n 1 dX12_goesTo_77 rfl rfl ?_
      refine xv_getF (a := iM_balance) cl_12 lk_RX12_111 kd_61 (xl hF rfl) (fun _ => rfl) (fr_61_49 hF) dX12_goesTo_78 ?_
      refine ev_iload_n 3 dX12_goesTo_81 rfl rfl ?_
      refine ev_aload_n 1 dX12_goesTo_82 rfl rfl ?_
      refine xv_getF (a := iM_balance) cl_12 lk_RX12_111 kd_61 (xl hF rfl) (fun _ => rfl) (fr_61_49 hF) dX12_goesTo_83 ?_
      refine ev_iload_n 3 dX12_goesTo_86 rfl rfl ?_
      obtain ⟨v14, hv14, h⟩ := xbd_some h
      refine xv_iald kd_95 (xl hF rfl) hv14 dX12_goesTo_87 ?_
      refine ev_iload_n 0 dX12_goesTo_88 rfl rfl ?_
      refine ev_isub dX12_goesTo_89 ?_
      obtain ⟨μ15, hμ15, h⟩ := xbd_some h
      refine xv_iast kd_95 (xl hF rfl) hμ15 dX12_goesTo_90 ?_
      refine ev_aload_n 1 dX12_goesTo_91 rfl rfl ?_
      refine xv_getF (a := iM_balance) cl_12 lk_RX12_111 kd_61 (xl hF rfl) (fun _ => rfl) (fr_61_49 hF) dX12_goesTo_92 ?_
      refine ev_iload_n 2 dX12_goesTo_95 rfl rfl ?_
      refine ev_aload_n 1 dX12_goesTo_96 rfl rfl ?_
      refine xv_getF (a := iM_balance) cl_12 lk_RX12_111 kd_61 (xl hF rfl) (fun _ => rfl) (fr_61_49 hF) dX12_goesTo_97 ?_
      refine ev_iload_n 2 dX12_goesTo_100 rfl rfl ?_
      obtain ⟨v16, hv16, h⟩ := xbd_some h
      refine xv_iald kd_95 (xl hF rfl) hv16 dX12_goesTo_101 ?_
      refine ev_iload_n 0 dX12_goesTo_102 rfl rfl ?_
      refine ev_iadd dX12_goesTo_103 ?_
      obtain ⟨μ17, hμ17, h⟩ := xbd_some h
      refine xv_iast kd_95 (xl hF rfl) hμ17 dX12_goesTo_104 ?_
      refine ev_iload_n 2 dX12_goesTo_105 rfl rfl ?_
      refine xv_istore (L' := [(4, .int p0), (2, .int x13), (0, .ref (E.2.2.2 + iM)), (1, .int p0), (3, .int q11.2)]) rfl dX12_goesTo_106 (Nat.le_of_ble_eq_true rfl) rfl ?_
      obtain ⟨q30, hq30, h⟩ := xbd_some h
      refine ev_sub (L' := [(0, .ref (E.2.2.2 + iM)), (2, .int x13), (4, .int p0)]) [2, 1, 0] rfl ?_
      refine xloop_run (fun v => Ev E (xcm E d 0 0 QQ) Y_X12_goesTo 108 [(0, .ref (E.2.2.2 + iM)), (2, .int x13), (4, .int v.1)] [] (xσ v.2 R) n 0 0) (fun v => Ev E (xcm E d 0 0 QQ) Y_X12_goesTo 215 [] [] (xσ v R) n 0 0) ?_ _ _ _ hq30 ?_
      · rintro ⟨x18, μ19⟩ y20 h hk
        replace h : fX12_goesTo_b108 x18 μ19 x13 = some y20 := h
        show Ev E (xcm E d 0 0 QQ) Y_X12_goesTo 108 [(0, .ref (E.2.2.2 + iM)), (2, .int x13), (4, .int x18)] [] (xσ μ19 R) n 0 0
        unfold fX12_goesTo_b108 at h
        refine ev_aload_n 0 dX12_goesTo_108 rfl rfl ?_
        refine xv_getF (a := iM_cameBy) cl_12 lk_RX12_117 kd_61 (xl hF rfl) (fun _ => rfl) (fr_61_51 hF) dX12_goesTo_109 ?_
        refine ev_iload 2 dX12_goesTo_112 rfl ?_
        obtain ⟨v21, hv21, h⟩ := xbd_some h
        refine xv_iald kd_97 (xl hF rfl) hv21 dX12_goesTo_114 ?_
        refine ev_iconst (v := (-1)) dX12_goesTo_115 (by decide) ?_
        refine ev_icmp_eq (tgt := 215) dX12_goesTo_116 (by decide) (fun c116 => ?_) (fun c116 => ?_)
        · replace h := xif_t c116 h
          cases h
          replace hk := xel_r hk
          exact ev_sub [] rfl (hk)
        · replace h := xif_f c116 h
          refine ev_aload_n 0 dX12_goesTo_119 rfl rfl ?_
          refine xv_getF (a := iM_cameBy) cl_12 lk_RX12_117 kd_61 (xl hF rfl) (fun _ => rfl) (fr_61_51 hF) dX12_goesTo_120 ?_
          refine ev_iload 2 dX12_goesTo_123 rfl ?_
          obtain ⟨v22, hv22, h⟩ := xbd_some h
          refine xv_iald kd_97 (xl hF rfl) hv22 dX12_goesTo_125 ?_
          refine xv_istore (L' := [(5, .int v22), (0, .ref (E.2.2.2 + iM)), (2, .int x13), (4, .int x18)]) rfl dX12_goesTo_126 (Nat.le_of_ble_eq_true rfl) rfl ?_
          refine ev_aload_n 1 dX12_goesTo_128 rfl rfl ?_
          refine xv_getF (a := iM_least0) cl_12 lk_RX12_105 kd_61 (xl hF rfl) (fun _ => rfl) (fr_61_47 hF) dX12_goesTo_129 ?_
          refine ev_bipush (v := 8) dX12_goesTo_132 (by decide) ?_
          refine ev_iload 3 dX12_goesTo_134 rfl ?_
          refine ev_imul dX12_goesTo_136 ?_
          refine ev_iload 0 dX12_goesTo_137 rfl ?_
          refine ev_iadd dX12_goesTo_139 ?_
          obtain ⟨v23, hv23, h⟩ := xbd_some h
          refine xv_iald kd_93 (xl hF rfl) hv23 dX12_goesTo_140 ?_
          refine ev_if_le (tgt := 175) dX12_goesTo_141 (by decide) (fun c141 => ?_) (fun c141 => ?_)
          · replace h := xif_t c141 h
            refine ev_aload_n 1 dX12_goesTo_175 rfl rfl ?_
            refine xv_getF (a := iM_least0) cl_12 lk_RX12_105 kd_61 (xl hF rfl) (fun _ => rfl) (fr_61_47 hF) dX12_goesTo_176 ?_
            refine ev_bipush (v := 8) dX12_goesTo_179 (by decide) ?_
            refine ev_iload 0 dX12_goesTo_181 rfl ?_
            refine ev_imul dX12_goesTo_183 ?_
            refine ev_iload 3 dX12_goesTo_184 rfl ?_
            refine ev_iadd dX12_goesTo_186 ?_
            refine ev_aload_n 1 dX12_goesTo_187 rfl rfl ?_
            refine xv_getF (a := iM_least0) cl_12 lk_RX12_105 kd_61 (xl hF rfl) (fun _ => rfl) (fr_61_47 hF) dX12_goesTo_188 ?_
            refine ev_bipush (v := 8) dX12_goesTo_191 (by decide) ?_
            refine ev_iload 0 dX12_goesTo_193 rfl ?_
            refine ev_imul dX12_goesTo_195 ?_
            refine ev_iload 3 dX12_goesTo_196 rfl ?_
            refine ev_iadd dX12_goesTo_198 ?_
            obtain ⟨v24, hv24, h⟩ := xbd_some h
            refine xv_iald kd_93 (xl hF rfl) hv24 dX12_goesTo_199 ?_
            refine ev_iload_n 2 dX12_goesTo_200 rfl rfl ?_
            refine ev_iadd dX12_goesTo_201 ?_
            obtain ⟨μ25, hμ25, h⟩ := xbd_some h
            refine xv_iast kd_93 (xl hF rfl) hμ25 dX12_goesTo_202 ?_
            refine ev_aload_n 1 dX12_goesTo_203 rfl rfl ?_
            refine xv_getF (a := iM_cameBy) cl_12 lk_RX12_117 kd_61 (xl hF rfl) (fun _ => rfl) (fr_61_51 hF) dX12_goesTo_204 ?_
            refine ev_iload 3 dX12_goesTo_207 rfl ?_
            obtain ⟨v26, hv26, h⟩ := xbd_some h
            refine xv_iald kd_97 (xl hF rfl) hv26 dX12_goesTo_209 ?_
            refine xv_istore (L' := [(4, .int v26), (5, .int v22), (0, .ref (E.2.2.2 + iM)), (2, .int x13)]) rfl dX12_goesTo_210 (Nat.le_of_ble_eq_true rfl) rfl ?_
            refine ev_goto (tgt := 108) dX12_goesTo_212 (by decide) ?_
            cases h
            replace hk := xel_l hk
            exact ev_sub [2, 3, 0] rfl (hk)
          · replace h := xif_f c141 h
            refine ev_aload_n 1 dX12_goesTo_144 rfl rfl ?_
            refine xv_getF (a := iM_least0) cl_12 lk_RX12_105 kd_61 (xl hF rfl) (fun _ => rfl) (fr_61_47 hF) dX12_goesTo_145 ?_
            refine ev_bipush (v := 8) dX12_goesTo_148 (by decide) ?_
            refine ev_iload 3 dX12_goesTo_150 rfl ?_
            refine ev_imul dX12_goesTo_152 ?_
            refine ev_iload 0 dX12_goesTo_153 rfl ?_
            refine ev_iadd dX12_goesTo_155 ?_
            refine ev_aload_n 1 dX12_goesTo_156 rfl rfl ?_
            refine xv_getF (a := iM_least0) cl_12 lk_RX12_105 kd_61 (xl hF rfl) (fun _ => rfl) (fr_61_47 hF) dX12_goesTo_157 ?_
            refine ev_bipush (v := 8) dX12_goesTo_160 (by decide) ?_
            refine ev_iload 3 dX12_goesTo_162 rfl ?_
            refine ev_imul dX12_goesTo_164 ?_
            refine ev_iload 0 dX12_goesTo_165 rfl ?_
            refine ev_iadd dX12_goesTo_167 ?_
            obtain ⟨v27, hv27, h⟩ := xbd_some h
            refine xv_iald kd_93 (xl hF rfl) hv27 dX12_goesTo_168 ?_
            refine ev_iload_n 2 dX12_goesTo_169 rfl rfl ?_
            refine ev_isub dX12_goesTo_170 ?_
            obtain ⟨μ28, hμ28, h⟩ := xbd_some h
            refine xv_iast kd_93 (xl hF rfl) hμ28 dX12_goesTo_171 ?_
            refine ev_goto (tgt := 203) dX12_goesTo_172 (by decide) ?_
            refine ev_aload_n 1 dX12_goesTo_203 rfl rfl ?_
            refine xv_getF (a := iM_cameBy) cl_12 lk_RX12_117 kd_61 (xl hF rfl) (fun _ => rfl) (fr_61_51 hF) dX12_goesTo_204 ?_
            refine ev_iload 3 dX12_goesTo_207 rfl ?_
            obtain ⟨v29, hv29, h⟩ := xbd_some h
            refine xv_iald kd_97 (xl hF rfl) hv29 dX12_goesTo_209 ?_
            refine xv_istore (L' := [(4, .int v29), (5, .int v22), (0, .ref (E.2.2.2 + iM)), (2, .int x13)]) rfl dX12_goesTo_210 (Nat.le_of_ble_eq_true rfl) rfl ?_
            refine ev_goto (tgt := 108) dX12_goesTo_212 (by decide) ?_
            cases h
            replace hk := xel_l hk
            exact ev_sub [2, 3, 0] rfl (hk)
      · show Ev E (xcm E d 0 0 QQ) Y_X12_goesTo 215 [] [] (xσ q30 R) n 0 0
        cases h
        exact ev_vret rfl (hQ) dX12_goesTo_215 (Nat.zero_le _) (Nat.zero_le _)
    refine ev_icmp_ge (tgt := 75) dX12_goesTo_63 (by decide) (fun c63 => ?_) (fun c63 => ?_)
    · replace h := xif_t c63 h
      refine ev_iload_n 2 dX12_goesTo_75 rfl rfl ?_
      exact ev_sub [0, 1, 3] rfl (j76 _ h)
    · replace h := xif_f c63 h
      refine ev_aload_n 0 dX12_goesTo_66 rfl rfl ?_
      refine xv_getF (a := iM_balance) cl_12 lk_RX12_111 kd_61 (xl hF rfl) (fun _ => rfl) (fr_61_49 hF) dX12_goesTo_67 ?_
      refine ev_iload_n 3 dX12_goesTo_70 rfl rfl ?_
      obtain ⟨v31, hv31, h⟩ := xbd_some h
      refine xv_iald kd_95 (xl hF rfl) hv31 dX12_goesTo_71 ?_
      refine ev_goto (tgt := 76) dX12_goesTo_72 (by decide) ?_
      exact ev_sub [0, 1, 3] rfl (j76 _ h)
def fX12_isDigit (μ : xm) : Option (Int32) := xbd (fX12_here μ) fun q1 => if q1 < 48 then (some 0) else (xbd (fX12_here μ) fun q2 => if 57 < q2 then (some 0) else (some 1))
set_option maxHeartbeats 4000000 in
set_option maxRecDepth 100000 in
theorem kX12_isDigit {E : xE} {d : Nat} {QQ : xP} (hd : 1 ≤ d)  {μ : xm} {R : xr} {n : Nat} (hF : xFin R n)  {res : Int32} (h : fX12_isDigit μ = some res) (hQ : QQ (some (.int res)) (xσ μ R) n) : xCon E d Y_X12_isDigit 0 0 [.ref (E.2.2.2 + iM)] (xσ μ R) n QQ := by
  refine xCon_of pn_RX12 (Nat.le_of_ble_eq_true rfl) (L0 := [(0, .ref (E.2.2.2 + iM))]) rfl ?_
  unfold fX12_isDigit at h
  refine ev_aload_n 0 dX12_isDigit_0 rfl rfl ?_
  obtain ⟨q1, hq1, h⟩ := xbd_some h
  refine ev_callV (ci := 12) (rest := []) 0 (kX12_here (E := E) (d := 0) (QQ := (fun v τ n' => v = some (.int q1) ∧ τ = xσ μ R ∧ n = n')) (Nat.le_refl _) hF hq1 (⟨rfl, rfl, rfl⟩)) my_X12_here ⟨m_1534, m_1536, m_51⟩ cl_12 kd_61 (xl hF rfl) rfl rfl (Nat.le_of_ble_eq_true rfl) (Nat.le_trans (by decide) hd) (xlo (by decide) (Nat.le_trans (by decide) hd)) (Nat.zero_le _) (Nat.zero_le _) dX12_isDigit_1 (fun v τ n' hv => ?_)
  obtain ⟨rfl, rfl, rfl⟩ := hv
  show Ev E (xcm E d 0 0 QQ) Y_X12_isDigit 4 [(0, .ref (E.2.2.2 + iM))] [.int q1] (xσ μ R) n 0 0
  refine ev_bipush (v := 48) dX12_isDigit_4 (by decide) ?_
  refine ev_icmp_lt (tgt := 22) dX12_isDigit_6 (by decide) (fun c6 => ?_) (fun c6 => ?_)
  · replace h := xif_t c6 h
    refine ev_iconst (v := 0) dX12_isDigit_22 (by decide) ?_
    cases h
    exact ev_zret rfl (Or.inl rfl) (hQ) dX12_isDigit_23 (Nat.zero_le _) (Nat.zero_le _)
  · replace h := xif_f c6 h
    refine ev_aload_n 0 dX12_isDigit_9 rfl rfl ?_
    obtain ⟨q2, hq2, h⟩ := xbd_some h
    refine ev_callV (ci := 12) (rest := []) 0 (kX12_here (E := E) (d := 0) (QQ := (fun v τ n' => v = some (.int q2) ∧ τ = xσ μ R ∧ n = n')) (Nat.le_refl _) hF hq2 (⟨rfl, rfl, rfl⟩)) my_X12_here ⟨m_1534, m_1536, m_51⟩ cl_12 kd_61 (xl hF rfl) rfl rfl (Nat.le_of_ble_eq_true rfl) (Nat.le_trans (by decide) hd) (xlo (by decide) (Nat.le_trans (by decide) hd)) (Nat.zero_le _) (Nat.zero_le _) dX12_isDigit_10 (fun v τ n' hv => ?_)
    obtain ⟨rfl, rfl, rfl⟩ := hv
    show Ev E (xcm E d 0 0 QQ) Y_X12_isDigit 13 [(0, .ref (E.2.2.2 + iM))] [.int q2] (xσ μ R) n 0 0
    refine ev_bipush (v := 57) dX12_isDigit_13 (by decide) ?_
    refine ev_icmp_gt (tgt := 22) dX12_isDigit_15 (by decide) (fun c15 => ?_) (fun c15 => ?_)
    · replace h := xif_t c15 h
      refine ev_iconst (v := 0) dX12_isDigit_22 (by decide) ?_
      cases h
      exact ev_zret rfl (Or.inl rfl) (hQ) dX12_isDigit_23 (Nat.zero_le _) (Nat.zero_le _)
    · replace h := xif_f c15 h
      refine ev_iconst (v := 1) dX12_isDigit_18 (by decide) ?_
      refine ev_goto (tgt := 23) dX12_isDigit_19 (by decide) ?_
      cases h
      exact ev_zret rfl (Or.inr rfl) (hQ) dX12_isDigit_23 (Nat.zero_le _) (Nat.zero_le _)
def fX12_isLive (p0 : Int32) (μ : xm) : Option (Int32) := xbd (fX12_isNote p0 μ) fun q1 => if q1 = 0 then (some 0) else (xbd (fX12_isLiveOn p0 (μ.1 iM 0) μ) fun q2 => if q2 = 0 then (some 0) else (some 1))
set_option maxHeartbeats 4000000 in
set_option maxRecDepth 100000 in
theorem kX12_isLive {E : xE} {d : Nat} {QQ : xP} (hd : 1 ≤ d) {p0 : Int32} {μ : xm} {R : xr} {n : Nat} (hF : xFin R n)  {res : Int32} (h : fX12_isLive p0 μ = some res) (hQ : QQ (some (.int res)) (xσ μ R) n) : xCon E d Y_X12_isLive 0 0 [.ref (E.2.2.2 + iM), .int p0] (xσ μ R) n QQ := by
  refine xCon_of pn_RX12 (Nat.le_of_ble_eq_true rfl) (L0 := [(0, .ref (E.2.2.2 + iM)), (1, .int p0)]) rfl ?_
  unfold fX12_isLive at h
  refine ev_aload_n 0 dX12_isLive_0 rfl rfl ?_
  refine ev_iload_n 1 dX12_isLive_1 rfl rfl ?_
  obtain ⟨q1, hq1, h⟩ := xbd_some h
  refine ev_callV (ci := 12) (rest := []) 1 (kX12_isNote (E := E) (d := 0) (QQ := (fun v τ n' => v = some (.int q1) ∧ τ = xσ μ R ∧ n = n')) (Nat.le_refl _) hF hq1 (⟨rfl, rfl, rfl⟩)) my_X12_isNote ⟨m_1660, m_1662, m_76⟩ cl_12 kd_61 (xl hF rfl) rfl rfl (Nat.le_of_ble_eq_true rfl) (Nat.le_trans (by decide) hd) (xlo (by decide) (Nat.le_trans (by decide) hd)) (Nat.zero_le _) (Nat.zero_le _) dX12_isLive_2 (fun v τ n' hv => ?_)
  obtain ⟨rfl, rfl, rfl⟩ := hv
  show Ev E (xcm E d 0 0 QQ) Y_X12_isLive 5 [(0, .ref (E.2.2.2 + iM)), (1, .int p0)] [.int q1] (xσ μ R) n 0 0
  refine ev_if_eq (tgt := 24) dX12_isLive_5 (by decide) (fun c5 => ?_) (fun c5 => ?_)
  · replace h := xif_t c5 h
    refine ev_iconst (v := 0) dX12_isLive_24 (by decide) ?_
    cases h
    exact ev_zret rfl (Or.inl rfl) (hQ) dX12_isLive_25 (Nat.zero_le _) (Nat.zero_le _)
  · replace h := xif_f c5 h
    refine ev_aload_n 0 dX12_isLive_8 rfl rfl ?_
    refine ev_iload_n 1 dX12_isLive_9 rfl rfl ?_
    refine ev_aload_n 0 dX12_isLive_10 rfl rfl ?_
    refine xv_getI cl_12 lk_RX12_165 kd_61 (xl hF rfl) (fun _ => rfl) dX12_isLive_11 ?_
    obtain ⟨q2, hq2, h⟩ := xbd_some h
    refine ev_callV (ci := 12) (rest := []) 2 (kX12_isLiveOn (E := E) (d := 0) (QQ := (fun v τ n' => v = some (.int q2) ∧ τ = xσ μ R ∧ n = n')) (Nat.le_refl _) hF hq2 (⟨rfl, rfl, rfl⟩)) my_X12_isLiveOn ⟨m_1668, m_1670, m_78⟩ cl_12 kd_61 (xl hF rfl) rfl rfl (Nat.le_of_ble_eq_true rfl) (Nat.le_trans (by decide) hd) (xlo (by decide) (Nat.le_trans (by decide) hd)) (Nat.zero_le _) (Nat.zero_le _) dX12_isLive_14 (fun v τ n' hv => ?_)
    obtain ⟨rfl, rfl, rfl⟩ := hv
    show Ev E (xcm E d 0 0 QQ) Y_X12_isLive 17 [(0, .ref (E.2.2.2 + iM)), (1, .int p0)] [.int q2] (xσ μ R) n 0 0
    refine ev_if_eq (tgt := 24) dX12_isLive_17 (by decide) (fun c17 => ?_) (fun c17 => ?_)
    · replace h := xif_t c17 h
      refine ev_iconst (v := 0) dX12_isLive_24 (by decide) ?_
      cases h
      exact ev_zret rfl (Or.inl rfl) (hQ) dX12_isLive_25 (Nat.zero_le _) (Nat.zero_le _)
    · replace h := xif_f c17 h
      refine ev_iconst (v := 1) dX12_isLive_20 (by decide) ?_
      refine ev_goto (tgt := 25) dX12_isLive_21 (by decide) ?_
      cases h
      exact ev_zret rfl (Or.inr rfl) (hQ) dX12_isLive_25 (Nat.zero_le _) (Nat.zero_le _)
def fX12_isOf (p0 : Int32) (p1 : Int32) (μ : xm) : Option (Int32) := xbd (fX12_isMeeting p0 μ) fun q1 => if q1 = 0 then (some 0) else (xbd (fX12_isPerson p1) fun q2 => if q2 = 0 then (some 0) else (xbd (xgI μ iM_peopleOf 24 p0) fun v3 => if ((v3 >>> (p1 &&& 31)) &&& 1) = 1 then (some 1) else (some 0)))
set_option maxHeartbeats 4000000 in
set_option maxRecDepth 100000 in
theorem kX12_isOf {E : xE} {d : Nat} {QQ : xP} (hd : 1 ≤ d) {p0 : Int32} {p1 : Int32} {μ : xm} {R : xr} {n : Nat} (hF : xFin R n)  {res : Int32} (h : fX12_isOf p0 p1 μ = some res) (hQ : QQ (some (.int res)) (xσ μ R) n) : xCon E d Y_X12_isOf 0 0 [.ref (E.2.2.2 + iM), .int p0, .int p1] (xσ μ R) n QQ := by
  refine xCon_of pn_RX12 (Nat.le_of_ble_eq_true rfl) (L0 := [(0, .ref (E.2.2.2 + iM)), (1, .int p0), (2, .int p1)]) rfl ?_
  unfold fX12_isOf at h
  refine ev_aload_n 0 dX12_isOf_0 rfl rfl ?_
  refine ev_iload_n 1 dX12_isOf_1 rfl rfl ?_
  obtain ⟨q1, hq1, h⟩ := xbd_some h
  refine ev_callV (ci := 12) (rest := []) 1 (kX12_isMeeting (E := E) (d := 0) (QQ := (fun v τ n' => v = some (.int q1) ∧ τ = xσ μ R ∧ n = n')) (Nat.le_refl _) hF hq1 (⟨rfl, rfl, rfl⟩)) my_X12_isMeeting ⟨m_1474, m_1476, m_41⟩ cl_12 kd_61 (xl hF rfl) rfl rfl (Nat.le_of_ble_eq_true rfl) (Nat.le_trans (by decide) hd) (xlo (by decide) (Nat.le_trans (by decide) hd)) (Nat.zero_le _) (Nat.zero_le _) dX12_isOf_2 (fun v τ n' hv => ?_)
  obtain ⟨rfl, rfl, rfl⟩ := hv
  show Ev E (xcm E d 0 0 QQ) Y_X12_isOf 5 [(0, .ref (E.2.2.2 + iM)), (1, .int p0), (2, .int p1)] [.int q1] (xσ μ R) n 0 0
  refine ev_if_eq (tgt := 33) dX12_isOf_5 (by decide) (fun c5 => ?_) (fun c5 => ?_)
  · replace h := xif_t c5 h
    refine ev_iconst (v := 0) dX12_isOf_33 (by decide) ?_
    cases h
    exact ev_zret rfl (Or.inl rfl) (hQ) dX12_isOf_34 (Nat.zero_le _) (Nat.zero_le _)
  · replace h := xif_f c5 h
    refine ev_iload_n 2 dX12_isOf_8 rfl rfl ?_
    obtain ⟨q2, hq2, h⟩ := xbd_some h
    refine ev_callS (As := [.int p1]) (rest := []) 1 (kX12_isPerson (E := E) (d := 0) (QQ := (fun v τ n' => v = some (.int q2) ∧ τ = xσ μ R ∧ n = n')) (Nat.le_refl _)  hq2 (⟨rfl, rfl, rfl⟩)) my_X12_isPerson ⟨m_1456, m_1457⟩ rfl rfl (Nat.le_of_ble_eq_true rfl) (Nat.le_trans (by decide) hd) (xlo (by decide) (Nat.le_trans (by decide) hd)) (Nat.zero_le _) (Nat.zero_le _) dX12_isOf_9 (fun v τ n' hv => ?_)
    obtain ⟨rfl, rfl, rfl⟩ := hv
    show Ev E (xcm E d 0 0 QQ) Y_X12_isOf 12 [(0, .ref (E.2.2.2 + iM)), (1, .int p0), (2, .int p1)] [.int q2] (xσ μ R) n 0 0
    refine ev_if_eq (tgt := 33) dX12_isOf_12 (by decide) (fun c12 => ?_) (fun c12 => ?_)
    · replace h := xif_t c12 h
      refine ev_iconst (v := 0) dX12_isOf_33 (by decide) ?_
      cases h
      exact ev_zret rfl (Or.inl rfl) (hQ) dX12_isOf_34 (Nat.zero_le _) (Nat.zero_le _)
    · replace h := xif_f c12 h
      refine ev_aload_n 0 dX12_isOf_15 rfl rfl ?_
      refine xv_getF (a := iM_peopleOf) cl_12 lk_RX12_19 kd_61 (xl hF rfl) (fun _ => rfl) (fr_61_7 hF) dX12_isOf_16 ?_
      refine ev_iload_n 1 dX12_isOf_19 rfl rfl ?_
      obtain ⟨v3, hv3, h⟩ := xbd_some h
      refine xv_iald kd_65 (xl hF rfl) hv3 dX12_isOf_20 ?_
      refine ev_iload_n 2 dX12_isOf_21 rfl rfl ?_
      refine ev_ishr dX12_isOf_22 ?_
      refine ev_iconst (v := 1) dX12_isOf_23 (by decide) ?_
      refine ev_iand dX12_isOf_24 ?_
      refine ev_iconst (v := 1) dX12_isOf_25 (by decide) ?_
      refine ev_icmp_ne (tgt := 33) dX12_isOf_26 (by decide) (fun c26 => ?_) (fun c26 => ?_)
      · replace h := xif_f c26 h
        refine ev_iconst (v := 0) dX12_isOf_33 (by decide) ?_
        cases h
        exact ev_zret rfl (Or.inl rfl) (hQ) dX12_isOf_34 (Nat.zero_le _) (Nat.zero_le _)
      · replace h := xif_t c26 h
        refine ev_iconst (v := 1) dX12_isOf_29 (by decide) ?_
        refine ev_goto (tgt := 34) dX12_isOf_30 (by decide) ?_
        cases h
        exact ev_zret rfl (Or.inr rfl) (hQ) dX12_isOf_34 (Nat.zero_le _) (Nat.zero_le _)
def fX12_jumps (p0 : Int32) (μ : xm) : Option (xm) := xbd (xsI μ iM_waits 220 (μ.1 iM 17) ((1048576 * p0) + (μ.1 iM 16))) fun μ1 => xlt (xpI μ1 iM 17 ((μ1.1 iM 17) + 1)) fun μ2 => xbd (fX12_notes p0 0 μ2) fun q3 => xlt (xpI q3 iM 12 ((q3.1 iM 12) + 1)) fun μ4 => some μ4
set_option maxHeartbeats 4000000 in
set_option maxRecDepth 100000 in
theorem kX12_jumps {E : xE} {d : Nat} {QQ : xP} (hd : 1 ≤ d) {p0 : Int32} {μ : xm} {R : xr} {n : Nat} (hF : xFin R n)  {res : xm} (h : fX12_jumps p0 μ = some res) (hQ : QQ none (xσ res R) n) : xCon E d Y_X12_jumps 0 0 [.ref (E.2.2.2 + iM), .int p0] (xσ μ R) n QQ := by
  refine xCon_of pn_RX12 (Nat.le_of_ble_eq_true rfl) (L0 := [(0, .ref (E.2.2.2 + iM)), (1, .int p0)]) rfl ?_
  unfold fX12_jumps at h
  refine ev_aload_n 0 dX12_jumps_0 rfl rfl ?_
  refine xv_getF (a := iM_waits) cl_12 lk_RX12_36 kd_61 (xl hF rfl) (fun _ => rfl) (fr_61_22 hF) dX12_jumps_1 ?_
  refine ev_aload_n 0 dX12_jumps_4 rfl rfl ?_
  refine xv_getI cl_12 lk_RX12_240 kd_61 (xl hF rfl) (fun _ => rfl) dX12_jumps_5 ?_
  refine ev_ldc (v := 1048576) m_1554 dX12_jumps_8 ?_
  refine ev_iload_n 1 dX12_jumps_10 rfl rfl ?_
  refine ev_imul dX12_jumps_11 ?_
  refine ev_aload_n 0 dX12_jumps_12 rfl rfl ?_
  refine xv_getI cl_12 lk_RX12_233 kd_61 (xl hF rfl) (fun _ => rfl) dX12_jumps_13 ?_
  refine ev_iadd dX12_jumps_16 ?_
  obtain ⟨μ1, hμ1, h⟩ := xbd_some h
  refine xv_iast kd_70 (xl hF rfl) hμ1 dX12_jumps_17 ?_
  refine ev_aload_n 0 dX12_jumps_18 rfl rfl ?_
  refine ev_aload_n 0 dX12_jumps_19 rfl rfl ?_
  refine xv_getI cl_12 lk_RX12_240 kd_61 (xl hF rfl) (fun _ => rfl) dX12_jumps_20 ?_
  refine ev_iconst (v := 1) dX12_jumps_23 (by decide) ?_
  refine ev_iadd dX12_jumps_24 ?_
  obtain ⟨μ2, hμ2, h⟩ := xlt_some h
  refine xv_putI cl_12 lk_RX12_240 rfl kd_61 (xl hF rfl) rfl rfl (fun _ => rfl) hμ2 dX12_jumps_25 ?_
  refine ev_aload_n 0 dX12_jumps_28 rfl rfl ?_
  refine ev_iload_n 1 dX12_jumps_29 rfl rfl ?_
  refine ev_iconst (v := 0) dX12_jumps_30 (by decide) ?_
  obtain ⟨q3, hq3, h⟩ := xbd_some h
  refine ev_callV (ci := 12) (rest := []) 2 (kX12_notes (E := E) (d := 0) (QQ := (fun v τ n' => v = none ∧ τ = xσ q3 R ∧ n = n')) (Nat.le_refl _) hF hq3 (⟨rfl, rfl, rfl⟩)) my_X12_notes ⟨m_1563, m_1565, m_58⟩ cl_12 kd_61 (xl hF rfl) rfl rfl (Nat.le_of_ble_eq_true rfl) (Nat.le_trans (by decide) hd) (xlo (by decide) (Nat.le_trans (by decide) hd)) (Nat.zero_le _) (Nat.zero_le _) dX12_jumps_31 (fun v τ n' hv => ?_)
  obtain ⟨rfl, rfl, rfl⟩ := hv
  show Ev E (xcm E d 0 0 QQ) Y_X12_jumps 34 [(0, .ref (E.2.2.2 + iM)), (1, .int p0)] [] (xσ q3 R) n 0 0
  refine ev_aload_n 0 dX12_jumps_34 rfl rfl ?_
  refine ev_aload_n 0 dX12_jumps_35 rfl rfl ?_
  refine xv_getI cl_12 lk_RX12_210 kd_61 (xl hF rfl) (fun _ => rfl) dX12_jumps_36 ?_
  refine ev_iconst (v := 1) dX12_jumps_39 (by decide) ?_
  refine ev_iadd dX12_jumps_40 ?_
  obtain ⟨μ4, hμ4, h⟩ := xlt_some h
  refine xv_putI cl_12 lk_RX12_210 rfl kd_61 (xl hF rfl) rfl rfl (fun _ => rfl) hμ4 dX12_jumps_41 ?_
  cases h
  exact ev_vret rfl (hQ) dX12_jumps_44 (Nat.zero_le _) (Nat.zero_le _)
