def fX12_measures_j29 (x5 : Int32) (x1 : Int32) (μ2 : xm) : Option ((Int32 × xm) ⊕ (xm)) := xbd (xsI μ2 iM_way 8 x1 x5) fun μ6 => xbd (xsI μ6 iM_cameBy 8 x1 (-1)) fun μ7 => xlt (x1 + 1) fun x8 => some (.inl (x8, μ7))
def fX12_measures_b2 (x1 : Int32) (μ2 : xm) : Option ((Int32 × xm) ⊕ (xm)) := if 8 ≤ x1 then (some (.inr μ2)) else (xbd (xgI μ2 iM_balance 8 x1) fun v4 => if v4 ≤ 0 then (fX12_measures_j29 1000 x1 μ2) else (fX12_measures_j29 0 x1 μ2))
def fX12_measures_j137 (x22 : Int32) (x13 : Int32) (x16 : Int32) (μ17 : xm) : Option ((Int32 × xm) ⊕ (xm)) := if x22 = 2000 then (xlt (x16 + 1) fun x23 => some (.inl (x23, μ17))) else (xbd (xgI μ17 iM_way 8 x13) fun v24 => xbd (xgI μ17 iM_way 8 x16) fun v25 => if (v24 + x22) < v25 then (xbd (xgI μ17 iM_way 8 x13) fun v26 => xbd (xsI μ17 iM_way 8 x16 (v26 + x22)) fun μ27 => xbd (xsI μ27 iM_cameBy 8 x16 x13) fun μ28 => xlt (x16 + 1) fun x29 => some (.inl (x29, μ28))) else (xlt (x16 + 1) fun x30 => some (.inl (x30, μ17))))
def fX12_measures_b61 (x16 : Int32) (μ17 : xm) (x13 : Int32) : Option ((Int32 × xm) ⊕ (xm)) := if 8 ≤ x16 then (some (.inr μ17)) else (xbd (xgI μ17 iM_way 8 x13) fun v19 => if v19 = 1000 then (xlt (x16 + 1) fun x20 => some (.inl (x20, μ17))) else (if x13 = x16 then (xlt (x16 + 1) fun x33 => some (.inl (x33, μ17))) else (xbd (xgI μ17 iM_least0 64 ((8 * x16) + x13)) fun v21 => if v21 ≤ 0 then (xbd (xgI μ17 iM_least0 64 ((8 * x13) + x16)) fun v31 => xbd (xgI μ17 iM_most0 64 ((8 * x13) + x16)) fun v32 => if v32 ≤ v31 then (fX12_measures_j137 2000 x13 x16 μ17) else (fX12_measures_j137 1 x13 x16 μ17)) else (fX12_measures_j137 (-1) x13 x16 μ17))))
def fX12_measures_b53 (x13 : Int32) (μ14 : xm) : Option ((Int32 × xm) ⊕ (xm)) := if 8 ≤ x13 then (some (.inr μ14)) else (xbd (xloop xfu (fun v => fX12_measures_b61 v.1 v.2 x13) (0, μ14)) fun q34 => xlt (x13 + 1) fun x35 => some (.inl (x35, q34)))
def fX12_measures_b45 (x10 : Int32) (μ11 : xm) : Option ((Int32 × xm) ⊕ (xm)) := if 8 ≤ x10 then (some (.inr μ11)) else (xbd (xloop xfu (fun v => fX12_measures_b53 v.1 v.2) (0, μ11)) fun q36 => xlt (x10 + 1) fun x37 => some (.inl (x37, q36)))
def fX12_measures (μ : xm) : Option (xm) := xbd (xloop xfu (fun v => fX12_measures_b2 v.1 v.2) (0, μ)) fun q9 => xbd (xloop xfu (fun v => fX12_measures_b45 v.1 v.2) (0, q9)) fun q38 => some q38
set_option maxHeartbeats 4000000 in
set_option maxRecDepth 100000 in
theorem kX12_measures {E : xE} {d : Nat} {QQ : xP} (hd : 0 ≤ d)  {μ : xm} {R : xr} {n : Nat} (hF : xFin R n)  {res : xm} (h : fX12_measures μ = some res) (hQ : QQ none (xσ res R) n) : xCon E d Y_X12_measures 0 0 [.ref (E.2.2.2 + iM)] (xσ μ R) n QQ := by
  refine xCon_of pn_RX12 (Nat.le_of_ble_eq_true rfl) (L0 := [(0, .ref (E.2.2.2 + iM))]) rfl ?_
  unfold fX12_measures at h
  refine ev_iconst (v := 0) dX12_measures_0 (by decide) ?_
  refine xv_istore_n (L' := [(1, .int 0), (0, .ref (E.2.2.2 + iM))]) rfl dX12_measures_1 rfl (Nat.le_of_ble_eq_true rfl) rfl ?_
  obtain ⟨q9, hq9, h⟩ := xbd_some h
  refine ev_sub (L' := [(0, .ref (E.2.2.2 + iM)), (1, .int 0)]) [1, 0] rfl ?_
  refine xloop_run (fun v => Ev E (xcm E d 0 0 QQ) Y_X12_measures 2 [(0, .ref (E.2.2.2 + iM)), (1, .int v.1)] [] (xσ v.2 R) n 0 0) (fun v => Ev E (xcm E d 0 0 QQ) Y_X12_measures 43 [(0, .ref (E.2.2.2 + iM))] [] (xσ v R) n 0 0) ?_ _ _ _ hq9 ?_
  · rintro ⟨x1, μ2⟩ y3 h hk
    replace h : fX12_measures_b2 x1 μ2 = some y3 := h
    show Ev E (xcm E d 0 0 QQ) Y_X12_measures 2 [(0, .ref (E.2.2.2 + iM)), (1, .int x1)] [] (xσ μ2 R) n 0 0
    unfold fX12_measures_b2 at h
    refine ev_iload_n 1 dX12_measures_2 rfl rfl ?_
    refine ev_bipush (v := 8) dX12_measures_3 (by decide) ?_
    refine ev_icmp_ge (tgt := 43) dX12_measures_5 (by decide) (fun c5 => ?_) (fun c5 => ?_)
    · replace h := xif_t c5 h
      cases h
      replace hk := xel_r hk
      exact ev_sub [0] rfl (hk)
    · replace h := xif_f c5 h
      refine ev_aload_n 0 dX12_measures_8 rfl rfl ?_
      refine xv_getF (a := iM_way) cl_12 lk_RX12_114 kd_61 (xl hF rfl) (fun _ => rfl) (fr_61_50 hF) dX12_measures_9 ?_
      refine ev_iload_n 1 dX12_measures_12 rfl rfl ?_
      refine ev_aload_n 0 dX12_measures_13 rfl rfl ?_
      refine xv_getF (a := iM_balance) cl_12 lk_RX12_111 kd_61 (xl hF rfl) (fun _ => rfl) (fr_61_49 hF) dX12_measures_14 ?_
      refine ev_iload_n 1 dX12_measures_17 rfl rfl ?_
      obtain ⟨v4, hv4, h⟩ := xbd_some h
      refine xv_iald kd_95 (xl hF rfl) hv4 dX12_measures_18 ?_
      have j29 : ∀ (x5 : Int32), fX12_measures_j29 x5 x1 μ2 = some y3 → Ev E (xcm E d 0 0 QQ) Y_X12_measures 29 [(0, .ref (E.2.2.2 + iM)), (1, .int x1)] [.int x5, .int x1, .ref (E.2.2.2 + iM_way)] (xσ μ2 R) n 0 0 := by
        intro x5 h
        unfold fX12_measures_j29 at h
        obtain ⟨μ6, hμ6, h⟩ := xbd_some h
        refine xv_iast kd_96 (xl hF rfl) hμ6 dX12_measures_29 ?_
        refine ev_aload_n 0 dX12_measures_30 rfl rfl ?_
        refine xv_getF (a := iM_cameBy) cl_12 lk_RX12_117 kd_61 (xl hF rfl) (fun _ => rfl) (fr_61_51 hF) dX12_measures_31 ?_
        refine ev_iload_n 1 dX12_measures_34 rfl rfl ?_
        refine ev_iconst (v := (-1)) dX12_measures_35 (by decide) ?_
        obtain ⟨μ7, hμ7, h⟩ := xbd_some h
        refine xv_iast kd_97 (xl hF rfl) hμ7 dX12_measures_36 ?_
        obtain ⟨x8, hx8, h⟩ := xlt_some h
        refine ev_iinc (L' := [(1, .int x8), (0, .ref (E.2.2.2 + iM))]) 1 dX12_measures_37 rfl ((by rfl : x1 + Int32.ofInt 1 = x1 + 1).trans hx8) (Nat.le_of_ble_eq_true rfl) rfl ?_
        refine ev_goto (tgt := 2) dX12_measures_40 (by decide) ?_
        cases h
        replace hk := xel_l hk
        exact ev_sub [1, 0] rfl (hk)
      refine ev_if_le (tgt := 26) dX12_measures_19 (by decide) (fun c19 => ?_) (fun c19 => ?_)
      · replace h := xif_t c19 h
        refine ev_sipush (v := 1000) dX12_measures_26 (by decide) ?_
        exact ev_sub [0, 1] rfl (j29 _ h)
      · replace h := xif_f c19 h
        refine ev_iconst (v := 0) dX12_measures_22 (by decide) ?_
        refine ev_goto (tgt := 29) dX12_measures_23 (by decide) ?_
        exact ev_sub [0, 1] rfl (j29 _ h)
  · show Ev E (xcm E d 0 0 QQ) Y_X12_measures 43 [(0, .ref (E.2.2.2 + iM))] [] (xσ q9 R) n 0 0
    refine ev_iconst (v := 0) dX12_measures_43 (by decide) ?_
    refine xv_istore_n (L' := [(1, .int 0), (0, .ref (E.2.2.2 + iM))]) rfl dX12_measures_44 rfl (Nat.le_of_ble_eq_true rfl) rfl ?_
    obtain ⟨q38, hq38, h⟩ := xbd_some h
    refine ev_sub (L' := [(0, .ref (E.2.2.2 + iM)), (1, .int 0)]) [1, 0] rfl ?_
    refine xloop_run (fun v => Ev E (xcm E d 0 0 QQ) Y_X12_measures 45 [(0, .ref (E.2.2.2 + iM)), (1, .int v.1)] [] (xσ v.2 R) n 0 0) (fun v => Ev E (xcm E d 0 0 QQ) Y_X12_measures 208 [] [] (xσ v R) n 0 0) ?_ _ _ _ hq38 ?_
    · rintro ⟨x10, μ11⟩ y12 h hk
      replace h : fX12_measures_b45 x10 μ11 = some y12 := h
      show Ev E (xcm E d 0 0 QQ) Y_X12_measures 45 [(0, .ref (E.2.2.2 + iM)), (1, .int x10)] [] (xσ μ11 R) n 0 0
      unfold fX12_measures_b45 at h
      refine ev_iload_n 1 dX12_measures_45 rfl rfl ?_
      refine ev_bipush (v := 8) dX12_measures_46 (by decide) ?_
      refine ev_icmp_ge (tgt := 208) dX12_measures_48 (by decide) (fun c48 => ?_) (fun c48 => ?_)
      · replace h := xif_t c48 h
        cases h
        replace hk := xel_r hk
        exact ev_sub [] rfl (hk)
      · replace h := xif_f c48 h
        refine ev_iconst (v := 0) dX12_measures_51 (by decide) ?_
        refine xv_istore_n (L' := [(2, .int 0), (0, .ref (E.2.2.2 + iM)), (1, .int x10)]) rfl dX12_measures_52 rfl (Nat.le_of_ble_eq_true rfl) rfl ?_
        obtain ⟨q36, hq36, h⟩ := xbd_some h
        refine ev_sub (L' := [(0, .ref (E.2.2.2 + iM)), (1, .int x10), (2, .int 0)]) [1, 2, 0] rfl ?_
        refine xloop_run (fun v => Ev E (xcm E d 0 0 QQ) Y_X12_measures 53 [(0, .ref (E.2.2.2 + iM)), (1, .int x10), (2, .int v.1)] [] (xσ v.2 R) n 0 0) (fun v => Ev E (xcm E d 0 0 QQ) Y_X12_measures 202 [(0, .ref (E.2.2.2 + iM)), (1, .int x10)] [] (xσ v R) n 0 0) ?_ _ _ _ hq36 ?_
        · rintro ⟨x13, μ14⟩ y15 h hk
          replace h : fX12_measures_b53 x13 μ14 = some y15 := h
          show Ev E (xcm E d 0 0 QQ) Y_X12_measures 53 [(0, .ref (E.2.2.2 + iM)), (1, .int x10), (2, .int x13)] [] (xσ μ14 R) n 0 0
          unfold fX12_measures_b53 at h
          refine ev_iload_n 2 dX12_measures_53 rfl rfl ?_
          refine ev_bipush (v := 8) dX12_measures_54 (by decide) ?_
          refine ev_icmp_ge (tgt := 202) dX12_measures_56 (by decide) (fun c56 => ?_) (fun c56 => ?_)
          · replace h := xif_t c56 h
            cases h
            replace hk := xel_r hk
            exact ev_sub [0, 1] rfl (hk)
          · replace h := xif_f c56 h
            refine ev_iconst (v := 0) dX12_measures_59 (by decide) ?_
            refine xv_istore_n (L' := [(3, .int 0), (0, .ref (E.2.2.2 + iM)), (1, .int x10), (2, .int x13)]) rfl dX12_measures_60 rfl (Nat.le_of_ble_eq_true rfl) rfl ?_
            obtain ⟨q34, hq34, h⟩ := xbd_some h
            refine ev_sub (L' := [(0, .ref (E.2.2.2 + iM)), (1, .int x10), (2, .int x13), (3, .int 0)]) [1, 2, 3, 0] rfl ?_
            refine xloop_run (fun v => Ev E (xcm E d 0 0 QQ) Y_X12_measures 61 [(0, .ref (E.2.2.2 + iM)), (1, .int x10), (2, .int x13), (3, .int v.1)] [] (xσ v.2 R) n 0 0) (fun v => Ev E (xcm E d 0 0 QQ) Y_X12_measures 196 [(0, .ref (E.2.2.2 + iM)), (1, .int x10), (2, .int x13)] [] (xσ v R) n 0 0) ?_ _ _ _ hq34 ?_
            · rintro ⟨x16, μ17⟩ y18 h hk
              replace h : fX12_measures_b61 x16 μ17 x13 = some y18 := h
              show Ev E (xcm E d 0 0 QQ) Y_X12_measures 61 [(0, .ref (E.2.2.2 + iM)), (1, .int x10), (2, .int x13), (3, .int x16)] [] (xσ μ17 R) n 0 0
              unfold fX12_measures_b61 at h
              refine ev_iload_n 3 dX12_measures_61 rfl rfl ?_
              refine ev_bipush (v := 8) dX12_measures_62 (by decide) ?_
              refine ev_icmp_ge (tgt := 196) dX12_measures_64 (by decide) (fun c64 => ?_) (fun c64 => ?_)
              · replace h := xif_t c64 h
                cases h
                replace hk := xel_r hk
                exact ev_sub [0, 1, 2] rfl (hk)
              · replace h := xif_f c64 h
                refine ev_aload_n 0 dX12_measures_67 rfl rfl ?_
                refine xv_getF (a := iM_way) cl_12 lk_RX12_114 kd_61 (xl hF rfl) (fun _ => rfl) (fr_61_50 hF) dX12_measures_68 ?_
                refine ev_iload_n 2 dX12_measures_71 rfl rfl ?_
                obtain ⟨v19, hv19, h⟩ := xbd_some h
                refine xv_iald kd_96 (xl hF rfl) hv19 dX12_measures_72 ?_
                refine ev_sipush (v := 1000) dX12_measures_73 (by decide) ?_
                refine ev_icmp_eq (tgt := 190) dX12_measures_76 (by decide) (fun c76 => ?_) (fun c76 => ?_)
                · replace h := xif_t c76 h
                  obtain ⟨x20, hx20, h⟩ := xlt_some h
                  refine ev_iinc (L' := [(3, .int x20), (0, .ref (E.2.2.2 + iM)), (1, .int x10), (2, .int x13)]) 3 dX12_measures_190 rfl ((by rfl : x16 + Int32.ofInt 1 = x16 + 1).trans hx20) (Nat.le_of_ble_eq_true rfl) rfl ?_
                  refine ev_goto (tgt := 61) dX12_measures_193 (by decide) ?_
                  cases h
                  replace hk := xel_l hk
                  exact ev_sub [1, 2, 3, 0] rfl (hk)
                · replace h := xif_f c76 h
                  refine ev_iload_n 2 dX12_measures_79 rfl rfl ?_
                  refine ev_iload_n 3 dX12_measures_80 rfl rfl ?_
                  refine ev_icmp_ne (tgt := 87) dX12_measures_81 (by decide) (fun c81 => ?_) (fun c81 => ?_)
                  · replace h := xif_f c81 h
                    refine ev_aload_n 0 dX12_measures_87 rfl rfl ?_
                    refine xv_getF (a := iM_least0) cl_12 lk_RX12_105 kd_61 (xl hF rfl) (fun _ => rfl) (fr_61_47 hF) dX12_measures_88 ?_
                    refine ev_bipush (v := 8) dX12_measures_91 (by decide) ?_
                    refine ev_iload_n 3 dX12_measures_93 rfl rfl ?_
                    refine ev_imul dX12_measures_94 ?_
                    refine ev_iload_n 2 dX12_measures_95 rfl rfl ?_
                    refine ev_iadd dX12_measures_96 ?_
                    obtain ⟨v21, hv21, h⟩ := xbd_some h
                    refine xv_iald kd_93 (xl hF rfl) hv21 dX12_measures_97 ?_
                    have j137 : ∀ (x22 : Int32), fX12_measures_j137 x22 x13 x16 μ17 = some y18 → Ev E (xcm E d 0 0 QQ) Y_X12_measures 137 [(0, .ref (E.2.2.2 + iM)), (1, .int x10), (2, .int x13), (3, .int x16)] [.int x22] (xσ μ17 R) n 0 0 := by
                      intro x22 h
                      unfold fX12_measures_j137 at h
                      refine xv_istore (L' := [(4, .int x22), (0, .ref (E.2.2.2 + iM)), (1, .int x10), (2, .int x13), (3, .int x16)]) rfl dX12_measures_137 (Nat.le_of_ble_eq_true rfl) rfl ?_
                      refine ev_iload 0 dX12_measures_139 rfl ?_
                      refine ev_sipush (v := 2000) dX12_measures_141 (by decide) ?_
                      refine ev_icmp_eq (tgt := 190) dX12_measures_144 (by decide) (fun c144 => ?_) (fun c144 => ?_)
                      · replace h := xif_t c144 h
                        obtain ⟨x23, hx23, h⟩ := xlt_some h
                        refine ev_iinc (L' := [(3, .int x23), (4, .int x22), (0, .ref (E.2.2.2 + iM)), (1, .int x10), (2, .int x13)]) 4 dX12_measures_190 rfl ((by rfl : x16 + Int32.ofInt 1 = x16 + 1).trans hx23) (Nat.le_of_ble_eq_true rfl) rfl ?_
                        refine ev_goto (tgt := 61) dX12_measures_193 (by decide) ?_
                        cases h
                        replace hk := xel_l hk
                        exact ev_sub [2, 3, 4, 0] rfl (hk)
                      · replace h := xif_f c144 h
                        refine ev_aload_n 1 dX12_measures_147 rfl rfl ?_
                        refine xv_getF (a := iM_way) cl_12 lk_RX12_114 kd_61 (xl hF rfl) (fun _ => rfl) (fr_61_50 hF) dX12_measures_148 ?_
                        refine ev_iload_n 3 dX12_measures_151 rfl rfl ?_
                        obtain ⟨v24, hv24, h⟩ := xbd_some h
                        refine xv_iald kd_96 (xl hF rfl) hv24 dX12_measures_152 ?_
                        refine ev_iload 0 dX12_measures_153 rfl ?_
                        refine ev_iadd dX12_measures_155 ?_
                        refine ev_aload_n 1 dX12_measures_156 rfl rfl ?_
                        refine xv_getF (a := iM_way) cl_12 lk_RX12_114 kd_61 (xl hF rfl) (fun _ => rfl) (fr_61_50 hF) dX12_measures_157 ?_
                        refine ev_iload_n 4 dX12_measures_160 rfl rfl ?_
                        obtain ⟨v25, hv25, h⟩ := xbd_some h
                        refine xv_iald kd_96 (xl hF rfl) hv25 dX12_measures_161 ?_
                        refine ev_icmp_lt (tgt := 168) dX12_measures_162 (by decide) (fun c162 => ?_) (fun c162 => ?_)
                        · replace h := xif_t c162 h
                          refine ev_aload_n 1 dX12_measures_168 rfl rfl ?_
                          refine xv_getF (a := iM_way) cl_12 lk_RX12_114 kd_61 (xl hF rfl) (fun _ => rfl) (fr_61_50 hF) dX12_measures_169 ?_
                          refine ev_iload_n 4 dX12_measures_172 rfl rfl ?_
                          refine ev_aload_n 1 dX12_measures_173 rfl rfl ?_
                          refine xv_getF (a := iM_way) cl_12 lk_RX12_114 kd_61 (xl hF rfl) (fun _ => rfl) (fr_61_50 hF) dX12_measures_174 ?_
                          refine ev_iload_n 3 dX12_measures_177 rfl rfl ?_
                          obtain ⟨v26, hv26, h⟩ := xbd_some h
                          refine xv_iald kd_96 (xl hF rfl) hv26 dX12_measures_178 ?_
                          refine ev_iload 0 dX12_measures_179 rfl ?_
                          refine ev_iadd dX12_measures_181 ?_
                          obtain ⟨μ27, hμ27, h⟩ := xbd_some h
                          refine xv_iast kd_96 (xl hF rfl) hμ27 dX12_measures_182 ?_
                          refine ev_aload_n 1 dX12_measures_183 rfl rfl ?_
                          refine xv_getF (a := iM_cameBy) cl_12 lk_RX12_117 kd_61 (xl hF rfl) (fun _ => rfl) (fr_61_51 hF) dX12_measures_184 ?_
                          refine ev_iload_n 4 dX12_measures_187 rfl rfl ?_
                          refine ev_iload_n 3 dX12_measures_188 rfl rfl ?_
                          obtain ⟨μ28, hμ28, h⟩ := xbd_some h
                          refine xv_iast kd_97 (xl hF rfl) hμ28 dX12_measures_189 ?_
                          obtain ⟨x29, hx29, h⟩ := xlt_some h
                          refine ev_iinc (L' := [(3, .int x29), (4, .int x22), (0, .ref (E.2.2.2 + iM)), (1, .int x10), (2, .int x13)]) 4 dX12_measures_190 rfl ((by rfl : x16 + Int32.ofInt 1 = x16 + 1).trans hx29) (Nat.le_of_ble_eq_true rfl) rfl ?_
                          refine ev_goto (tgt := 61) dX12_measures_193 (by decide) ?_
                          cases h
                          replace hk := xel_l hk
                          exact ev_sub [2, 3, 4, 0] rfl (hk)
                        · replace h := xif_f c162 h
                          refine ev_goto (tgt := 190) dX12_measures_165 (by decide) ?_
                          obtain ⟨x30, hx30, h⟩ := xlt_some h
                          refine ev_iinc (L' := [(3, .int x30), (4, .int x22), (0, .ref (E.2.2.2 + iM)), (1, .int x10), (2, .int x13)]) 4 dX12_measures_190 rfl ((by rfl : x16 + Int32.ofInt 1 = x16 + 1).trans hx30) (Nat.le_of_ble_eq_true rfl) rfl ?_
                          refine ev_goto (tgt := 61) dX12_measures_193 (by decide) ?_
                          cases h
                          replace hk := xel_l hk
                          exact ev_sub [2, 3, 4, 0] rfl (hk)
                    refine ev_if_le (tgt := 105) dX12_measures_98 (by decide) (fun c98 => ?_) (fun c98 => ?_)
                    · replace h := xif_t c98 h
                      refine ev_aload_n 0 dX12_measures_105 rfl rfl ?_
                      refine xv_getF (a := iM_least0) cl_12 lk_RX12_105 kd_61 (xl hF rfl) (fun _ => rfl) (fr_61_47 hF) dX12_measures_106 ?_
                      refine ev_bipush (v := 8) dX12_measures_109 (by decide) ?_
                      refine ev_iload_n 2 dX12_measures_111 rfl rfl ?_
                      refine ev_imul dX12_measures_112 ?_
                      refine ev_iload_n 3 dX12_measures_113 rfl rfl ?_
                      refine ev_iadd dX12_measures_114 ?_
                      obtain ⟨v31, hv31, h⟩ := xbd_some h
                      refine xv_iald kd_93 (xl hF rfl) hv31 dX12_measures_115 ?_
                      refine ev_aload_n 0 dX12_measures_116 rfl rfl ?_
                      refine xv_getF (a := iM_most0) cl_12 lk_RX12_108 kd_61 (xl hF rfl) (fun _ => rfl) (fr_61_48 hF) dX12_measures_117 ?_
                      refine ev_bipush (v := 8) dX12_measures_120 (by decide) ?_
                      refine ev_iload_n 2 dX12_measures_122 rfl rfl ?_
                      refine ev_imul dX12_measures_123 ?_
                      refine ev_iload_n 3 dX12_measures_124 rfl rfl ?_
                      refine ev_iadd dX12_measures_125 ?_
                      obtain ⟨v32, hv32, h⟩ := xbd_some h
                      refine xv_iald kd_94 (xl hF rfl) hv32 dX12_measures_126 ?_
                      refine ev_icmp_ge (tgt := 134) dX12_measures_127 (by decide) (fun c127 => ?_) (fun c127 => ?_)
                      · replace h := xif_t c127 h
                        refine ev_sipush (v := 2000) dX12_measures_134 (by decide) ?_
                        exact ev_sub [0, 1, 2, 3] rfl (j137 _ h)
                      · replace h := xif_f c127 h
                        refine ev_iconst (v := 1) dX12_measures_130 (by decide) ?_
                        refine ev_goto (tgt := 137) dX12_measures_131 (by decide) ?_
                        exact ev_sub [0, 1, 2, 3] rfl (j137 _ h)
                    · replace h := xif_f c98 h
                      refine ev_iconst (v := (-1)) dX12_measures_101 (by decide) ?_
                      refine ev_goto (tgt := 137) dX12_measures_102 (by decide) ?_
                      exact ev_sub [0, 1, 2, 3] rfl (j137 _ h)
                  · replace h := xif_t c81 h
                    refine ev_goto (tgt := 190) dX12_measures_84 (by decide) ?_
                    obtain ⟨x33, hx33, h⟩ := xlt_some h
                    refine ev_iinc (L' := [(3, .int x33), (0, .ref (E.2.2.2 + iM)), (1, .int x10), (2, .int x13)]) 3 dX12_measures_190 rfl ((by rfl : x16 + Int32.ofInt 1 = x16 + 1).trans hx33) (Nat.le_of_ble_eq_true rfl) rfl ?_
                    refine ev_goto (tgt := 61) dX12_measures_193 (by decide) ?_
                    cases h
                    replace hk := xel_l hk
                    exact ev_sub [1, 2, 3, 0] rfl (hk)
            · show Ev E (xcm E d 0 0 QQ) Y_X12_measures 196 [(0, .ref (E.2.2.2 + iM)), (1, .int x10), (2, .int x13)] [] (xσ q34 R) n 0 0
              obtain ⟨x35, hx35, h⟩ := xlt_some h
              refine ev_iinc (L' := [(2, .int x35), (0, .ref (E.2.2.2 + iM)), (1, .int x10)]) 2 dX12_measures_196 rfl ((by rfl : x13 + Int32.ofInt 1 = x13 + 1).trans hx35) (Nat.le_of_ble_eq_true rfl) rfl ?_
              refine ev_goto (tgt := 53) dX12_measures_199 (by decide) ?_
              cases h
              replace hk := xel_l hk
              exact ev_sub [1, 2, 0] rfl (hk)
        · show Ev E (xcm E d 0 0 QQ) Y_X12_measures 202 [(0, .ref (E.2.2.2 + iM)), (1, .int x10)] [] (xσ q36 R) n 0 0
          obtain ⟨x37, hx37, h⟩ := xlt_some h
          refine ev_iinc (L' := [(1, .int x37), (0, .ref (E.2.2.2 + iM))]) 1 dX12_measures_202 rfl ((by rfl : x10 + Int32.ofInt 1 = x10 + 1).trans hx37) (Nat.le_of_ble_eq_true rfl) rfl ?_
          refine ev_goto (tgt := 45) dX12_measures_205 (by decide) ?_
          cases h
          replace hk := xel_l hk
          exact ev_sub [1, 0] rfl (hk)
    · show Ev E (xcm E d 0 0 QQ) Y_X12_measures 208 [] [] (xσ q38 R) n 0 0
      cases h
      exact ev_vret rfl (hQ) dX12_measures_208 (Nat.zero_le _) (Nat.zero_le _)
def fX12_nearestGetter_b4 (x1 : Int32) (x2 : Int32) (μ : xm) : Option ((Int32 × Int32) ⊕ (Int32)) := if 8 ≤ x2 then (some (.inr x1)) else (xbd (xgI μ iM_balance 8 x2) fun v4 => if 0 ≤ v4 then (xlt (x2 + 1) fun x5 => some (.inl (x1, x5))) else (xbd (xgI μ iM_way 8 x2) fun v6 => if 1000 ≤ v6 then (xlt (x2 + 1) fun x7 => some (.inl (x1, x7))) else (if x1 = (-1) then (xlt (x2 + 1) fun x8 => some (.inl (x2, x8))) else (xbd (xgI μ iM_way 8 x2) fun v9 => xbd (xgI μ iM_way 8 x1) fun v10 => if v10 ≤ v9 then (xlt (x2 + 1) fun x11 => some (.inl (x1, x11))) else (xlt (x2 + 1) fun x12 => some (.inl (x2, x12)))))))
def fX12_nearestGetter (μ : xm) : Option (Int32) := xbd (xloop xfu (fun v => fX12_nearestGetter_b4 v.1 v.2 μ) ((-1), 0)) fun q13 => some q13
set_option maxHeartbeats 4000000 in
set_option maxRecDepth 100000 in
theorem kX12_nearestGetter {E : xE} {d : Nat} {QQ : xP} (hd : 0 ≤ d)  {μ : xm} {R : xr} {n : Nat} (hF : xFin R n)  {res : Int32} (h : fX12_nearestGetter μ = some res) (hQ : QQ (some (.int res)) (xσ μ R) n) : xCon E d Y_X12_nearestGetter 0 0 [.ref (E.2.2.2 + iM)] (xσ μ R) n QQ := by
  refine xCon_of pn_RX12 (Nat.le_of_ble_eq_true rfl) (L0 := [(0, .ref (E.2.2.2 + iM))]) rfl ?_
  unfold fX12_nearestGetter at h
  refine ev_iconst (v := (-1)) dX12_nearestGetter_0 (by decide) ?_
  refine xv_istore_n (L' := [(1, .int (-1)), (0, .ref (E.2.2.2 + iM))]) rfl dX12_nearestGetter_1 rfl (Nat.le_of_ble_eq_true rfl) rfl ?_
  refine ev_iconst (v := 0) dX12_nearestGetter_2 (by decide) ?_
  refine xv_istore_n (L' := [(2, .int 0), (1, .int (-1)), (0, .ref (E.2.2.2 + iM))]) rfl dX12_nearestGetter_3 rfl (Nat.le_of_ble_eq_true rfl) rfl ?_
  obtain ⟨q13, hq13, h⟩ := xbd_some h
  refine ev_sub (L' := [(0, .ref (E.2.2.2 + iM)), (1, .int (-1)), (2, .int 0)]) [2, 1, 0] rfl ?_
  refine xloop_run (fun v => Ev E (xcm E d 0 0 QQ) Y_X12_nearestGetter 4 [(0, .ref (E.2.2.2 + iM)), (1, .int v.1), (2, .int v.2)] [] (xσ μ R) n 0 0) (fun v => Ev E (xcm E d 0 0 QQ) Y_X12_nearestGetter 59 [(1, .int v)] [] (xσ μ R) n 0 0) ?_ _ _ _ hq13 ?_
  · rintro ⟨x1, x2⟩ y3 h hk
    replace h : fX12_nearestGetter_b4 x1 x2 μ = some y3 := h
    show Ev E (xcm E d 0 0 QQ) Y_X12_nearestGetter 4 [(0, .ref (E.2.2.2 + iM)), (1, .int x1), (2, .int x2)] [] (xσ μ R) n 0 0
    unfold fX12_nearestGetter_b4 at h
    refine ev_iload_n 2 dX12_nearestGetter_4 rfl rfl ?_
    refine ev_bipush (v := 8) dX12_nearestGetter_5 (by decide) ?_
    refine ev_icmp_ge (tgt := 59) dX12_nearestGetter_7 (by decide) (fun c7 => ?_) (fun c7 => ?_)
    · replace h := xif_t c7 h
      cases h
      replace hk := xel_r hk
      exact ev_sub [1] rfl (hk)
    · replace h := xif_f c7 h
      refine ev_aload_n 0 dX12_nearestGetter_10 rfl rfl ?_
      refine xv_getF (a := iM_balance) cl_12 lk_RX12_111 kd_61 (xl hF rfl) (fun _ => rfl) (fr_61_49 hF) dX12_nearestGetter_11 ?_
      refine ev_iload_n 2 dX12_nearestGetter_14 rfl rfl ?_
      obtain ⟨v4, hv4, h⟩ := xbd_some h
      refine xv_iald kd_95 (xl hF rfl) hv4 dX12_nearestGetter_15 ?_
      refine ev_if_ge (tgt := 53) dX12_nearestGetter_16 (by decide) (fun c16 => ?_) (fun c16 => ?_)
      · replace h := xif_t c16 h
        obtain ⟨x5, hx5, h⟩ := xlt_some h
        refine ev_iinc (L' := [(2, .int x5), (0, .ref (E.2.2.2 + iM)), (1, .int x1)]) 2 dX12_nearestGetter_53 rfl ((by rfl : x2 + Int32.ofInt 1 = x2 + 1).trans hx5) (Nat.le_of_ble_eq_true rfl) rfl ?_
        refine ev_goto (tgt := 4) dX12_nearestGetter_56 (by decide) ?_
        cases h
        replace hk := xel_l hk
        exact ev_sub [1, 2, 0] rfl (hk)
      · replace h := xif_f c16 h
        refine ev_aload_n 0 dX12_nearestGetter_19 rfl rfl ?_
        refine xv_getF (a := iM_way) cl_12 lk_RX12_114 kd_61 (xl hF rfl) (fun _ => rfl) (fr_61_50 hF) dX12_nearestGetter_20 ?_
        refine ev_iload_n 2 dX12_nearestGetter_23 rfl rfl ?_
        obtain ⟨v6, hv6, h⟩ := xbd_some h
        refine xv_iald kd_96 (xl hF rfl) hv6 dX12_nearestGetter_24 ?_
        refine ev_sipush (v := 1000) dX12_nearestGetter_25 (by decide) ?_
        refine ev_icmp_ge (tgt := 53) dX12_nearestGetter_28 (by decide) (fun c28 => ?_) (fun c28 => ?_)
        · replace h := xif_t c28 h
          obtain ⟨x7, hx7, h⟩ := xlt_some h
          refine ev_iinc (L' := [(2, .int x7), (0, .ref (E.2.2.2 + iM)), (1, .int x1)]) 2 dX12_nearestGetter_53 rfl ((by rfl : x2 + Int32.ofInt 1 = x2 + 1).trans hx7) (Nat.le_of_ble_eq_true rfl) rfl ?_
          refine ev_goto (tgt := 4) dX12_nearestGetter_56 (by decide) ?_
          cases h
          replace hk := xel_l hk
          exact ev_sub [1, 2, 0] rfl (hk)
        · replace h := xif_f c28 h
          refine ev_iload_n 1 dX12_nearestGetter_31 rfl rfl ?_
          refine ev_iconst (v := (-1)) dX12_nearestGetter_32 (by decide) ?_
          refine ev_icmp_eq (tgt := 51) dX12_nearestGetter_33 (by decide) (fun c33 => ?_) (fun c33 => ?_)
          · replace h := xif_t c33 h
            refine ev_iload_n 2 dX12_nearestGetter_51 rfl rfl ?_
            refine xv_istore_n (L' := [(1, .int x2), (0, .ref (E.2.2.2 + iM)), (2, .int x2)]) rfl dX12_nearestGetter_52 rfl (Nat.le_of_ble_eq_true rfl) rfl ?_
            obtain ⟨x8, hx8, h⟩ := xlt_some h
            refine ev_iinc (L' := [(2, .int x8), (1, .int x2), (0, .ref (E.2.2.2 + iM))]) 2 dX12_nearestGetter_53 rfl ((by rfl : x2 + Int32.ofInt 1 = x2 + 1).trans hx8) (Nat.le_of_ble_eq_true rfl) rfl ?_
            refine ev_goto (tgt := 4) dX12_nearestGetter_56 (by decide) ?_
            cases h
            replace hk := xel_l hk
            exact ev_sub [2, 1, 0] rfl (hk)
          · replace h := xif_f c33 h
            refine ev_aload_n 0 dX12_nearestGetter_36 rfl rfl ?_
            refine xv_getF (a := iM_way) cl_12 lk_RX12_114 kd_61 (xl hF rfl) (fun _ => rfl) (fr_61_50 hF) dX12_nearestGetter_37 ?_
            refine ev_iload_n 2 dX12_nearestGetter_40 rfl rfl ?_
            obtain ⟨v9, hv9, h⟩ := xbd_some h
            refine xv_iald kd_96 (xl hF rfl) hv9 dX12_nearestGetter_41 ?_
            refine ev_aload_n 0 dX12_nearestGetter_42 rfl rfl ?_
            refine xv_getF (a := iM_way) cl_12 lk_RX12_114 kd_61 (xl hF rfl) (fun _ => rfl) (fr_61_50 hF) dX12_nearestGetter_43 ?_
            refine ev_iload_n 1 dX12_nearestGetter_46 rfl rfl ?_
            obtain ⟨v10, hv10, h⟩ := xbd_some h
            refine xv_iald kd_96 (xl hF rfl) hv10 dX12_nearestGetter_47 ?_
            refine ev_icmp_ge (tgt := 53) dX12_nearestGetter_48 (by decide) (fun c48 => ?_) (fun c48 => ?_)
            · replace h := xif_t c48 h
              obtain ⟨x11, hx11, h⟩ := xlt_some h
              refine ev_iinc (L' := [(2, .int x11), (0, .ref (E.2.2.2 + iM)), (1, .int x1)]) 2 dX12_nearestGetter_53 rfl ((by rfl : x2 + Int32.ofInt 1 = x2 + 1).trans hx11) (Nat.le_of_ble_eq_true rfl) rfl ?_
              refine ev_goto (tgt := 4) dX12_nearestGetter_56 (by decide) ?_
              cases h
              replace hk := xel_l hk
              exact ev_sub [1, 2, 0] rfl (hk)
            · replace h := xif_f c48 h
              refine ev_iload_n 2 dX12_nearestGetter_51 rfl rfl ?_
              refine xv_istore_n (L' := [(1, .int x2), (0, .ref (E.2.2.2 + iM)), (2, .int x2)]) rfl dX12_nearestGetter_52 rfl (Nat.le_of_ble_eq_true rfl) rfl ?_
              obtain ⟨x12, hx12, h⟩ := xlt_some h
              refine ev_iinc (L' := [(2, .int x12), (1, .int x2), (0, .ref (E.2.2.2 + iM))]) 2 dX12_nearestGetter_53 rfl ((by rfl : x2 + Int32.ofInt 1 = x2 + 1).trans hx12) (Nat.le_of_ble_eq_true rfl) rfl ?_
              refine ev_goto (tgt := 4) dX12_nearestGetter_56 (by decide) ?_
              cases h
              replace hk := xel_l hk
              exact ev_sub [2, 1, 0] rfl (hk)
  · show Ev E (xcm E d 0 0 QQ) Y_X12_nearestGetter 59 [(1, .int q13)] [] (xσ μ R) n 0 0
    refine ev_iload_n 0 dX12_nearestGetter_59 rfl rfl ?_
    cases h
    exact ev_iret rfl (hQ) dX12_nearestGetter_60 (Nat.zero_le _) (Nat.zero_le _)
def fX12_noteNumber (p0 : Int32) (p1 : Int32) (μ : xm) : Option (Int32) := if p1 = 0 then (some p0) else (if p1 = 1 then (xbd (xgI μ iM_owesIt 60 p0) fun v3 => some v3) else (if p1 = 2 then (xbd (xgI μ iM_hasIt 60 p0) fun v2 => some v2) else (xbd (xgI μ iM_leftOf 60 p0) fun v1 => some v1)))
set_option maxHeartbeats 4000000 in
set_option maxRecDepth 100000 in
theorem kX12_noteNumber {E : xE} {d : Nat} {QQ : xP} (hd : 0 ≤ d) {p0 : Int32} {p1 : Int32} {μ : xm} {R : xr} {n : Nat} (hF : xFin R n)  {res : Int32} (h : fX12_noteNumber p0 p1 μ = some res) (hQ : QQ (some (.int res)) (xσ μ R) n) : xCon E d Y_X12_noteNumber 0 0 [.ref (E.2.2.2 + iM), .int p0, .int p1] (xσ μ R) n QQ := by
  refine xCon_of pn_RX12 (Nat.le_of_ble_eq_true rfl) (L0 := [(0, .ref (E.2.2.2 + iM)), (1, .int p0), (2, .int p1)]) rfl ?_
  unfold fX12_noteNumber at h
  refine ev_iload_n 2 dX12_noteNumber_0 rfl rfl ?_
  refine ev_if_ne (tgt := 8) dX12_noteNumber_1 (by decide) (fun c1 => ?_) (fun c1 => ?_)
  · replace h := xif_f c1 h
    refine ev_iload_n 2 dX12_noteNumber_8 rfl rfl ?_
    refine ev_iconst (v := 1) dX12_noteNumber_9 (by decide) ?_
    refine ev_icmp_ne (tgt := 22) dX12_noteNumber_10 (by decide) (fun c10 => ?_) (fun c10 => ?_)
    · replace h := xif_f c10 h
      refine ev_iload_n 2 dX12_noteNumber_22 rfl rfl ?_
      refine ev_iconst (v := 2) dX12_noteNumber_23 (by decide) ?_
      refine ev_icmp_ne (tgt := 36) dX12_noteNumber_24 (by decide) (fun c24 => ?_) (fun c24 => ?_)
      · replace h := xif_f c24 h
        refine ev_aload_n 0 dX12_noteNumber_36 rfl rfl ?_
        refine xv_getF (a := iM_leftOf) cl_12 lk_RX12_84 kd_61 (xl hF rfl) (fun _ => rfl) (fr_61_40 hF) dX12_noteNumber_37 ?_
        refine ev_iload_n 1 dX12_noteNumber_40 rfl rfl ?_
        obtain ⟨v1, hv1, h⟩ := xbd_some h
        refine xv_iald kd_86 (xl hF rfl) hv1 dX12_noteNumber_41 ?_
        cases h
        exact ev_iret rfl (hQ) dX12_noteNumber_42 (Nat.zero_le _) (Nat.zero_le _)
      · replace h := xif_t c24 h
        refine ev_aload_n 0 dX12_noteNumber_27 rfl rfl ?_
        refine xv_getF (a := iM_hasIt) cl_12 lk_RX12_81 kd_61 (xl hF rfl) (fun _ => rfl) (fr_61_39 hF) dX12_noteNumber_28 ?_
        refine ev_iload_n 1 dX12_noteNumber_31 rfl rfl ?_
        obtain ⟨v2, hv2, h⟩ := xbd_some h
        refine xv_iald kd_85 (xl hF rfl) hv2 dX12_noteNumber_32 ?_
        refine ev_goto (tgt := 42) dX12_noteNumber_33 (by decide) ?_
        cases h
        exact ev_iret rfl (hQ) dX12_noteNumber_42 (Nat.zero_le _) (Nat.zero_le _)
    · replace h := xif_t c10 h
      refine ev_aload_n 0 dX12_noteNumber_13 rfl rfl ?_
      refine xv_getF (a := iM_owesIt) cl_12 lk_RX12_78 kd_61 (xl hF rfl) (fun _ => rfl) (fr_61_38 hF) dX12_noteNumber_14 ?_
      refine ev_iload_n 1 dX12_noteNumber_17 rfl rfl ?_
      obtain ⟨v3, hv3, h⟩ := xbd_some h
      refine xv_iald kd_84 (xl hF rfl) hv3 dX12_noteNumber_18 ?_
      refine ev_goto (tgt := 42) dX12_noteNumber_19 (by decide) ?_
      cases h
      exact ev_iret rfl (hQ) dX12_noteNumber_42 (Nat.zero_le _) (Nat.zero_le _)
  · replace h := xif_t c1 h
    refine ev_iload_n 1 dX12_noteNumber_4 rfl rfl ?_
    refine ev_goto (tgt := 42) dX12_noteNumber_5 (by decide) ?_
    cases h
    exact ev_iret rfl (hQ) dX12_noteNumber_42 (Nat.zero_le _) (Nat.zero_le _)
def fX12_notes (p0 : Int32) (p1 : Int32) (μ : xm) : Option (xm) := xbd (xsI μ iM_said 220 (μ.1 iM 16) ((1048576 * p0) + p1)) fun μ1 => xlt (xpI μ1 iM 16 ((μ1.1 iM 16) + 1)) fun μ2 => some μ2
set_option maxHeartbeats 4000000 in
set_option maxRecDepth 100000 in
theorem kX12_notes {E : xE} {d : Nat} {QQ : xP} (hd : 0 ≤ d) {p0 : Int32} {p1 : Int32} {μ : xm} {R : xr} {n : Nat} (hF : xFin R n)  {res : xm} (h : fX12_notes p0 p1 μ = some res) (hQ : QQ none (xσ res R) n) : xCon E d Y_X12_notes 0 0 [.ref (E.2.2.2 + iM), .int p0, .int p1] (xσ μ R) n QQ := by
  refine xCon_of pn_RX12 (Nat.le_of_ble_eq_true rfl) (L0 := [(0, .ref (E.2.2.2 + iM)), (1, .int p0), (2, .int p1)]) rfl ?_
  unfold fX12_notes at h
  refine ev_aload_n 0 dX12_notes_0 rfl rfl ?_
  refine xv_getF (a := iM_said) cl_12 lk_RX12_33 kd_61 (xl hF rfl) (fun _ => rfl) (fr_61_21 hF) dX12_notes_1 ?_
  refine ev_aload_n 0 dX12_notes_4 rfl rfl ?_
  refine xv_getI cl_12 lk_RX12_233 kd_61 (xl hF rfl) (fun _ => rfl) dX12_notes_5 ?_
  refine ev_ldc (v := 1048576) m_1554 dX12_notes_8 ?_
  refine ev_iload_n 1 dX12_notes_10 rfl rfl ?_
  refine ev_imul dX12_notes_11 ?_
  refine ev_iload_n 2 dX12_notes_12 rfl rfl ?_
  refine ev_iadd dX12_notes_13 ?_
  obtain ⟨μ1, hμ1, h⟩ := xbd_some h
  refine xv_iast kd_69 (xl hF rfl) hμ1 dX12_notes_14 ?_
  refine ev_aload_n 0 dX12_notes_15 rfl rfl ?_
  refine ev_aload_n 0 dX12_notes_16 rfl rfl ?_
  refine xv_getI cl_12 lk_RX12_233 kd_61 (xl hF rfl) (fun _ => rfl) dX12_notes_17 ?_
  refine ev_iconst (v := 1) dX12_notes_20 (by decide) ?_
  refine ev_iadd dX12_notes_21 ?_
  obtain ⟨μ2, hμ2, h⟩ := xlt_some h
  refine xv_putI cl_12 lk_RX12_233 rfl kd_61 (xl hF rfl) rfl rfl (fun _ => rfl) hμ2 dX12_notes_22 ?_
  cases h
  exact ev_vret rfl (hQ) dX12_notes_25 (Nat.zero_le _) (Nat.zero_le _)
def fX12_reckon (p0 : Int32) (p1 : Int32) (p2 : Int32) : Option (Int32) := if p0 = 2 then (some (p1 + p2)) else (if p0 = 3 then (some (p1 - p2)) else (if p0 = 4 then (some (p1 * p2)) else (if p0 = 5 then (xbd (xdiv p1 p2) fun v1 => some v1) else (if p0 = 6 then (xbd (xrem p1 p2) fun v2 => some v2) else (if p0 = 7 then (if p2 ≤ p1 then (some 0) else (some 1)) else (if p0 = 8 then (if p1 ≤ p2 then (some 0) else (some 1)) else (if p1 = p2 then (some 1) else (some 0))))))))
set_option maxHeartbeats 4000000 in
set_option maxRecDepth 100000 in
theorem kX12_reckon {E : xE} {d : Nat} {QQ : xP} (hd : 0 ≤ d) {p0 : Int32} {p1 : Int32} {p2 : Int32} {μ : xm} {R : xr} {n : Nat}  {res : Int32} (h : fX12_reckon p0 p1 p2 = some res) (hQ : QQ (some (.int res)) (xσ μ R) n) : xCon E d Y_X12_reckon 0 0 [.int p0, .int p1, .int p2] (xσ μ R) n QQ := by
  refine xCon_of pn_RX12 (Nat.le_of_ble_eq_true rfl) (L0 := [(0, .int p0), (1, .int p1), (2, .int p2)]) rfl ?_
  unfold fX12_reckon at h
  refine ev_iload_n 0 dX12_reckon_0 rfl rfl ?_
  by_cases c1_0 : p0 = 2
  · replace h := xif_t c1_0 h
    refine ev_switch (tgt := 44) (off := 43) dX12_reckon_1 (xsw_in (v := 2) (by rw [c1_0]; rfl) (by decide +kernel)) (by decide) ?_
    refine ev_iload_n 1 dX12_reckon_44 rfl rfl ?_
    refine ev_iload_n 2 dX12_reckon_45 rfl rfl ?_
    refine ev_iadd dX12_reckon_46 ?_
    cases h
    exact ev_iret rfl (hQ) dX12_reckon_47 (Nat.zero_le _) (Nat.zero_le _)
  · replace h := xif_f c1_0 h
    by_cases c1_1 : p0 = 3
    · replace h := xif_t c1_1 h
      refine ev_switch (tgt := 48) (off := 47) dX12_reckon_1 (xsw_in (v := 3) (by rw [c1_1]; rfl) (by decide +kernel)) (by decide) ?_
      refine ev_iload_n 1 dX12_reckon_48 rfl rfl ?_
      refine ev_iload_n 2 dX12_reckon_49 rfl rfl ?_
      refine ev_isub dX12_reckon_50 ?_
      cases h
      exact ev_iret rfl (hQ) dX12_reckon_51 (Nat.zero_le _) (Nat.zero_le _)
    · replace h := xif_f c1_1 h
      by_cases c1_2 : p0 = 4
      · replace h := xif_t c1_2 h
        refine ev_switch (tgt := 52) (off := 51) dX12_reckon_1 (xsw_in (v := 4) (by rw [c1_2]; rfl) (by decide +kernel)) (by decide) ?_
        refine ev_iload_n 1 dX12_reckon_52 rfl rfl ?_
        refine ev_iload_n 2 dX12_reckon_53 rfl rfl ?_
        refine ev_imul dX12_reckon_54 ?_
        cases h
        exact ev_iret rfl (hQ) dX12_reckon_55 (Nat.zero_le _) (Nat.zero_le _)
      · replace h := xif_f c1_2 h
        by_cases c1_3 : p0 = 5
        · replace h := xif_t c1_3 h
          refine ev_switch (tgt := 56) (off := 55) dX12_reckon_1 (xsw_in (v := 5) (by rw [c1_3]; rfl) (by decide +kernel)) (by decide) ?_
          refine ev_iload_n 1 dX12_reckon_56 rfl rfl ?_
          refine ev_iload_n 2 dX12_reckon_57 rfl rfl ?_
          obtain ⟨v1, hv1, h⟩ := xbd_some h
          refine xv_idiv hv1 dX12_reckon_58 ?_
          cases h
          exact ev_iret rfl (hQ) dX12_reckon_59 (Nat.zero_le _) (Nat.zero_le _)
        · replace h := xif_f c1_3 h
          by_cases c1_4 : p0 = 6
          · replace h := xif_t c1_4 h
            refine ev_switch (tgt := 60) (off := 59) dX12_reckon_1 (xsw_in (v := 6) (by rw [c1_4]; rfl) (by decide +kernel)) (by decide) ?_
            refine ev_iload_n 1 dX12_reckon_60 rfl rfl ?_
            refine ev_iload_n 2 dX12_reckon_61 rfl rfl ?_
            obtain ⟨v2, hv2, h⟩ := xbd_some h
            refine xv_irem hv2 dX12_reckon_62 ?_
            cases h
            exact ev_iret rfl (hQ) dX12_reckon_63 (Nat.zero_le _) (Nat.zero_le _)
          · replace h := xif_f c1_4 h
            by_cases c1_5 : p0 = 7
            · replace h := xif_t c1_5 h
              refine ev_switch (tgt := 64) (off := 63) dX12_reckon_1 (xsw_in (v := 7) (by rw [c1_5]; rfl) (by decide +kernel)) (by decide) ?_
              refine ev_iload_n 1 dX12_reckon_64 rfl rfl ?_
              refine ev_iload_n 2 dX12_reckon_65 rfl rfl ?_
              refine ev_icmp_ge (tgt := 73) dX12_reckon_66 (by decide) (fun c66 => ?_) (fun c66 => ?_)
              · replace h := xif_t c66 h
                refine ev_iconst (v := 0) dX12_reckon_73 (by decide) ?_
                cases h
                exact ev_iret rfl (hQ) dX12_reckon_74 (Nat.zero_le _) (Nat.zero_le _)
              · replace h := xif_f c66 h
                refine ev_iconst (v := 1) dX12_reckon_69 (by decide) ?_
                refine ev_goto (tgt := 74) dX12_reckon_70 (by decide) ?_
                cases h
                exact ev_iret rfl (hQ) dX12_reckon_74 (Nat.zero_le _) (Nat.zero_le _)
            · replace h := xif_f c1_5 h
              by_cases c1_6 : p0 = 8
              · replace h := xif_t c1_6 h
                refine ev_switch (tgt := 75) (off := 74) dX12_reckon_1 (xsw_in (v := 8) (by rw [c1_6]; rfl) (by decide +kernel)) (by decide) ?_
                refine ev_iload_n 1 dX12_reckon_75 rfl rfl ?_
                refine ev_iload_n 2 dX12_reckon_76 rfl rfl ?_
                refine ev_icmp_le (tgt := 84) dX12_reckon_77 (by decide) (fun c77 => ?_) (fun c77 => ?_)
                · replace h := xif_t c77 h
                  refine ev_iconst (v := 0) dX12_reckon_84 (by decide) ?_
                  cases h
                  exact ev_iret rfl (hQ) dX12_reckon_85 (Nat.zero_le _) (Nat.zero_le _)
                · replace h := xif_f c77 h
                  refine ev_iconst (v := 1) dX12_reckon_80 (by decide) ?_
                  refine ev_goto (tgt := 85) dX12_reckon_81 (by decide) ?_
                  cases h
                  exact ev_iret rfl (hQ) dX12_reckon_85 (Nat.zero_le _) (Nat.zero_le _)
              · replace h := xif_f c1_6 h
                refine ev_switch (tgt := 86) (off := 85) dX12_reckon_1 (xsw_out [2, 3, 4, 5, 6, 7, 8] (List.forall_mem_cons.mpr ⟨(xne (c := 2) rfl c1_0), (List.forall_mem_cons.mpr ⟨(xne (c := 3) rfl c1_1), (List.forall_mem_cons.mpr ⟨(xne (c := 4) rfl c1_2), (List.forall_mem_cons.mpr ⟨(xne (c := 5) rfl c1_3), (List.forall_mem_cons.mpr ⟨(xne (c := 6) rfl c1_4), (List.forall_mem_cons.mpr ⟨(xne (c := 7) rfl c1_5), (List.forall_mem_cons.mpr ⟨(xne (c := 8) rfl c1_6), (fun _ e => absurd e List.not_mem_nil)⟩)⟩)⟩)⟩)⟩)⟩)⟩) (by decide +kernel)) (by decide) ?_
                refine ev_iload_n 1 dX12_reckon_86 rfl rfl ?_
                refine ev_iload_n 2 dX12_reckon_87 rfl rfl ?_
                refine ev_icmp_ne (tgt := 95) dX12_reckon_88 (by decide) (fun c88 => ?_) (fun c88 => ?_)
                · replace h := xif_f c88 h
                  refine ev_iconst (v := 0) dX12_reckon_95 (by decide) ?_
                  cases h
                  exact ev_iret rfl (hQ) dX12_reckon_96 (Nat.zero_le _) (Nat.zero_le _)
                · replace h := xif_t c88 h
                  refine ev_iconst (v := 1) dX12_reckon_91 (by decide) ?_
                  refine ev_goto (tgt := 96) dX12_reckon_92 (by decide) ?_
                  cases h
                  exact ev_iret rfl (hQ) dX12_reckon_96 (Nat.zero_le _) (Nat.zero_le _)
def fX12_stepOn (p0 : Int32) (p1 : Int32) (μ : xm) : Option (Int32) := xbd (xgI μ iM_least0 64 ((8 * p1) + p0)) fun v1 => if v1 ≤ 0 then (xbd (xgI μ iM_most0 64 ((8 * p0) + p1)) fun v2 => xbd (xgI μ iM_least0 64 ((8 * p0) + p1)) fun v3 => some (v2 - v3)) else (xbd (xgI μ iM_least0 64 ((8 * p1) + p0)) fun v4 => some v4)
set_option maxHeartbeats 4000000 in
set_option maxRecDepth 100000 in
theorem kX12_stepOn {E : xE} {d : Nat} {QQ : xP} (hd : 0 ≤ d) {p0 : Int32} {p1 : Int32} {μ : xm} {R : xr} {n : Nat} (hF : xFin R n)  {res : Int32} (h : fX12_stepOn p0 p1 μ = some res) (hQ : QQ (some (.int res)) (xσ μ R) n) : xCon E d Y_X12_stepOn 0 0 [.ref (E.2.2.2 + iM), .int p0, .int p1] (xσ μ R) n QQ := by
  refine xCon_of pn_RX12 (Nat.le_of_ble_eq_true rfl) (L0 := [(0, .ref (E.2.2.2 + iM)), (1, .int p0), (2, .int p1)]) rfl ?_
  unfold fX12_stepOn at h
  refine ev_aload_n 0 dX12_stepOn_0 rfl rfl ?_
  refine xv_getF (a := iM_least0) cl_12 lk_RX12_105 kd_61 (xl hF rfl) (fun _ => rfl) (fr_61_47 hF) dX12_stepOn_1 ?_
  refine ev_bipush (v := 8) dX12_stepOn_4 (by decide) ?_
  refine ev_iload_n 2 dX12_stepOn_6 rfl rfl ?_
  refine ev_imul dX12_stepOn_7 ?_
  refine ev_iload_n 1 dX12_stepOn_8 rfl rfl ?_
  refine ev_iadd dX12_stepOn_9 ?_
  obtain ⟨v1, hv1, h⟩ := xbd_some h
  refine xv_iald kd_93 (xl hF rfl) hv1 dX12_stepOn_10 ?_
  refine ev_if_le (tgt := 28) dX12_stepOn_11 (by decide) (fun c11 => ?_) (fun c11 => ?_)
  · replace h := xif_t c11 h
    refine ev_aload_n 0 dX12_stepOn_28 rfl rfl ?_
    refine xv_getF (a := iM_most0) cl_12 lk_RX12_108 kd_61 (xl hF rfl) (fun _ => rfl) (fr_61_48 hF) dX12_stepOn_29 ?_
    refine ev_bipush (v := 8) dX12_stepOn_32 (by decide) ?_
    refine ev_iload_n 1 dX12_stepOn_34 rfl rfl ?_
    refine ev_imul dX12_stepOn_35 ?_
    refine ev_iload_n 2 dX12_stepOn_36 rfl rfl ?_
    refine ev_iadd dX12_stepOn_37 ?_
    obtain ⟨v2, hv2, h⟩ := xbd_some h
    refine xv_iald kd_94 (xl hF rfl) hv2 dX12_stepOn_38 ?_
    refine ev_aload_n 0 dX12_stepOn_39 rfl rfl ?_
    refine xv_getF (a := iM_least0) cl_12 lk_RX12_105 kd_61 (xl hF rfl) (fun _ => rfl) (fr_61_47 hF) dX12_stepOn_40 ?_
    refine ev_bipush (v := 8) dX12_stepOn_43 (by decide) ?_
    refine ev_iload_n 1 dX12_stepOn_45 rfl rfl ?_
    refine ev_imul dX12_stepOn_46 ?_
    refine ev_iload_n 2 dX12_stepOn_47 rfl rfl ?_
    refine ev_iadd dX12_stepOn_48 ?_
    obtain ⟨v3, hv3, h⟩ := xbd_some h
    refine xv_iald kd_93 (xl hF rfl) hv3 dX12_stepOn_49 ?_
    refine ev_isub dX12_stepOn_50 ?_
    cases h
    exact ev_iret rfl (hQ) dX12_stepOn_51 (Nat.zero_le _) (Nat.zero_le _)
  · replace h := xif_f c11 h
    refine ev_aload_n 0 dX12_stepOn_14 rfl rfl ?_
    refine xv_getF (a := iM_least0) cl_12 lk_RX12_105 kd_61 (xl hF rfl) (fun _ => rfl) (fr_61_47 hF) dX12_stepOn_15 ?_
    refine ev_bipush (v := 8) dX12_stepOn_18 (by decide) ?_
    refine ev_iload_n 2 dX12_stepOn_20 rfl rfl ?_
    refine ev_imul dX12_stepOn_21 ?_
    refine ev_iload_n 1 dX12_stepOn_22 rfl rfl ?_
    refine ev_iadd dX12_stepOn_23 ?_
    obtain ⟨v4, hv4, h⟩ := xbd_some h
    refine xv_iald kd_93 (xl hF rfl) hv4 dX12_stepOn_24 ?_
    refine ev_goto (tgt := 51) dX12_stepOn_25 (by decide) ?_
    cases h
    exact ev_iret rfl (hQ) dX12_stepOn_51 (Nat.zero_le _) (Nat.zero_le _)
def fX12_sumSign (p0 : Int32) : Option (Int32) := if p0 = 43 then (some 2) else (if p0 = 45 then (some 3) else (if p0 = 42 then (some 4) else (if p0 = 47 then (some 5) else (if p0 = 37 then (some 6) else (some (-1))))))
set_option maxHeartbeats 4000000 in
set_option maxRecDepth 100000 in
theorem kX12_sumSign {E : xE} {d : Nat} {QQ : xP} (hd : 0 ≤ d) {p0 : Int32} {μ : xm} {R : xr} {n : Nat}  {res : Int32} (h : fX12_sumSign p0 = some res) (hQ : QQ (some (.int res)) (xσ μ R) n) : xCon E d Y_X12_sumSign 0 0 [.int p0] (xσ μ R) n QQ := by
  refine xCon_of pn_RX12 (Nat.le_of_ble_eq_true rfl) (L0 := [(0, .int p0)]) rfl ?_
  unfold fX12_sumSign at h
  refine ev_iload_n 0 dX12_sumSign_0 rfl rfl ?_
  refine ev_bipush (v := 43) dX12_sumSign_1 (by decide) ?_
  refine ev_icmp_ne (tgt := 10) dX12_sumSign_3 (by decide) (fun c3 => ?_) (fun c3 => ?_)
  · replace h := xif_f c3 h
    refine ev_iload_n 0 dX12_sumSign_10 rfl rfl ?_
    refine ev_bipush (v := 45) dX12_sumSign_11 (by decide) ?_
    refine ev_icmp_ne (tgt := 20) dX12_sumSign_13 (by decide) (fun c13 => ?_) (fun c13 => ?_)
    · replace h := xif_f c13 h
      refine ev_iload_n 0 dX12_sumSign_20 rfl rfl ?_
      refine ev_bipush (v := 42) dX12_sumSign_21 (by decide) ?_
      refine ev_icmp_ne (tgt := 30) dX12_sumSign_23 (by decide) (fun c23 => ?_) (fun c23 => ?_)
      · replace h := xif_f c23 h
        refine ev_iload_n 0 dX12_sumSign_30 rfl rfl ?_
        refine ev_bipush (v := 47) dX12_sumSign_31 (by decide) ?_
        refine ev_icmp_ne (tgt := 40) dX12_sumSign_33 (by decide) (fun c33 => ?_) (fun c33 => ?_)
        · replace h := xif_f c33 h
          refine ev_iload_n 0 dX12_sumSign_40 rfl rfl ?_
          refine ev_bipush (v := 37) dX12_sumSign_41 (by decide) ?_
          refine ev_icmp_ne (tgt := 51) dX12_sumSign_43 (by decide) (fun c43 => ?_) (fun c43 => ?_)
          · replace h := xif_f c43 h
            refine ev_iconst (v := (-1)) dX12_sumSign_51 (by decide) ?_
            cases h
            exact ev_iret rfl (hQ) dX12_sumSign_52 (Nat.zero_le _) (Nat.zero_le _)
          · replace h := xif_t c43 h
            refine ev_bipush (v := 6) dX12_sumSign_46 (by decide) ?_
            refine ev_goto (tgt := 52) dX12_sumSign_48 (by decide) ?_
            cases h
            exact ev_iret rfl (hQ) dX12_sumSign_52 (Nat.zero_le _) (Nat.zero_le _)
        · replace h := xif_t c33 h
          refine ev_iconst (v := 5) dX12_sumSign_36 (by decide) ?_
          refine ev_goto (tgt := 52) dX12_sumSign_37 (by decide) ?_
          cases h
          exact ev_iret rfl (hQ) dX12_sumSign_52 (Nat.zero_le _) (Nat.zero_le _)
      · replace h := xif_t c23 h
        refine ev_iconst (v := 4) dX12_sumSign_26 (by decide) ?_
        refine ev_goto (tgt := 52) dX12_sumSign_27 (by decide) ?_
        cases h
        exact ev_iret rfl (hQ) dX12_sumSign_52 (Nat.zero_le _) (Nat.zero_le _)
    · replace h := xif_t c13 h
      refine ev_iconst (v := 3) dX12_sumSign_16 (by decide) ?_
      refine ev_goto (tgt := 52) dX12_sumSign_17 (by decide) ?_
      cases h
      exact ev_iret rfl (hQ) dX12_sumSign_52 (Nat.zero_le _) (Nat.zero_le _)
  · replace h := xif_t c3 h
    refine ev_iconst (v := 2) dX12_sumSign_6 (by decide) ?_
    refine ev_goto (tgt := 52) dX12_sumSign_7 (by decide) ?_
    cases h
    exact ev_iret rfl (hQ) dX12_sumSign_52 (Nat.zero_le _) (Nat.zero_le _)
def fX12_tapeNumber_b6 (x2 : Int32) (x3 : Int32) (p0 : Int32) (μ : xm) : Option ((Int32 × Int32) ⊕ (Int32)) := if ((4 * p0) + 4) ≤ x3 then (some (.inr x2)) else (xbd (xgI μ iM_tape 400 x3) fun v5 => xlt ((x2 <<< ((8 : Int32) &&& 31)) ||| (v5 &&& 255)) fun x6 => xlt (x3 + 1) fun x7 => some (.inl (x6, x7)))
def fX12_tapeNumber (p0 : Int32) (μ : xm) : Option (Int32) := xlt (4 * p0) fun x1 => xbd (xloop xfu (fun v => fX12_tapeNumber_b6 v.1 v.2 p0 μ) (0, x1)) fun q8 => some q8
set_option maxHeartbeats 4000000 in
set_option maxRecDepth 100000 in
theorem kX12_tapeNumber {E : xE} {d : Nat} {QQ : xP} (hd : 0 ≤ d) {p0 : Int32} {μ : xm} {R : xr} {n : Nat} (hF : xFin R n)  {res : Int32} (h : fX12_tapeNumber p0 μ = some res) (hQ : QQ (some (.int res)) (xσ μ R) n) : xCon E d Y_X12_tapeNumber 0 0 [.ref (E.2.2.2 + iM), .int p0] (xσ μ R) n QQ := by
  refine xCon_of pn_RX12 (Nat.le_of_ble_eq_true rfl) (L0 := [(0, .ref (E.2.2.2 + iM)), (1, .int p0)]) rfl ?_
  unfold fX12_tapeNumber at h
  refine ev_iconst (v := 0) dX12_tapeNumber_0 (by decide) ?_
  refine xv_istore_n (L' := [(2, .int 0), (0, .ref (E.2.2.2 + iM)), (1, .int p0)]) rfl dX12_tapeNumber_1 rfl (Nat.le_of_ble_eq_true rfl) rfl ?_
  refine ev_iconst (v := 4) dX12_tapeNumber_2 (by decide) ?_
  refine ev_iload_n 2 dX12_tapeNumber_3 rfl rfl ?_
  refine ev_imul dX12_tapeNumber_4 ?_
  obtain ⟨x1, hx1, h⟩ := xlt_some h
  refine xv_istore_n (L' := [(3, .int x1), (2, .int 0), (0, .ref (E.2.2.2 + iM)), (1, .int p0)]) hx1 dX12_tapeNumber_5 rfl (Nat.le_of_ble_eq_true rfl) rfl ?_
  obtain ⟨q8, hq8, h⟩ := xbd_some h
  refine ev_sub (L' := [(0, .ref (E.2.2.2 + iM)), (1, .int p0), (2, .int 0), (3, .int x1)]) [2, 3, 1, 0] rfl ?_
  refine xloop_run (fun v => Ev E (xcm E d 0 0 QQ) Y_X12_tapeNumber 6 [(0, .ref (E.2.2.2 + iM)), (1, .int p0), (2, .int v.1), (3, .int v.2)] [] (xσ μ R) n 0 0) (fun v => Ev E (xcm E d 0 0 QQ) Y_X12_tapeNumber 37 [(2, .int v)] [] (xσ μ R) n 0 0) ?_ _ _ _ hq8 ?_
  · rintro ⟨x2, x3⟩ y4 h hk
    replace h : fX12_tapeNumber_b6 x2 x3 p0 μ = some y4 := h
    show Ev E (xcm E d 0 0 QQ) Y_X12_tapeNumber 6 [(0, .ref (E.2.2.2 + iM)), (1, .int p0), (2, .int x2), (3, .int x3)] [] (xσ μ R) n 0 0
    unfold fX12_tapeNumber_b6 at h
    refine ev_iload_n 3 dX12_tapeNumber_6 rfl rfl ?_
    refine ev_iconst (v := 4) dX12_tapeNumber_7 (by decide) ?_
    refine ev_iload_n 1 dX12_tapeNumber_8 rfl rfl ?_
    refine ev_imul dX12_tapeNumber_9 ?_
    refine ev_iconst (v := 4) dX12_tapeNumber_10 (by decide) ?_
    refine ev_iadd dX12_tapeNumber_11 ?_
    refine ev_icmp_ge (tgt := 37) dX12_tapeNumber_12 (by decide) (fun c12 => ?_) (fun c12 => ?_)
    · replace h := xif_t c12 h
      cases h
      replace hk := xel_r hk
      exact ev_sub [2] rfl (hk)
    · replace h := xif_f c12 h
      refine ev_iload_n 2 dX12_tapeNumber_15 rfl rfl ?_
      refine ev_bipush (v := 8) dX12_tapeNumber_16 (by decide) ?_
      refine ev_ishl dX12_tapeNumber_18 ?_
      refine ev_aload_n 0 dX12_tapeNumber_19 rfl rfl ?_
      refine xv_getF (a := iM_tape) cl_12 lk_RX12_29 kd_61 (xl hF rfl) (fun _ => rfl) (fr_61_10 hF) dX12_tapeNumber_20 ?_
      refine ev_iload_n 3 dX12_tapeNumber_23 rfl rfl ?_
      obtain ⟨v5, hv5, h⟩ := xbd_some h
      refine xv_bald kd_68 (xl hF rfl) hv5 dX12_tapeNumber_24 ?_
      refine ev_sipush (v := 255) dX12_tapeNumber_25 (by decide) ?_
      refine ev_iand dX12_tapeNumber_28 ?_
      refine ev_ior dX12_tapeNumber_29 ?_
      obtain ⟨x6, hx6, h⟩ := xlt_some h
      refine xv_istore_n (L' := [(2, .int x6), (0, .ref (E.2.2.2 + iM)), (1, .int p0), (3, .int x3)]) hx6 dX12_tapeNumber_30 rfl (Nat.le_of_ble_eq_true rfl) rfl ?_
      obtain ⟨x7, hx7, h⟩ := xlt_some h
      refine ev_iinc (L' := [(3, .int x7), (2, .int x6), (0, .ref (E.2.2.2 + iM)), (1, .int p0)]) 3 dX12_tapeNumber_31 rfl ((by rfl : x3 + Int32.ofInt 1 = x3 + 1).trans hx7) (Nat.le_of_ble_eq_true rfl) rfl ?_
      refine ev_goto (tgt := 6) dX12_tapeNumber_34 (by decide) ?_
      cases h
      replace hk := xel_l hk
      exact ev_sub [2, 3, 1, 0] rfl (hk)
  · show Ev E (xcm E d 0 0 QQ) Y_X12_tapeNumber 37 [(2, .int q8)] [] (xσ μ R) n 0 0
    refine ev_iload_n 0 dX12_tapeNumber_37 rfl rfl ?_
    cases h
    exact ev_iret rfl (hQ) dX12_tapeNumber_38 (Nat.zero_le _) (Nat.zero_le _)
def fX12_top (μ : xm) : Option (Int32) := if (μ.1 iM 17) = 0 then (some (-1)) else (xbd (xgI μ iM_waits 220 ((μ.1 iM 17) - 1)) fun v1 => some (v1 / 1048576))
set_option maxHeartbeats 4000000 in
set_option maxRecDepth 100000 in
theorem kX12_top {E : xE} {d : Nat} {QQ : xP} (hd : 0 ≤ d)  {μ : xm} {R : xr} {n : Nat} (hF : xFin R n)  {res : Int32} (h : fX12_top μ = some res) (hQ : QQ (some (.int res)) (xσ μ R) n) : xCon E d Y_X12_top 0 0 [.ref (E.2.2.2 + iM)] (xσ μ R) n QQ := by
  refine xCon_of pn_RX12 (Nat.le_of_ble_eq_true rfl) (L0 := [(0, .ref (E.2.2.2 + iM))]) rfl ?_
  unfold fX12_top at h
  refine ev_aload_n 0 dX12_top_0 rfl rfl ?_
  refine xv_getI cl_12 lk_RX12_240 kd_61 (xl hF rfl) (fun _ => rfl) dX12_top_1 ?_
  refine ev_if_ne (tgt := 11) dX12_top_4 (by decide) (fun c4 => ?_) (fun c4 => ?_)
  · replace h := xif_f c4 h
    refine ev_aload_n 0 dX12_top_11 rfl rfl ?_
    refine xv_getF (a := iM_waits) cl_12 lk_RX12_36 kd_61 (xl hF rfl) (fun _ => rfl) (fr_61_22 hF) dX12_top_12 ?_
    refine ev_aload_n 0 dX12_top_15 rfl rfl ?_
    refine xv_getI cl_12 lk_RX12_240 kd_61 (xl hF rfl) (fun _ => rfl) dX12_top_16 ?_
    refine ev_iconst (v := 1) dX12_top_19 (by decide) ?_
    refine ev_isub dX12_top_20 ?_
    obtain ⟨v1, hv1, h⟩ := xbd_some h
    refine xv_iald kd_70 (xl hF rfl) hv1 dX12_top_21 ?_
    refine ev_ldc (v := 1048576) m_1554 dX12_top_22 ?_
    refine ev_idiv dX12_top_24 (by decide) ?_
    cases h
    exact ev_iret rfl (hQ) dX12_top_25 (Nat.zero_le _) (Nat.zero_le _)
  · replace h := xif_t c4 h
    refine ev_iconst (v := (-1)) dX12_top_7 (by decide) ?_
    refine ev_goto (tgt := 25) dX12_top_8 (by decide) ?_
    cases h
    exact ev_iret rfl (hQ) dX12_top_25 (Nat.zero_le _) (Nat.zero_le _)
def fX12_types_b2 (x1 : Int32) (μ2 : xm) (p0 : Int32) : Option ((Int32 × xm) ⊕ (xm)) := if x1 < 0 then (some (.inr μ2)) else (xbd (xsB μ2 iM_tape 400 (μ2.1 iM 11) ((p0 >>> ((8 * x1) &&& 31)).toInt8.toInt32)) fun μ4 => xlt (xpI μ4 iM 11 ((μ4.1 iM 11) + 1)) fun μ5 => xlt (x1 + (-1)) fun x6 => some (.inl (x6, μ5)))
def fX12_types (p0 : Int32) (μ : xm) : Option (xm) := xbd (xloop xfu (fun v => fX12_types_b2 v.1 v.2 p0) (3, μ)) fun q7 => some q7
set_option maxHeartbeats 4000000 in
set_option maxRecDepth 100000 in
theorem kX12_types {E : xE} {d : Nat} {QQ : xP} (hd : 0 ≤ d) {p0 : Int32} {μ : xm} {R : xr} {n : Nat} (hF : xFin R n)  {res : xm} (h : fX12_types p0 μ = some res) (hQ : QQ none (xσ res R) n) : xCon E d Y_X12_types 0 0 [.ref (E.2.2.2 + iM), .int p0] (xσ μ R) n QQ := by
  refine xCon_of pn_RX12 (Nat.le_of_ble_eq_true rfl) (L0 := [(0, .ref (E.2.2.2 + iM)), (1, .int p0)]) rfl ?_
  unfold fX12_types at h
  refine ev_iconst (v := 3) dX12_types_0 (by decide) ?_
  refine xv_istore_n (L' := [(2, .int 3), (0, .ref (E.2.2.2 + iM)), (1, .int p0)]) rfl dX12_types_1 rfl (Nat.le_of_ble_eq_true rfl) rfl ?_
  obtain ⟨q7, hq7, h⟩ := xbd_some h
  refine ev_sub (L' := [(0, .ref (E.2.2.2 + iM)), (1, .int p0), (2, .int 3)]) [1, 2, 0] rfl ?_
  refine xloop_run (fun v => Ev E (xcm E d 0 0 QQ) Y_X12_types 2 [(0, .ref (E.2.2.2 + iM)), (1, .int p0), (2, .int v.1)] [] (xσ v.2 R) n 0 0) (fun v => Ev E (xcm E d 0 0 QQ) Y_X12_types 38 [] [] (xσ v R) n 0 0) ?_ _ _ _ hq7 ?_
  · rintro ⟨x1, μ2⟩ y3 h hk
    replace h : fX12_types_b2 x1 μ2 p0 = some y3 := h
    show Ev E (xcm E d 0 0 QQ) Y_X12_types 2 [(0, .ref (E.2.2.2 + iM)), (1, .int p0), (2, .int x1)] [] (xσ μ2 R) n 0 0
    unfold fX12_types_b2 at h
    refine ev_iload_n 2 dX12_types_2 rfl rfl ?_
    refine ev_if_lt (tgt := 38) dX12_types_3 (by decide) (fun c3 => ?_) (fun c3 => ?_)
    · replace h := xif_t c3 h
      cases h
      replace hk := xel_r hk
      exact ev_sub [] rfl (hk)
    · replace h := xif_f c3 h
      refine ev_aload_n 0 dX12_types_6 rfl rfl ?_
      refine xv_getF (a := iM_tape) cl_12 lk_RX12_29 kd_61 (xl hF rfl) (fun _ => rfl) (fr_61_10 hF) dX12_types_7 ?_
      refine ev_aload_n 0 dX12_types_10 rfl rfl ?_
      refine xv_getI cl_12 lk_RX12_203 kd_61 (xl hF rfl) (fun _ => rfl) dX12_types_11 ?_
      refine ev_iload_n 1 dX12_types_14 rfl rfl ?_
      refine ev_bipush (v := 8) dX12_types_15 (by decide) ?_
      refine ev_iload_n 2 dX12_types_17 rfl rfl ?_
      refine ev_imul dX12_types_18 ?_
      refine ev_ishr dX12_types_19 ?_
      refine ev_i2b dX12_types_20 ?_
      obtain ⟨μ4, hμ4, h⟩ := xbd_some h
      refine xv_bast kd_68 (xl hF rfl) hμ4 dX12_types_21 ?_
      refine ev_aload_n 0 dX12_types_22 rfl rfl ?_
      refine ev_aload_n 0 dX12_types_23 rfl rfl ?_
      refine xv_getI cl_12 lk_RX12_203 kd_61 (xl hF rfl) (fun _ => rfl) dX12_types_24 ?_
      refine ev_iconst (v := 1) dX12_types_27 (by decide) ?_
      refine ev_iadd dX12_types_28 ?_
      obtain ⟨μ5, hμ5, h⟩ := xlt_some h
      refine xv_putI cl_12 lk_RX12_203 rfl kd_61 (xl hF rfl) rfl rfl (fun _ => rfl) hμ5 dX12_types_29 ?_
      obtain ⟨x6, hx6, h⟩ := xlt_some h
      refine ev_iinc (L' := [(2, .int x6), (0, .ref (E.2.2.2 + iM)), (1, .int p0)]) 2 dX12_types_32 rfl ((by rfl : x1 + Int32.ofInt (-1) = x1 + (-1)).trans hx6) (Nat.le_of_ble_eq_true rfl) rfl ?_
      refine ev_goto (tgt := 2) dX12_types_35 (by decide) ?_
      cases h
      replace hk := xel_l hk
      exact ev_sub [1, 2, 0] rfl (hk)
  · show Ev E (xcm E d 0 0 QQ) Y_X12_types 38 [] [] (xσ q7 R) n 0 0
    cases h
    exact ev_vret rfl (hQ) dX12_types_38 (Nat.zero_le _) (Nat.zero_le _)
def fX12_weightAt (p0 : Int32) (p1 : Int32) (μ : xm) : Option (Int32) := xbd (xgI μ iM_endMany 8 p0) fun v1 => if v1 = 0 then (some 1) else (xbd (xgI μ iM_endWeight 40 ((5 * p0) + p1)) fun v2 => some v2)
set_option maxHeartbeats 4000000 in
set_option maxRecDepth 100000 in
theorem kX12_weightAt {E : xE} {d : Nat} {QQ : xP} (hd : 0 ≤ d) {p0 : Int32} {p1 : Int32} {μ : xm} {R : xr} {n : Nat} (hF : xFin R n)  {res : Int32} (h : fX12_weightAt p0 p1 μ = some res) (hQ : QQ (some (.int res)) (xσ μ R) n) : xCon E d Y_X12_weightAt 0 0 [.ref (E.2.2.2 + iM), .int p0, .int p1] (xσ μ R) n QQ := by
  refine xCon_of pn_RX12 (Nat.le_of_ble_eq_true rfl) (L0 := [(0, .ref (E.2.2.2 + iM)), (1, .int p0), (2, .int p1)]) rfl ?_
  unfold fX12_weightAt at h
  refine ev_aload_n 0 dX12_weightAt_0 rfl rfl ?_
  refine xv_getF (a := iM_endMany) cl_12 lk_RX12_123 kd_61 (xl hF rfl) (fun _ => rfl) (fr_61_57 hF) dX12_weightAt_1 ?_
  refine ev_iload_n 1 dX12_weightAt_4 rfl rfl ?_
  obtain ⟨v1, hv1, h⟩ := xbd_some h
  refine xv_iald kd_99 (xl hF rfl) hv1 dX12_weightAt_5 ?_
  refine ev_if_ne (tgt := 13) dX12_weightAt_6 (by decide) (fun c6 => ?_) (fun c6 => ?_)
  · replace h := xif_f c6 h
    refine ev_aload_n 0 dX12_weightAt_13 rfl rfl ?_
    refine xv_getF (a := iM_endWeight) cl_12 lk_RX12_129 kd_61 (xl hF rfl) (fun _ => rfl) (fr_61_59 hF) dX12_weightAt_14 ?_
    refine ev_iconst (v := 5) dX12_weightAt_17 (by decide) ?_
    refine ev_iload_n 1 dX12_weightAt_18 rfl rfl ?_
    refine ev_imul dX12_weightAt_19 ?_
    refine ev_iload_n 2 dX12_weightAt_20 rfl rfl ?_
    refine ev_iadd dX12_weightAt_21 ?_
    obtain ⟨v2, hv2, h⟩ := xbd_some h
    refine xv_iald kd_101 (xl hF rfl) hv2 dX12_weightAt_22 ?_
    cases h
    exact ev_iret rfl (hQ) dX12_weightAt_23 (Nat.zero_le _) (Nat.zero_le _)
  · replace h := xif_t c6 h
    refine ev_iconst (v := 1) dX12_weightAt_9 (by decide) ?_
    refine ev_goto (tgt := 23) dX12_weightAt_10 (by decide) ?_
    cases h
    exact ev_iret rfl (hQ) dX12_weightAt_23 (Nat.zero_le _) (Nat.zero_le _)
def fX12_worthAt_j26 (x1 : Int32) (p0 : Int32) (μ : xm) : Option (Int32) := xbd (xgI μ iM_worthOf 192 ((24 * p0) + x1)) fun v2 => some v2
def fX12_worthAt (p0 : Int32) (p1 : Int32) (μ : xm) : Option (Int32) := if 0 ≤ p1 then (if (p1 / 60) ≤ 23 then (fX12_worthAt_j26 (p1 / 60) p0 μ) else (fX12_worthAt_j26 23 p0 μ)) else (fX12_worthAt_j26 0 p0 μ)
set_option maxHeartbeats 4000000 in
set_option maxRecDepth 100000 in
theorem kX12_worthAt {E : xE} {d : Nat} {QQ : xP} (hd : 0 ≤ d) {p0 : Int32} {p1 : Int32} {μ : xm} {R : xr} {n : Nat} (hF : xFin R n)  {res : Int32} (h : fX12_worthAt p0 p1 μ = some res) (hQ : QQ (some (.int res)) (xσ μ R) n) : xCon E d Y_X12_worthAt 0 0 [.ref (E.2.2.2 + iM), .int p0, .int p1] (xσ μ R) n QQ := by
  refine xCon_of pn_RX12 (Nat.le_of_ble_eq_true rfl) (L0 := [(0, .ref (E.2.2.2 + iM)), (1, .int p0), (2, .int p1)]) rfl ?_
  unfold fX12_worthAt at h
  refine ev_iload_n 2 dX12_worthAt_0 rfl rfl ?_
  have j26 : ∀ (x1 : Int32), fX12_worthAt_j26 x1 p0 μ = some res → Ev E (xcm E d 0 0 QQ) Y_X12_worthAt 26 [(0, .ref (E.2.2.2 + iM)), (1, .int p0)] [.int x1] (xσ μ R) n 0 0 := by
    intro x1 h
    unfold fX12_worthAt_j26 at h
    refine xv_istore_n (L' := [(3, .int x1), (0, .ref (E.2.2.2 + iM)), (1, .int p0)]) rfl dX12_worthAt_26 rfl (Nat.le_of_ble_eq_true rfl) rfl ?_
    refine ev_aload_n 1 dX12_worthAt_27 rfl rfl ?_
    refine xv_getF (a := iM_worthOf) cl_12 lk_RX12_7 kd_61 (xl hF rfl) (fun _ => rfl) (fr_61_4 hF) dX12_worthAt_28 ?_
    refine ev_bipush (v := 24) dX12_worthAt_31 (by decide) ?_
    refine ev_iload_n 2 dX12_worthAt_33 rfl rfl ?_
    refine ev_imul dX12_worthAt_34 ?_
    refine ev_iload_n 0 dX12_worthAt_35 rfl rfl ?_
    refine ev_iadd dX12_worthAt_36 ?_
    obtain ⟨v2, hv2, h⟩ := xbd_some h
    refine xv_iald kd_62 (xl hF rfl) hv2 dX12_worthAt_37 ?_
    cases h
    exact ev_iret rfl (hQ) dX12_worthAt_38 (Nat.zero_le _) (Nat.zero_le _)
  refine ev_if_ge (tgt := 8) dX12_worthAt_1 (by decide) (fun c1 => ?_) (fun c1 => ?_)
  · replace h := xif_t c1 h
    refine ev_iload_n 2 dX12_worthAt_8 rfl rfl ?_
    refine ev_bipush (v := 60) dX12_worthAt_9 (by decide) ?_
    refine ev_idiv dX12_worthAt_11 (by decide) ?_
    refine ev_bipush (v := 23) dX12_worthAt_12 (by decide) ?_
    refine ev_icmp_le (tgt := 22) dX12_worthAt_14 (by decide) (fun c14 => ?_) (fun c14 => ?_)
    · replace h := xif_t c14 h
      refine ev_iload_n 2 dX12_worthAt_22 rfl rfl ?_
      refine ev_bipush (v := 60) dX12_worthAt_23 (by decide) ?_
      refine ev_idiv dX12_worthAt_25 (by decide) ?_
      exact ev_sub [0, 1] rfl (j26 _ h)
    · replace h := xif_f c14 h
      refine ev_bipush (v := 23) dX12_worthAt_17 (by decide) ?_
      refine ev_goto (tgt := 26) dX12_worthAt_19 (by decide) ?_
      exact ev_sub [0, 1] rfl (j26 _ h)
  · replace h := xif_f c1 h
    refine ev_iconst (v := 0) dX12_worthAt_4 (by decide) ?_
    refine ev_goto (tgt := 26) dX12_worthAt_5 (by decide) ?_
    exact ev_sub [0, 1] rfl (j26 _ h)
def fX12_wrongAt (p0 : Int32) (p1 : Int32) (μ : xm) : Option (Int32 × xm) := xlt (xpI μ iM 14 (((-1000) * p0) - p1)) fun μ1 => some (0, μ1)
set_option maxHeartbeats 4000000 in
set_option maxRecDepth 100000 in
theorem kX12_wrongAt {E : xE} {d : Nat} {QQ : xP} (hd : 0 ≤ d) {p0 : Int32} {p1 : Int32} {μ : xm} {R : xr} {n : Nat} (hF : xFin R n)  {res : Int32 × xm} (h : fX12_wrongAt p0 p1 μ = some res) (hQ : QQ (some (.int res.1)) (xσ res.2 R) n) : xCon E d Y_X12_wrongAt 0 0 [.ref (E.2.2.2 + iM), .int p0, .int p1] (xσ μ R) n QQ := by
  refine xCon_of pn_RX12 (Nat.le_of_ble_eq_true rfl) (L0 := [(0, .ref (E.2.2.2 + iM)), (1, .int p0), (2, .int p1)]) rfl ?_
  unfold fX12_wrongAt at h
  refine ev_aload_n 0 dX12_wrongAt_0 rfl rfl ?_
  refine ev_sipush (v := (-1000)) dX12_wrongAt_1 (by decide) ?_
  refine ev_iload_n 1 dX12_wrongAt_4 rfl rfl ?_
  refine ev_imul dX12_wrongAt_5 ?_
  refine ev_iload_n 2 dX12_wrongAt_6 rfl rfl ?_
  refine ev_isub dX12_wrongAt_7 ?_
  obtain ⟨μ1, hμ1, h⟩ := xlt_some h
  refine xv_putI cl_12 lk_RX12_220 rfl kd_61 (xl hF rfl) rfl rfl (fun _ => rfl) hμ1 dX12_wrongAt_8 ?_
  refine ev_iconst (v := 0) dX12_wrongAt_11 (by decide) ?_
  cases h
  exact ev_zret rfl (Or.inl rfl) (hQ) dX12_wrongAt_12 (Nat.zero_le _) (Nat.zero_le _)
def fX12_bridge (p0 : Int32) (p1 : Int32) (p2 : Int32) (μ : xm) : Option (Int32 × xm) := xbd (fX12_in p1 1 100) fun q1 => if q1 = 0 then (some (0, μ)) else (xbd (fX12_in p0 0 p1) fun q2 => if q2 = 0 then (some (0, μ)) else (xbd (fX12_in p2 0 600) fun q3 => if q3 = 0 then (some (0, μ)) else (xlt (xpI μ iM 53 p0) fun μ4 => xlt (xpI μ4 iM 54 p1) fun μ5 => xlt (xpI μ5 iM 55 p2) fun μ6 => some (1, μ6))))
set_option maxHeartbeats 4000000 in
set_option maxRecDepth 100000 in
theorem kX12_bridge {E : xE} {d : Nat} {QQ : xP} (hd : 1 ≤ d) {p0 : Int32} {p1 : Int32} {p2 : Int32} {μ : xm} {R : xr} {n : Nat} (hF : xFin R n)  {res : Int32 × xm} (h : fX12_bridge p0 p1 p2 μ = some res) (hQ : QQ (some (.int res.1)) (xσ res.2 R) n) : xCon E d Y_X12_bridge 0 0 [.ref (E.2.2.2 + iM), .int p0, .int p1, .int p2] (xσ μ R) n QQ := by
  refine xCon_of pn_RX12 (Nat.le_of_ble_eq_true rfl) (L0 := [(0, .ref (E.2.2.2 + iM)), (1, .int p0), (2, .int p1), (3, .int p2)]) rfl ?_
  unfold fX12_bridge at h
  refine ev_iload_n 2 dX12_bridge_0 rfl rfl ?_
  refine ev_iconst (v := 1) dX12_bridge_1 (by decide) ?_
  refine ev_bipush (v := 100) dX12_bridge_2 (by decide) ?_
  obtain ⟨q1, hq1, h⟩ := xbd_some h
  refine ev_callS (As := [.int p1, .int 1, .int 100]) (rest := []) 3 (kX12_in (E := E) (d := 0) (QQ := (fun v τ n' => v = some (.int q1) ∧ τ = xσ μ R ∧ n = n')) (Nat.le_refl _)  hq1 (⟨rfl, rfl, rfl⟩)) my_X12_in ⟨m_1449, m_1450⟩ rfl rfl (Nat.le_of_ble_eq_true rfl) (Nat.le_trans (by decide) hd) (xlo (by decide) (Nat.le_trans (by decide) hd)) (Nat.zero_le _) (Nat.zero_le _) dX12_bridge_4 (fun v τ n' hv => ?_)
  obtain ⟨rfl, rfl, rfl⟩ := hv
  show Ev E (xcm E d 0 0 QQ) Y_X12_bridge 7 [(0, .ref (E.2.2.2 + iM)), (1, .int p0), (2, .int p1), (3, .int p2)] [.int q1] (xσ μ R) n 0 0
  refine ev_if_eq (tgt := 30) dX12_bridge_7 (by decide) (fun c7 => ?_) (fun c7 => ?_)
  · replace h := xif_t c7 h
    refine ev_iconst (v := 0) dX12_bridge_30 (by decide) ?_
    cases h
    exact ev_zret rfl (Or.inl rfl) (hQ) dX12_bridge_31 (Nat.zero_le _) (Nat.zero_le _)
  · replace h := xif_f c7 h
    refine ev_iload_n 1 dX12_bridge_10 rfl rfl ?_
    refine ev_iconst (v := 0) dX12_bridge_11 (by decide) ?_
    refine ev_iload_n 2 dX12_bridge_12 rfl rfl ?_
    obtain ⟨q2, hq2, h⟩ := xbd_some h
    refine ev_callS (As := [.int p0, .int 0, .int p1]) (rest := []) 3 (kX12_in (E := E) (d := 0) (QQ := (fun v τ n' => v = some (.int q2) ∧ τ = xσ μ R ∧ n = n')) (Nat.le_refl _)  hq2 (⟨rfl, rfl, rfl⟩)) my_X12_in ⟨m_1449, m_1450⟩ rfl rfl (Nat.le_of_ble_eq_true rfl) (Nat.le_trans (by decide) hd) (xlo (by decide) (Nat.le_trans (by decide) hd)) (Nat.zero_le _) (Nat.zero_le _) dX12_bridge_13 (fun v τ n' hv => ?_)
    obtain ⟨rfl, rfl, rfl⟩ := hv
    show Ev E (xcm E d 0 0 QQ) Y_X12_bridge 16 [(0, .ref (E.2.2.2 + iM)), (1, .int p0), (2, .int p1), (3, .int p2)] [.int q2] (xσ μ R) n 0 0
    refine ev_if_eq (tgt := 30) dX12_bridge_16 (by decide) (fun c16 => ?_) (fun c16 => ?_)
    · replace h := xif_t c16 h
      refine ev_iconst (v := 0) dX12_bridge_30 (by decide) ?_
      cases h
      exact ev_zret rfl (Or.inl rfl) (hQ) dX12_bridge_31 (Nat.zero_le _) (Nat.zero_le _)
    · replace h := xif_f c16 h
      refine ev_iload_n 3 dX12_bridge_19 rfl rfl ?_
      refine ev_iconst (v := 0) dX12_bridge_20 (by decide) ?_
      refine ev_sipush (v := 600) dX12_bridge_21 (by decide) ?_
      obtain ⟨q3, hq3, h⟩ := xbd_some h
      refine ev_callS (As := [.int p2, .int 0, .int 600]) (rest := []) 3 (kX12_in (E := E) (d := 0) (QQ := (fun v τ n' => v = some (.int q3) ∧ τ = xσ μ R ∧ n = n')) (Nat.le_refl _)  hq3 (⟨rfl, rfl, rfl⟩)) my_X12_in ⟨m_1449, m_1450⟩ rfl rfl (Nat.le_of_ble_eq_true rfl) (Nat.le_trans (by decide) hd) (xlo (by decide) (Nat.le_trans (by decide) hd)) (Nat.zero_le _) (Nat.zero_le _) dX12_bridge_24 (fun v τ n' hv => ?_)
      obtain ⟨rfl, rfl, rfl⟩ := hv
      show Ev E (xcm E d 0 0 QQ) Y_X12_bridge 27 [(0, .ref (E.2.2.2 + iM)), (1, .int p0), (2, .int p1), (3, .int p2)] [.int q3] (xσ μ R) n 0 0
      refine ev_if_ne (tgt := 32) dX12_bridge_27 (by decide) (fun c27 => ?_) (fun c27 => ?_)
      · replace h := xif_f c27 h
        refine ev_aload_n 0 dX12_bridge_32 rfl rfl ?_
        refine ev_iload_n 1 dX12_bridge_33 rfl rfl ?_
        obtain ⟨μ4, hμ4, h⟩ := xlt_some h
        refine xv_putI cl_12 lk_RX12_374 rfl kd_61 (xl hF rfl) rfl rfl (fun _ => rfl) hμ4 dX12_bridge_34 ?_
        refine ev_aload_n 0 dX12_bridge_37 rfl rfl ?_
        refine ev_iload_n 2 dX12_bridge_38 rfl rfl ?_
        obtain ⟨μ5, hμ5, h⟩ := xlt_some h
        refine xv_putI cl_12 lk_RX12_148 rfl kd_61 (xl hF rfl) rfl rfl (fun _ => rfl) hμ5 dX12_bridge_39 ?_
        refine ev_aload_n 0 dX12_bridge_42 rfl rfl ?_
        refine ev_iload_n 3 dX12_bridge_43 rfl rfl ?_
        obtain ⟨μ6, hμ6, h⟩ := xlt_some h
        refine xv_putI cl_12 lk_RX12_377 rfl kd_61 (xl hF rfl) rfl rfl (fun _ => rfl) hμ6 dX12_bridge_44 ?_
        refine ev_iconst (v := 1) dX12_bridge_47 (by decide) ?_
        cases h
        exact ev_zret rfl (Or.inr rfl) (hQ) dX12_bridge_48 (Nat.zero_le _) (Nat.zero_le _)
      · replace h := xif_t c27 h
        refine ev_iconst (v := 0) dX12_bridge_30 (by decide) ?_
        cases h
        exact ev_zret rfl (Or.inl rfl) (hQ) dX12_bridge_31 (Nat.zero_le _) (Nat.zero_le _)
def fX12_closesSums_j37 (μ1 : xm) : Option ((xm) ⊕ (xm)) := xbd (fX12_top μ1) fun q4 => xbd (fX12_notes q4 0 μ1) fun q5 => xlt (xpI q5 iM 17 ((q5.1 iM 17) - 1)) fun μ6 => some (.inl μ6)
def fX12_closesSums_j17 (p0 : Int32) (μ1 : xm) : Option ((xm) ⊕ (xm)) := if p0 = 0 then (some (.inr μ1)) else (xbd (fX12_top μ1) fun q7 => if q7 = 2 then (fX12_closesSums_j37 μ1) else (xbd (fX12_top μ1) fun q8 => if q8 = 3 then (fX12_closesSums_j37 μ1) else (some (.inr μ1))))
def fX12_closesSums_b0 (μ1 : xm) (p0 : Int32) : Option ((xm) ⊕ (xm)) := xbd (fX12_top μ1) fun q3 => if q3 < 4 then (fX12_closesSums_j17 p0 μ1) else (xbd (fX12_top μ1) fun q9 => if q9 ≤ 6 then (fX12_closesSums_j37 μ1) else (fX12_closesSums_j17 p0 μ1))
def fX12_closesSums (p0 : Int32) (μ : xm) : Option (xm) := xbd (xloop xfu (fun v => fX12_closesSums_b0 v p0) μ) fun q10 => some q10
set_option maxHeartbeats 4000000 in
set_option maxRecDepth 100000 in
theorem kX12_closesSums {E : xE} {d : Nat} {QQ : xP} (hd : 1 ≤ d) {p0 : Int32} {μ : xm} {R : xr} {n : Nat} (hF : xFin R n)  {res : xm} (h : fX12_closesSums p0 μ = some res) (hQ : QQ none (xσ res R) n) : xCon E d Y_X12_closesSums 0 0 [.ref (E.2.2.2 + iM), .int p0] (xσ μ R) n QQ := by
  refine xCon_of pn_RX12 (Nat.le_of_ble_eq_true rfl) (L0 := [(0, .ref (E.2.2.2 + iM)), (1, .int p0)]) rfl ?_
  unfold fX12_closesSums at h
  obtain ⟨q10, hq10, h⟩ := xbd_some h
  refine ev_sub (L' := [(0, .ref (E.2.2.2 + iM)), (1, .int p0)]) [0, 1] rfl ?_
  refine xloop_run (fun v => Ev E (xcm E d 0 0 QQ) Y_X12_closesSums 0 [(0, .ref (E.2.2.2 + iM)), (1, .int p0)] [] (xσ v R) n 0 0) (fun v => Ev E (xcm E d 0 0 QQ) Y_X12_closesSums 59 [] [] (xσ v R) n 0 0) ?_ _ _ _ hq10 ?_
  · rintro μ1 y2 h hk
    replace h : fX12_closesSums_b0 μ1 p0 = some y2 := h
    show Ev E (xcm E d 0 0 QQ) Y_X12_closesSums 0 [(0, .ref (E.2.2.2 + iM)), (1, .int p0)] [] (xσ μ1 R) n 0 0
    unfold fX12_closesSums_b0 at h
    refine ev_aload_n 0 dX12_closesSums_0 rfl rfl ?_
    obtain ⟨q3, hq3, h⟩ := xbd_some h
    refine ev_callV (ci := 12) (rest := []) 0 (kX12_top (E := E) (d := 0) (QQ := (fun v τ n' => v = some (.int q3) ∧ τ = xσ μ1 R ∧ n = n')) (Nat.le_refl _) hF hq3 (⟨rfl, rfl, rfl⟩)) my_X12_top ⟨m_1577, m_1579, m_60⟩ cl_12 kd_61 (xl hF rfl) rfl rfl (Nat.le_of_ble_eq_true rfl) (Nat.le_trans (by decide) hd) (xlo (by decide) (Nat.le_trans (by decide) hd)) (Nat.zero_le _) (Nat.zero_le _) dX12_closesSums_1 (fun v τ n' hv => ?_)
    obtain ⟨rfl, rfl, rfl⟩ := hv
    show Ev E (xcm E d 0 0 QQ) Y_X12_closesSums 4 [(0, .ref (E.2.2.2 + iM)), (1, .int p0)] [.int q3] (xσ μ1 R) n 0 0
    refine ev_iconst (v := 4) dX12_closesSums_4 (by decide) ?_
    have j37 : fX12_closesSums_j37 μ1 = some y2 → Ev E (xcm E d 0 0 QQ) Y_X12_closesSums 37 [(0, .ref (E.2.2.2 + iM)), (1, .int p0)] [] (xσ μ1 R) n 0 0 := by
      intro h
      unfold fX12_closesSums_j37 at h
      refine ev_aload_n 0 dX12_closesSums_37 rfl rfl ?_
      refine ev_aload_n 0 dX12_closesSums_38 rfl rfl ?_
      obtain ⟨q4, hq4, h⟩ := xbd_some h
      refine ev_callV (ci := 12) (rest := [.ref (E.2.2.2 + iM)]) 0 (kX12_top (E := E) (d := 0) (QQ := (fun v τ n' => v = some (.int q4) ∧ τ = xσ μ1 R ∧ n = n')) (Nat.le_refl _) hF hq4 (⟨rfl, rfl, rfl⟩)) my_X12_top ⟨m_1577, m_1579, m_60⟩ cl_12 kd_61 (xl hF rfl) rfl rfl (Nat.le_of_ble_eq_true rfl) (Nat.le_trans (by decide) hd) (xlo (by decide) (Nat.le_trans (by decide) hd)) (Nat.zero_le _) (Nat.zero_le _) dX12_closesSums_39 (fun v τ n' hv => ?_)
      obtain ⟨rfl, rfl, rfl⟩ := hv
      show Ev E (xcm E d 0 0 QQ) Y_X12_closesSums 42 [(0, .ref (E.2.2.2 + iM)), (1, .int p0)] [.int q4, .ref (E.2.2.2 + iM)] (xσ μ1 R) n 0 0
      refine ev_iconst (v := 0) dX12_closesSums_42 (by decide) ?_
      obtain ⟨q5, hq5, h⟩ := xbd_some h
      refine ev_callV (ci := 12) (rest := []) 2 (kX12_notes (E := E) (d := 0) (QQ := (fun v τ n' => v = none ∧ τ = xσ q5 R ∧ n = n')) (Nat.le_refl _) hF hq5 (⟨rfl, rfl, rfl⟩)) my_X12_notes ⟨m_1563, m_1565, m_58⟩ cl_12 kd_61 (xl hF rfl) rfl rfl (Nat.le_of_ble_eq_true rfl) (Nat.le_trans (by decide) hd) (xlo (by decide) (Nat.le_trans (by decide) hd)) (Nat.zero_le _) (Nat.zero_le _) dX12_closesSums_43 (fun v τ n' hv => ?_)
      obtain ⟨rfl, rfl, rfl⟩ := hv
      show Ev E (xcm E d 0 0 QQ) Y_X12_closesSums 46 [(0, .ref (E.2.2.2 + iM)), (1, .int p0)] [] (xσ q5 R) n 0 0
      refine ev_aload_n 0 dX12_closesSums_46 rfl rfl ?_
      refine ev_aload_n 0 dX12_closesSums_47 rfl rfl ?_
      refine xv_getI cl_12 lk_RX12_240 kd_61 (xl hF rfl) (fun _ => rfl) dX12_closesSums_48 ?_
      refine ev_iconst (v := 1) dX12_closesSums_51 (by decide) ?_
      refine ev_isub dX12_closesSums_52 ?_
      obtain ⟨μ6, hμ6, h⟩ := xlt_some h
      refine xv_putI cl_12 lk_RX12_240 rfl kd_61 (xl hF rfl) rfl rfl (fun _ => rfl) hμ6 dX12_closesSums_53 ?_
      refine ev_goto (tgt := 0) dX12_closesSums_56 (by decide) ?_
      cases h
      replace hk := xel_l hk
      exact ev_sub [0, 1] rfl (hk)
    have j17 : fX12_closesSums_j17 p0 μ1 = some y2 → Ev E (xcm E d 0 0 QQ) Y_X12_closesSums 17 [(0, .ref (E.2.2.2 + iM)), (1, .int p0)] [] (xσ μ1 R) n 0 0 := by
      intro h
      unfold fX12_closesSums_j17 at h
      refine ev_iload_n 1 dX12_closesSums_17 rfl rfl ?_
      refine ev_if_eq (tgt := 59) dX12_closesSums_18 (by decide) (fun c18 => ?_) (fun c18 => ?_)
      · replace h := xif_t c18 h
        cases h
        replace hk := xel_r hk
        exact ev_sub [] rfl (hk)
      · replace h := xif_f c18 h
        refine ev_aload_n 0 dX12_closesSums_21 rfl rfl ?_
        obtain ⟨q7, hq7, h⟩ := xbd_some h
        refine ev_callV (ci := 12) (rest := []) 0 (kX12_top (E := E) (d := 0) (QQ := (fun v τ n' => v = some (.int q7) ∧ τ = xσ μ1 R ∧ n = n')) (Nat.le_refl _) hF hq7 (⟨rfl, rfl, rfl⟩)) my_X12_top ⟨m_1577, m_1579, m_60⟩ cl_12 kd_61 (xl hF rfl) rfl rfl (Nat.le_of_ble_eq_true rfl) (Nat.le_trans (by decide) hd) (xlo (by decide) (Nat.le_trans (by decide) hd)) (Nat.zero_le _) (Nat.zero_le _) dX12_closesSums_22 (fun v τ n' hv => ?_)
        obtain ⟨rfl, rfl, rfl⟩ := hv
        show Ev E (xcm E d 0 0 QQ) Y_X12_closesSums 25 [(0, .ref (E.2.2.2 + iM)), (1, .int p0)] [.int q7] (xσ μ1 R) n 0 0
        refine ev_iconst (v := 2) dX12_closesSums_25 (by decide) ?_
        refine ev_icmp_eq (tgt := 37) dX12_closesSums_26 (by decide) (fun c26 => ?_) (fun c26 => ?_)
        · replace h := xif_t c26 h
          exact ev_sub [0, 1] rfl (j37 h)
        · replace h := xif_f c26 h
          refine ev_aload_n 0 dX12_closesSums_29 rfl rfl ?_
          obtain ⟨q8, hq8, h⟩ := xbd_some h
          refine ev_callV (ci := 12) (rest := []) 0 (kX12_top (E := E) (d := 0) (QQ := (fun v τ n' => v = some (.int q8) ∧ τ = xσ μ1 R ∧ n = n')) (Nat.le_refl _) hF hq8 (⟨rfl, rfl, rfl⟩)) my_X12_top ⟨m_1577, m_1579, m_60⟩ cl_12 kd_61 (xl hF rfl) rfl rfl (Nat.le_of_ble_eq_true rfl) (Nat.le_trans (by decide) hd) (xlo (by decide) (Nat.le_trans (by decide) hd)) (Nat.zero_le _) (Nat.zero_le _) dX12_closesSums_30 (fun v τ n' hv => ?_)
          obtain ⟨rfl, rfl, rfl⟩ := hv
          show Ev E (xcm E d 0 0 QQ) Y_X12_closesSums 33 [(0, .ref (E.2.2.2 + iM)), (1, .int p0)] [.int q8] (xσ μ1 R) n 0 0
          refine ev_iconst (v := 3) dX12_closesSums_33 (by decide) ?_
          refine ev_icmp_ne (tgt := 59) dX12_closesSums_34 (by decide) (fun c34 => ?_) (fun c34 => ?_)
          · replace h := xif_f c34 h
            cases h
            replace hk := xel_r hk
            exact ev_sub [] rfl (hk)
          · replace h := xif_t c34 h
            exact ev_sub [0, 1] rfl (j37 h)
    refine ev_icmp_lt (tgt := 17) dX12_closesSums_5 (by decide) (fun c5 => ?_) (fun c5 => ?_)
    · replace h := xif_t c5 h
      exact ev_sub [0, 1] rfl (j17 h)
    · replace h := xif_f c5 h
      refine ev_aload_n 0 dX12_closesSums_8 rfl rfl ?_
      obtain ⟨q9, hq9, h⟩ := xbd_some h
      refine ev_callV (ci := 12) (rest := []) 0 (kX12_top (E := E) (d := 0) (QQ := (fun v τ n' => v = some (.int q9) ∧ τ = xσ μ1 R ∧ n = n')) (Nat.le_refl _) hF hq9 (⟨rfl, rfl, rfl⟩)) my_X12_top ⟨m_1577, m_1579, m_60⟩ cl_12 kd_61 (xl hF rfl) rfl rfl (Nat.le_of_ble_eq_true rfl) (Nat.le_trans (by decide) hd) (xlo (by decide) (Nat.le_trans (by decide) hd)) (Nat.zero_le _) (Nat.zero_le _) dX12_closesSums_9 (fun v τ n' hv => ?_)
      obtain ⟨rfl, rfl, rfl⟩ := hv
      show Ev E (xcm E d 0 0 QQ) Y_X12_closesSums 12 [(0, .ref (E.2.2.2 + iM)), (1, .int p0)] [.int q9] (xσ μ1 R) n 0 0
      refine ev_bipush (v := 6) dX12_closesSums_12 (by decide) ?_
      refine ev_icmp_le (tgt := 37) dX12_closesSums_14 (by decide) (fun c14 => ?_) (fun c14 => ?_)
      · replace h := xif_t c14 h
        exact ev_sub [0, 1] rfl (j37 h)
      · replace h := xif_f c14 h
        exact ev_sub [0, 1] rfl (j17 h)
  · show Ev E (xcm E d 0 0 QQ) Y_X12_closesSums 59 [] [] (xσ q10 R) n 0 0
    cases h
    exact ev_vret rfl (hQ) dX12_closesSums_59 (Nat.zero_le _) (Nat.zero_le _)
