def fX0_closeClause (o : Nat) (μ : xm) : Option (xm) := if (μ.1 o 6) < 0 then (some μ) else (if (μ.1 o 6) < 14 then (xbd (xsI μ (o + 4) 14 (μ.1 o 6) (μ.1 o 7)) fun μ1 => xlt (xpI μ1 o 6 ((μ1.1 o 6) + 1)) fun μ2 => some μ2) else (some μ))
set_option maxHeartbeats 4000000 in
set_option maxRecDepth 100000 in
theorem kX0_closeClause {E : xE} {d : Nat} {QQ : xP} (hd : 0 ≤ d) {o : Nat} {μ : xm} {R : xr} {n : Nat} (hF : xFin R n) (hI : xIs 0 o n) {res : xm} (h : fX0_closeClause o μ = some res) (hQ : QQ none (xσ res R) n) : xCon E d Y_X0_closeClause 0 0 [.ref (E.2.2.2 + o)] (xσ μ R) n QQ := by
  refine xCon_of pn_RX0 (Nat.le_of_ble_eq_true rfl) (L0 := [(0, .ref (E.2.2.2 + o))]) rfl ?_
  unfold fX0_closeClause at h
  refine ev_aload_n 0 dX0_closeClause_0 rfl rfl ?_
  refine xv_getI cl_0 lk_RX0_31 (xIs0_kd hI) (xIs0_lt hI) (fun _ => rfl) dX0_closeClause_1 ?_
  refine ev_if_lt (tgt := 16) dX0_closeClause_4 (by decide) (fun c4 => ?_) (fun c4 => ?_)
  · replace h := xif_t c4 h
    cases h
    exact ev_vret rfl (hQ) dX0_closeClause_16 (Nat.zero_le _) (Nat.zero_le _)
  · replace h := xif_f c4 h
    refine ev_aload_n 0 dX0_closeClause_7 rfl rfl ?_
    refine xv_getI cl_0 lk_RX0_31 (xIs0_kd hI) (xIs0_lt hI) (fun _ => rfl) dX0_closeClause_8 ?_
    refine ev_bipush (v := 14) dX0_closeClause_11 (by decide) ?_
    refine ev_icmp_lt (tgt := 17) dX0_closeClause_13 (by decide) (fun c13 => ?_) (fun c13 => ?_)
    · replace h := xif_t c13 h
      refine ev_aload_n 0 dX0_closeClause_17 rfl rfl ?_
      refine xv_getF (a := (o + 4)) cl_0 lk_RX0_21 (xIs0_kd hI) (xIs0_lt hI) (fun _ => rfl) (xIs0_fr3 hF hI) dX0_closeClause_18 ?_
      refine ev_aload_n 0 dX0_closeClause_21 rfl rfl ?_
      refine xv_getI cl_0 lk_RX0_31 (xIs0_kd hI) (xIs0_lt hI) (fun _ => rfl) dX0_closeClause_22 ?_
      refine ev_aload_n 0 dX0_closeClause_25 rfl rfl ?_
      refine xv_getI cl_0 lk_RX0_35 (xIs0_kd hI) (xIs0_lt hI) (fun _ => rfl) dX0_closeClause_26 ?_
      obtain ⟨μ1, hμ1, h⟩ := xbd_some h
      refine xv_iast (xIs0_kd3 hI) (xIs0_lt3 hI) hμ1 dX0_closeClause_29 ?_
      refine ev_aload_n 0 dX0_closeClause_30 rfl rfl ?_
      refine ev_dup dX0_closeClause_31 rfl ?_
      refine xv_getI cl_0 lk_RX0_31 (xIs0_kd hI) (xIs0_lt hI) (fun _ => rfl) dX0_closeClause_32 ?_
      refine ev_iconst (v := 1) dX0_closeClause_35 (by decide) ?_
      refine ev_iadd dX0_closeClause_36 ?_
      obtain ⟨μ2, hμ2, h⟩ := xlt_some h
      refine xv_putI cl_0 lk_RX0_31 rfl (xIs0_kd hI) (xIs0_lt hI) rfl rfl (fun _ => rfl) hμ2 dX0_closeClause_37 ?_
      cases h
      exact ev_vret rfl (hQ) dX0_closeClause_40 (Nat.zero_le _) (Nat.zero_le _)
    · replace h := xif_f c13 h
      cases h
      exact ev_vret rfl (hQ) dX0_closeClause_16 (Nat.zero_le _) (Nat.zero_le _)
def fX0_emit (o : Nat) (p0 : Int32) (μ : xm) : Option (xm) := if (μ.1 o 7) < 0 then (some μ) else (if (μ.1 o 7) < 200 then (xbd (xsI μ (o + 5) 200 (μ.1 o 7) p0) fun μ1 => xlt (xpI μ1 o 7 ((μ1.1 o 7) + 1)) fun μ2 => some μ2) else (some μ))
set_option maxHeartbeats 4000000 in
set_option maxRecDepth 100000 in
theorem kX0_emit {E : xE} {d : Nat} {QQ : xP} (hd : 0 ≤ d) {o : Nat} {p0 : Int32} {μ : xm} {R : xr} {n : Nat} (hF : xFin R n) (hI : xIs 0 o n) {res : xm} (h : fX0_emit o p0 μ = some res) (hQ : QQ none (xσ res R) n) : xCon E d Y_X0_emit 0 0 [.ref (E.2.2.2 + o), .int p0] (xσ μ R) n QQ := by
  refine xCon_of pn_RX0 (Nat.le_of_ble_eq_true rfl) (L0 := [(0, .ref (E.2.2.2 + o)), (1, .int p0)]) rfl ?_
  unfold fX0_emit at h
  refine ev_aload_n 0 dX0_emit_0 rfl rfl ?_
  refine xv_getI cl_0 lk_RX0_35 (xIs0_kd hI) (xIs0_lt hI) (fun _ => rfl) dX0_emit_1 ?_
  refine ev_if_lt (tgt := 19) dX0_emit_4 (by decide) (fun c4 => ?_) (fun c4 => ?_)
  · replace h := xif_t c4 h
    cases h
    exact ev_vret rfl (hQ) dX0_emit_19 (Nat.zero_le _) (Nat.zero_le _)
  · replace h := xif_f c4 h
    refine ev_aload_n 0 dX0_emit_7 rfl rfl ?_
    refine xv_getI cl_0 lk_RX0_35 (xIs0_kd hI) (xIs0_lt hI) (fun _ => rfl) dX0_emit_8 ?_
    refine ev_aload_n 0 dX0_emit_11 rfl rfl ?_
    refine xv_getF (a := (o + 5)) cl_0 lk_RX0_24 (xIs0_kd hI) (xIs0_lt hI) (fun _ => rfl) (xIs0_fr4 hF hI) dX0_emit_12 ?_
    refine ev_alen (v := 200) 0 (by decide) (xIs0_kd4 hI) (xIs0_lt4 hI) rfl dX0_emit_15 ?_
    refine ev_icmp_lt (tgt := 20) dX0_emit_16 (by decide) (fun c16 => ?_) (fun c16 => ?_)
    · replace h := xif_t c16 h
      refine ev_aload_n 0 dX0_emit_20 rfl rfl ?_
      refine xv_getF (a := (o + 5)) cl_0 lk_RX0_24 (xIs0_kd hI) (xIs0_lt hI) (fun _ => rfl) (xIs0_fr4 hF hI) dX0_emit_21 ?_
      refine ev_aload_n 0 dX0_emit_24 rfl rfl ?_
      refine xv_getI cl_0 lk_RX0_35 (xIs0_kd hI) (xIs0_lt hI) (fun _ => rfl) dX0_emit_25 ?_
      refine ev_iload_n 1 dX0_emit_28 rfl rfl ?_
      obtain ⟨μ1, hμ1, h⟩ := xbd_some h
      refine xv_iast (xIs0_kd4 hI) (xIs0_lt4 hI) hμ1 dX0_emit_29 ?_
      refine ev_aload_n 0 dX0_emit_30 rfl rfl ?_
      refine ev_dup dX0_emit_31 rfl ?_
      refine xv_getI cl_0 lk_RX0_35 (xIs0_kd hI) (xIs0_lt hI) (fun _ => rfl) dX0_emit_32 ?_
      refine ev_iconst (v := 1) dX0_emit_35 (by decide) ?_
      refine ev_iadd dX0_emit_36 ?_
      obtain ⟨μ2, hμ2, h⟩ := xlt_some h
      refine xv_putI cl_0 lk_RX0_35 rfl (xIs0_kd hI) (xIs0_lt hI) rfl rfl (fun _ => rfl) hμ2 dX0_emit_37 ?_
      cases h
      exact ev_vret rfl (hQ) dX0_emit_40 (Nat.zero_le _) (Nat.zero_le _)
    · replace h := xif_f c16 h
      cases h
      exact ev_vret rfl (hQ) dX0_emit_19 (Nat.zero_le _) (Nat.zero_le _)
def fX0_empty (o : Nat) (μ : xm) : Option (xm) := xlt (xpI μ o 6 0) fun μ1 => xlt (xpI μ1 o 7 0) fun μ2 => some μ2
set_option maxHeartbeats 4000000 in
set_option maxRecDepth 100000 in
theorem kX0_empty {E : xE} {d : Nat} {QQ : xP} (hd : 0 ≤ d) {o : Nat} {μ : xm} {R : xr} {n : Nat} (hF : xFin R n) (hI : xIs 0 o n) {res : xm} (h : fX0_empty o μ = some res) (hQ : QQ none (xσ res R) n) : xCon E d Y_X0_empty 0 0 [.ref (E.2.2.2 + o)] (xσ μ R) n QQ := by
  refine xCon_of pn_RX0 (Nat.le_of_ble_eq_true rfl) (L0 := [(0, .ref (E.2.2.2 + o))]) rfl ?_
  unfold fX0_empty at h
  refine ev_aload_n 0 dX0_empty_0 rfl rfl ?_
  refine ev_iconst (v := 0) dX0_empty_1 (by decide) ?_
  obtain ⟨μ1, hμ1, h⟩ := xlt_some h
  refine xv_putI cl_0 lk_RX0_31 rfl (xIs0_kd hI) (xIs0_lt hI) rfl rfl (fun _ => rfl) hμ1 dX0_empty_2 ?_
  refine ev_aload_n 0 dX0_empty_5 rfl rfl ?_
  refine ev_iconst (v := 0) dX0_empty_6 (by decide) ?_
  obtain ⟨μ2, hμ2, h⟩ := xlt_some h
  refine xv_putI cl_0 lk_RX0_35 rfl (xIs0_kd hI) (xIs0_lt hI) rfl rfl (fun _ => rfl) hμ2 dX0_empty_7 ?_
  cases h
  exact ev_vret rfl (hQ) dX0_empty_10 (Nat.zero_le _) (Nat.zero_le _)
def fX0_isFact (p0 : Int32) : Option (Int32) := if p0 = 97 ∨ p0 = 98 ∨ p0 = 100 ∨ p0 = 103 ∨ p0 = 104 ∨ p0 = 107 ∨ p0 = 110 ∨ p0 = 114 ∨ p0 = 118 ∨ p0 = 119 ∨ p0 = 120 ∨ p0 = 121 then (some 1) else (some 0)
set_option maxHeartbeats 4000000 in
set_option maxRecDepth 100000 in
theorem kX0_isFact {E : xE} {d : Nat} {QQ : xP} (hd : 0 ≤ d) {p0 : Int32} {μ : xm} {R : xr} {n : Nat}  {res : Int32} (h : fX0_isFact p0 = some res) (hQ : QQ (some (.int res)) (xσ μ R) n) : xCon E d Y_X0_isFact 0 0 [.int p0] (xσ μ R) n QQ := by
  refine xCon_of pn_RX0 (Nat.le_of_ble_eq_true rfl) (L0 := [(0, .int p0)]) rfl ?_
  unfold fX0_isFact at h
  refine ev_iload_n 0 dX0_isFact_0 rfl rfl ?_
  by_cases c1_0 : p0 = 97 ∨ p0 = 98 ∨ p0 = 100 ∨ p0 = 103 ∨ p0 = 104 ∨ p0 = 107 ∨ p0 = 110 ∨ p0 = 114 ∨ p0 = 118 ∨ p0 = 119 ∨ p0 = 120 ∨ p0 = 121
  · replace h := xif_t c1_0 h
    refine ev_switch (tgt := 116) (off := 115) dX0_isFact_1 (by rcases c1_0 with e | e | e | e | e | e | e | e | e | e | e | e <;> exact xsw_in (by rw [e] <;> rfl) (by decide +kernel)) (by decide) ?_
    refine ev_iconst (v := 1) dX0_isFact_116 (by decide) ?_
    cases h
    exact ev_zret rfl (Or.inr rfl) (hQ) dX0_isFact_117 (Nat.zero_le _) (Nat.zero_le _)
  · replace h := xif_f c1_0 h
    refine ev_switch (tgt := 118) (off := 117) dX0_isFact_1 (xsw_out [97, 98, 100, 103, 104, 107, 110, 114, 118, 119, 120, 121] (List.forall_mem_cons.mpr ⟨(xne (c := 97) rfl (fun e => c1_0 (Or.inl e))), (List.forall_mem_cons.mpr ⟨(xne (c := 98) rfl (fun e => c1_0 (Or.inr (Or.inl e)))), (List.forall_mem_cons.mpr ⟨(xne (c := 100) rfl (fun e => c1_0 (Or.inr (Or.inr (Or.inl e))))), (List.forall_mem_cons.mpr ⟨(xne (c := 103) rfl (fun e => c1_0 (Or.inr (Or.inr (Or.inr (Or.inl e)))))), (List.forall_mem_cons.mpr ⟨(xne (c := 104) rfl (fun e => c1_0 (Or.inr (Or.inr (Or.inr (Or.inr (Or.inl e))))))), (List.forall_mem_cons.mpr ⟨(xne (c := 107) rfl (fun e => c1_0 (Or.inr (Or.inr (Or.inr (Or.inr (Or.inr (Or.inl e)))))))), (List.forall_mem_cons.mpr ⟨(xne (c := 110) rfl (fun e => c1_0 (Or.inr (Or.inr (Or.inr (Or.inr (Or.inr (Or.inr (Or.inl e))))))))), (List.forall_mem_cons.mpr ⟨(xne (c := 114) rfl (fun e => c1_0 (Or.inr (Or.inr (Or.inr (Or.inr (Or.inr (Or.inr (Or.inr (Or.inl e)))))))))), (List.forall_mem_cons.mpr ⟨(xne (c := 118) rfl (fun e => c1_0 (Or.inr (Or.inr (Or.inr (Or.inr (Or.inr (Or.inr (Or.inr (Or.inr (Or.inl e))))))))))), (List.forall_mem_cons.mpr ⟨(xne (c := 119) rfl (fun e => c1_0 (Or.inr (Or.inr (Or.inr (Or.inr (Or.inr (Or.inr (Or.inr (Or.inr (Or.inr (Or.inl e)))))))))))), (List.forall_mem_cons.mpr ⟨(xne (c := 120) rfl (fun e => c1_0 (Or.inr (Or.inr (Or.inr (Or.inr (Or.inr (Or.inr (Or.inr (Or.inr (Or.inr (Or.inr (Or.inl e))))))))))))), (List.forall_mem_cons.mpr ⟨(xne (c := 121) rfl (fun e => c1_0 (Or.inr (Or.inr (Or.inr (Or.inr (Or.inr (Or.inr (Or.inr (Or.inr (Or.inr (Or.inr (Or.inr e))))))))))))), (fun _ e => absurd e List.not_mem_nil)⟩)⟩)⟩)⟩)⟩)⟩)⟩)⟩)⟩)⟩)⟩)⟩) (by decide +kernel)) (by decide) ?_
    refine ev_iconst (v := 0) dX0_isFact_118 (by decide) ?_
    cases h
    exact ev_zret rfl (Or.inl rfl) (hQ) dX0_isFact_119 (Nat.zero_le _) (Nat.zero_le _)
def fX0_join (p0 : Int32) (p1 : Int64) (p2 : Int64) : Option (Int64) := if p0 = 38 then (if (lg_cmp p1 1) = 0 then (some p2) else (some p1)) else (if p0 = 124 then (if (lg_cmp p1 0) = 0 then (some p2) else (some p1)) else (if (lg_cmp p1 1099511627776) = 0 then (some 1099511627776) else (if (lg_cmp p2 1099511627776) = 0 then (some 1099511627776) else (xlt p1.toInt32 fun x1 => xlt p2.toInt32 fun x2 => if p0 = 37 then (if x2 = 0 then (some 1099511627776) else (xbd (xrem x1 x2) fun v3 => some v3.toInt64)) else (if p0 = 42 then (some ((x1 * x2).toInt64)) else (if p0 = 43 then (some ((x1 + x2).toInt64)) else (if p0 = 45 then (some ((x1 - x2).toInt64)) else (if p0 = 47 then (if x2 = 0 then (some 1099511627776) else (xbd (xdiv x1 x2) fun v4 => some v4.toInt64)) else (if p0 = 60 then (if x2 ≤ x1 then (some 0) else (some 1)) else (if p0 = 61 then (if x1 = x2 then (some 1) else (some 0)) else (if p0 = 62 then (if x1 ≤ x2 then (some 0) else (some 1)) else (some 1099511627776))))))))))))
set_option maxHeartbeats 4000000 in
set_option maxRecDepth 100000 in
theorem kX0_join {E : xE} {d : Nat} {QQ : xP} (hd : 0 ≤ d) {p0 : Int32} {p1 : Int64} {p2 : Int64} {μ : xm} {R : xr} {n : Nat}  {res : Int64} (h : fX0_join p0 p1 p2 = some res) (hQ : QQ (some (.long res)) (xσ μ R) n) : xCon E d Y_X0_join 0 0 [.int p0, .long p1, .long p2] (xσ μ R) n QQ := by
  refine xCon_of pn_RX0 (Nat.le_of_ble_eq_true rfl) (L0 := [(0, .int p0), (1, .long p1), (3, .long p2)]) rfl ?_
  unfold fX0_join at h
  refine ev_iload_n 0 dX0_join_0 rfl rfl ?_
  refine ev_bipush (v := 38) dX0_join_1 (by decide) ?_
  refine ev_icmp_ne (tgt := 18) dX0_join_3 (by decide) (fun c3 => ?_) (fun c3 => ?_)
  · replace h := xif_f c3 h
    refine ev_iload_n 0 dX0_join_18 rfl rfl ?_
    refine ev_bipush (v := 124) dX0_join_19 (by decide) ?_
    refine ev_icmp_ne (tgt := 36) dX0_join_21 (by decide) (fun c21 => ?_) (fun c21 => ?_)
    · replace h := xif_f c21 h
      refine ev_lload_n 1 dX0_join_36 rfl rfl ?_
      refine ev_ldc2 (v := 1099511627776) m_726 dX0_join_37 ?_
      refine ev_lcmp dX0_join_40 ?_
      refine ev_if_eq (tgt := 52) dX0_join_41 (by decide) (fun c41 => ?_) (fun c41 => ?_)
      · replace h := xif_t c41 h
        refine ev_ldc2 (v := 1099511627776) m_726 dX0_join_52 ?_
        cases h
        exact ev_lret rfl (hQ) dX0_join_55 (Nat.zero_le _) (Nat.zero_le _)
      · replace h := xif_f c41 h
        refine ev_lload_n 2 dX0_join_44 rfl rfl ?_
        refine ev_ldc2 (v := 1099511627776) m_726 dX0_join_45 ?_
        refine ev_lcmp dX0_join_48 ?_
        refine ev_if_ne (tgt := 56) dX0_join_49 (by decide) (fun c49 => ?_) (fun c49 => ?_)
        · replace h := xif_f c49 h
          refine ev_lload_n 1 dX0_join_56 rfl rfl ?_
          refine ev_l2i dX0_join_57 ?_
          obtain ⟨x1, hx1, h⟩ := xlt_some h
          refine xv_istore (L' := [(5, .int x1), (0, .int p0), (1, .long p1), (3, .long p2)]) hx1 dX0_join_58 (Nat.le_of_ble_eq_true rfl) rfl ?_
          refine ev_lload_n 3 dX0_join_60 rfl rfl ?_
          refine ev_l2i dX0_join_61 ?_
          obtain ⟨x2, hx2, h⟩ := xlt_some h
          refine xv_istore (L' := [(6, .int x2), (5, .int x1), (0, .int p0), (1, .long p1), (3, .long p2)]) hx2 dX0_join_62 (Nat.le_of_ble_eq_true rfl) rfl ?_
          refine ev_iload_n 2 dX0_join_64 rfl rfl ?_
          by_cases c65_0 : p0 = 37
          · replace h := xif_t c65_0 h
            refine ev_switch (tgt := 223) (off := 158) dX0_join_65 (xsw_in (v := 37) (by rw [c65_0]; rfl) (by decide +kernel)) (by decide) ?_
            refine ev_iload 0 dX0_join_223 rfl ?_
            refine ev_if_ne (tgt := 234) dX0_join_225 (by decide) (fun c225 => ?_) (fun c225 => ?_)
            · replace h := xif_f c225 h
              refine ev_iload 1 dX0_join_234 rfl ?_
              refine ev_iload 0 dX0_join_236 rfl ?_
              obtain ⟨v3, hv3, h⟩ := xbd_some h
              refine xv_irem hv3 dX0_join_238 ?_
              refine ev_i2l dX0_join_239 ?_
              cases h
              exact ev_lret rfl (hQ) dX0_join_240 (Nat.zero_le _) (Nat.zero_le _)
            · replace h := xif_t c225 h
              refine ev_ldc2 (v := 1099511627776) m_726 dX0_join_228 ?_
              refine ev_goto (tgt := 240) dX0_join_231 (by decide) ?_
              cases h
              exact ev_lret rfl (hQ) dX0_join_240 (Nat.zero_le _) (Nat.zero_le _)
          · replace h := xif_f c65_0 h
            by_cases c65_1 : p0 = 42
            · replace h := xif_t c65_1 h
              refine ev_switch (tgt := 198) (off := 133) dX0_join_65 (xsw_in (v := 42) (by rw [c65_1]; rfl) (by decide +kernel)) (by decide) ?_
              refine ev_iload 1 dX0_join_198 rfl ?_
              refine ev_iload 0 dX0_join_200 rfl ?_
              refine ev_imul dX0_join_202 ?_
              refine ev_i2l dX0_join_203 ?_
              cases h
              exact ev_lret rfl (hQ) dX0_join_204 (Nat.zero_le _) (Nat.zero_le _)
            · replace h := xif_f c65_1 h
              by_cases c65_2 : p0 = 43
              · replace h := xif_t c65_2 h
                refine ev_switch (tgt := 184) (off := 119) dX0_join_65 (xsw_in (v := 43) (by rw [c65_2]; rfl) (by decide +kernel)) (by decide) ?_
                refine ev_iload 1 dX0_join_184 rfl ?_
                refine ev_iload 0 dX0_join_186 rfl ?_
                refine ev_iadd dX0_join_188 ?_
                refine ev_i2l dX0_join_189 ?_
                cases h
                exact ev_lret rfl (hQ) dX0_join_190 (Nat.zero_le _) (Nat.zero_le _)
              · replace h := xif_f c65_2 h
                by_cases c65_3 : p0 = 45
                · replace h := xif_t c65_3 h
                  refine ev_switch (tgt := 191) (off := 126) dX0_join_65 (xsw_in (v := 45) (by rw [c65_3]; rfl) (by decide +kernel)) (by decide) ?_
                  refine ev_iload 1 dX0_join_191 rfl ?_
                  refine ev_iload 0 dX0_join_193 rfl ?_
                  refine ev_isub dX0_join_195 ?_
                  refine ev_i2l dX0_join_196 ?_
                  cases h
                  exact ev_lret rfl (hQ) dX0_join_197 (Nat.zero_le _) (Nat.zero_le _)
                · replace h := xif_f c65_3 h
                  by_cases c65_4 : p0 = 47
                  · replace h := xif_t c65_4 h
                    refine ev_switch (tgt := 205) (off := 140) dX0_join_65 (xsw_in (v := 47) (by rw [c65_4]; rfl) (by decide +kernel)) (by decide) ?_
                    refine ev_iload 0 dX0_join_205 rfl ?_
                    refine ev_if_ne (tgt := 216) dX0_join_207 (by decide) (fun c207 => ?_) (fun c207 => ?_)
                    · replace h := xif_f c207 h
                      refine ev_iload 1 dX0_join_216 rfl ?_
                      refine ev_iload 0 dX0_join_218 rfl ?_
                      obtain ⟨v4, hv4, h⟩ := xbd_some h
                      refine xv_idiv hv4 dX0_join_220 ?_
                      refine ev_i2l dX0_join_221 ?_
                      cases h
                      exact ev_lret rfl (hQ) dX0_join_222 (Nat.zero_le _) (Nat.zero_le _)
                    · replace h := xif_t c207 h
                      refine ev_ldc2 (v := 1099511627776) m_726 dX0_join_210 ?_
                      refine ev_goto (tgt := 222) dX0_join_213 (by decide) ?_
                      cases h
                      exact ev_lret rfl (hQ) dX0_join_222 (Nat.zero_le _) (Nat.zero_le _)
                  · replace h := xif_f c65_4 h
                    by_cases c65_5 : p0 = 60
                    · replace h := xif_t c65_5 h
                      refine ev_switch (tgt := 241) (off := 176) dX0_join_65 (xsw_in (v := 60) (by rw [c65_5]; rfl) (by decide +kernel)) (by decide) ?_
                      refine ev_iload 1 dX0_join_241 rfl ?_
                      refine ev_iload 0 dX0_join_243 rfl ?_
                      refine ev_icmp_ge (tgt := 252) dX0_join_245 (by decide) (fun c245 => ?_) (fun c245 => ?_)
                      · replace h := xif_t c245 h
                        refine ev_lconst (v := 0) dX0_join_252 (by decide) ?_
                        cases h
                        exact ev_lret rfl (hQ) dX0_join_253 (Nat.zero_le _) (Nat.zero_le _)
                      · replace h := xif_f c245 h
                        refine ev_lconst (v := 1) dX0_join_248 (by decide) ?_
                        refine ev_goto (tgt := 253) dX0_join_249 (by decide) ?_
                        cases h
                        exact ev_lret rfl (hQ) dX0_join_253 (Nat.zero_le _) (Nat.zero_le _)
                    · replace h := xif_f c65_5 h
                      by_cases c65_6 : p0 = 61
                      · replace h := xif_t c65_6 h
                        refine ev_switch (tgt := 267) (off := 202) dX0_join_65 (xsw_in (v := 61) (by rw [c65_6]; rfl) (by decide +kernel)) (by decide) ?_
                        refine ev_iload 1 dX0_join_267 rfl ?_
                        refine ev_iload 0 dX0_join_269 rfl ?_
                        refine ev_icmp_ne (tgt := 278) dX0_join_271 (by decide) (fun c271 => ?_) (fun c271 => ?_)
                        · replace h := xif_f c271 h
                          refine ev_lconst (v := 0) dX0_join_278 (by decide) ?_
                          cases h
                          exact ev_lret rfl (hQ) dX0_join_279 (Nat.zero_le _) (Nat.zero_le _)
                        · replace h := xif_t c271 h
                          refine ev_lconst (v := 1) dX0_join_274 (by decide) ?_
                          refine ev_goto (tgt := 279) dX0_join_275 (by decide) ?_
                          cases h
                          exact ev_lret rfl (hQ) dX0_join_279 (Nat.zero_le _) (Nat.zero_le _)
                      · replace h := xif_f c65_6 h
                        by_cases c65_7 : p0 = 62
                        · replace h := xif_t c65_7 h
                          refine ev_switch (tgt := 254) (off := 189) dX0_join_65 (xsw_in (v := 62) (by rw [c65_7]; rfl) (by decide +kernel)) (by decide) ?_
                          refine ev_iload 1 dX0_join_254 rfl ?_
                          refine ev_iload 0 dX0_join_256 rfl ?_
                          refine ev_icmp_le (tgt := 265) dX0_join_258 (by decide) (fun c258 => ?_) (fun c258 => ?_)
                          · replace h := xif_t c258 h
                            refine ev_lconst (v := 0) dX0_join_265 (by decide) ?_
                            cases h
                            exact ev_lret rfl (hQ) dX0_join_266 (Nat.zero_le _) (Nat.zero_le _)
                          · replace h := xif_f c258 h
                            refine ev_lconst (v := 1) dX0_join_261 (by decide) ?_
                            refine ev_goto (tgt := 266) dX0_join_262 (by decide) ?_
                            cases h
                            exact ev_lret rfl (hQ) dX0_join_266 (Nat.zero_le _) (Nat.zero_le _)
                        · replace h := xif_f c65_7 h
                          refine ev_switch (tgt := 280) (off := 215) dX0_join_65 (xsw_out [37, 42, 43, 45, 47, 60, 61, 62] (List.forall_mem_cons.mpr ⟨(xne (c := 37) rfl c65_0), (List.forall_mem_cons.mpr ⟨(xne (c := 42) rfl c65_1), (List.forall_mem_cons.mpr ⟨(xne (c := 43) rfl c65_2), (List.forall_mem_cons.mpr ⟨(xne (c := 45) rfl c65_3), (List.forall_mem_cons.mpr ⟨(xne (c := 47) rfl c65_4), (List.forall_mem_cons.mpr ⟨(xne (c := 60) rfl c65_5), (List.forall_mem_cons.mpr ⟨(xne (c := 61) rfl c65_6), (List.forall_mem_cons.mpr ⟨(xne (c := 62) rfl c65_7), (fun _ e => absurd e List.not_mem_nil)⟩)⟩)⟩)⟩)⟩)⟩)⟩)⟩) (by decide +kernel)) (by decide) ?_
                          refine ev_ldc2 (v := 1099511627776) m_726 dX0_join_280 ?_
                          cases h
                          exact ev_lret rfl (hQ) dX0_join_283 (Nat.zero_le _) (Nat.zero_le _)
        · replace h := xif_t c49 h
          refine ev_ldc2 (v := 1099511627776) m_726 dX0_join_52 ?_
          cases h
          exact ev_lret rfl (hQ) dX0_join_55 (Nat.zero_le _) (Nat.zero_le _)
    · replace h := xif_t c21 h
      refine ev_lload_n 1 dX0_join_24 rfl rfl ?_
      refine ev_lconst (v := 0) dX0_join_25 (by decide) ?_
      refine ev_lcmp dX0_join_26 ?_
      refine ev_if_ne (tgt := 34) dX0_join_27 (by decide) (fun c27 => ?_) (fun c27 => ?_)
      · replace h := xif_f c27 h
        refine ev_lload_n 1 dX0_join_34 rfl rfl ?_
        cases h
        exact ev_lret rfl (hQ) dX0_join_35 (Nat.zero_le _) (Nat.zero_le _)
      · replace h := xif_t c27 h
        refine ev_lload_n 2 dX0_join_30 rfl rfl ?_
        refine ev_goto (tgt := 35) dX0_join_31 (by decide) ?_
        cases h
        exact ev_lret rfl (hQ) dX0_join_35 (Nat.zero_le _) (Nat.zero_le _)
  · replace h := xif_t c3 h
    refine ev_lload_n 1 dX0_join_6 rfl rfl ?_
    refine ev_lconst (v := 1) dX0_join_7 (by decide) ?_
    refine ev_lcmp dX0_join_8 ?_
    refine ev_if_ne (tgt := 16) dX0_join_9 (by decide) (fun c9 => ?_) (fun c9 => ?_)
    · replace h := xif_f c9 h
      refine ev_lload_n 1 dX0_join_16 rfl rfl ?_
      cases h
      exact ev_lret rfl (hQ) dX0_join_17 (Nat.zero_le _) (Nat.zero_le _)
    · replace h := xif_t c9 h
      refine ev_lload_n 2 dX0_join_12 rfl rfl ?_
      refine ev_goto (tgt := 17) dX0_join_13 (by decide) ?_
      cases h
      exact ev_lret rfl (hQ) dX0_join_17 (Nat.zero_le _) (Nat.zero_le _)
def fX0_length (o : Nat) (μ : xm) : Option (Int32) := some (μ.1 o 6)
set_option maxHeartbeats 4000000 in
set_option maxRecDepth 100000 in
theorem kX0_length {E : xE} {d : Nat} {QQ : xP} (hd : 0 ≤ d) {o : Nat} {μ : xm} {R : xr} {n : Nat} (hF : xFin R n) (hI : xIs 0 o n) {res : Int32} (h : fX0_length o μ = some res) (hQ : QQ (some (.int res)) (xσ μ R) n) : xCon E d Y_X0_length 0 0 [.ref (E.2.2.2 + o)] (xσ μ R) n QQ := by
  refine xCon_of pn_RX0 (Nat.le_of_ble_eq_true rfl) (L0 := [(0, .ref (E.2.2.2 + o))]) rfl ?_
  unfold fX0_length at h
  refine ev_aload_n 0 dX0_length_0 rfl rfl ?_
  refine xv_getI cl_0 lk_RX0_31 (xIs0_kd hI) (xIs0_lt hI) (fun _ => rfl) dX0_length_1 ?_
  cases h
  exact ev_iret rfl (hQ) dX0_length_4 (Nat.zero_le _) (Nat.zero_le _)
def fX0_not (p0 : Int64) : Option (Int64) := if (lg_cmp p0 1099511627776) = 0 then (some 1099511627776) else (some (1 - p0))
set_option maxHeartbeats 4000000 in
set_option maxRecDepth 100000 in
theorem kX0_not {E : xE} {d : Nat} {QQ : xP} (hd : 0 ≤ d) {p0 : Int64} {μ : xm} {R : xr} {n : Nat}  {res : Int64} (h : fX0_not p0 = some res) (hQ : QQ (some (.long res)) (xσ μ R) n) : xCon E d Y_X0_not 0 0 [.long p0] (xσ μ R) n QQ := by
  refine xCon_of pn_RX0 (Nat.le_of_ble_eq_true rfl) (L0 := [(0, .long p0)]) rfl ?_
  unfold fX0_not at h
  refine ev_lload_n 0 dX0_not_0 rfl rfl ?_
  refine ev_ldc2 (v := 1099511627776) m_726 dX0_not_1 ?_
  refine ev_lcmp dX0_not_4 ?_
  refine ev_if_ne (tgt := 14) dX0_not_5 (by decide) (fun c5 => ?_) (fun c5 => ?_)
  · replace h := xif_f c5 h
    refine ev_lconst (v := 1) dX0_not_14 (by decide) ?_
    refine ev_lload_n 0 dX0_not_15 rfl rfl ?_
    refine ev_lsub dX0_not_16 ?_
    cases h
    exact ev_lret rfl (hQ) dX0_not_17 (Nat.zero_le _) (Nat.zero_le _)
  · replace h := xif_t c5 h
    refine ev_ldc2 (v := 1099511627776) m_726 dX0_not_8 ?_
    refine ev_goto (tgt := 17) dX0_not_11 (by decide) ?_
    cases h
    exact ev_lret rfl (hQ) dX0_not_17 (Nat.zero_le _) (Nat.zero_le _)
def fX0_openClause (o : Nat) (p0 : Int32) (μ : xm) : Option (xm) := if (μ.1 o 6) < 0 then (some μ) else (if (μ.1 o 6) < 14 then (xbd (xsI μ (o + 1) 14 (μ.1 o 6) p0) fun μ1 => xbd (xsI μ1 (o + 2) 14 (μ1.1 o 6) (μ1.1 o 7)) fun μ2 => some μ2) else (some μ))
set_option maxHeartbeats 4000000 in
set_option maxRecDepth 100000 in
theorem kX0_openClause {E : xE} {d : Nat} {QQ : xP} (hd : 0 ≤ d) {o : Nat} {p0 : Int32} {μ : xm} {R : xr} {n : Nat} (hF : xFin R n) (hI : xIs 0 o n) {res : xm} (h : fX0_openClause o p0 μ = some res) (hQ : QQ none (xσ res R) n) : xCon E d Y_X0_openClause 0 0 [.ref (E.2.2.2 + o), .int p0] (xσ μ R) n QQ := by
  refine xCon_of pn_RX0 (Nat.le_of_ble_eq_true rfl) (L0 := [(0, .ref (E.2.2.2 + o)), (1, .int p0)]) rfl ?_
  unfold fX0_openClause at h
  refine ev_aload_n 0 dX0_openClause_0 rfl rfl ?_
  refine xv_getI cl_0 lk_RX0_31 (xIs0_kd hI) (xIs0_lt hI) (fun _ => rfl) dX0_openClause_1 ?_
  refine ev_if_lt (tgt := 16) dX0_openClause_4 (by decide) (fun c4 => ?_) (fun c4 => ?_)
  · replace h := xif_t c4 h
    cases h
    exact ev_vret rfl (hQ) dX0_openClause_16 (Nat.zero_le _) (Nat.zero_le _)
  · replace h := xif_f c4 h
    refine ev_aload_n 0 dX0_openClause_7 rfl rfl ?_
    refine xv_getI cl_0 lk_RX0_31 (xIs0_kd hI) (xIs0_lt hI) (fun _ => rfl) dX0_openClause_8 ?_
    refine ev_bipush (v := 14) dX0_openClause_11 (by decide) ?_
    refine ev_icmp_lt (tgt := 17) dX0_openClause_13 (by decide) (fun c13 => ?_) (fun c13 => ?_)
    · replace h := xif_t c13 h
      refine ev_aload_n 0 dX0_openClause_17 rfl rfl ?_
      refine xv_getF (a := (o + 1)) cl_0 lk_RX0_9 (xIs0_kd hI) (xIs0_lt hI) (fun _ => rfl) (xIs0_fr0 hF hI) dX0_openClause_18 ?_
      refine ev_aload_n 0 dX0_openClause_21 rfl rfl ?_
      refine xv_getI cl_0 lk_RX0_31 (xIs0_kd hI) (xIs0_lt hI) (fun _ => rfl) dX0_openClause_22 ?_
      refine ev_iload_n 1 dX0_openClause_25 rfl rfl ?_
      obtain ⟨μ1, hμ1, h⟩ := xbd_some h
      refine xv_iast (xIs0_kd0 hI) (xIs0_lt0 hI) hμ1 dX0_openClause_26 ?_
      refine ev_aload_n 0 dX0_openClause_27 rfl rfl ?_
      refine xv_getF (a := (o + 2)) cl_0 lk_RX0_15 (xIs0_kd hI) (xIs0_lt hI) (fun _ => rfl) (xIs0_fr1 hF hI) dX0_openClause_28 ?_
      refine ev_aload_n 0 dX0_openClause_31 rfl rfl ?_
      refine xv_getI cl_0 lk_RX0_31 (xIs0_kd hI) (xIs0_lt hI) (fun _ => rfl) dX0_openClause_32 ?_
      refine ev_aload_n 0 dX0_openClause_35 rfl rfl ?_
      refine xv_getI cl_0 lk_RX0_35 (xIs0_kd hI) (xIs0_lt hI) (fun _ => rfl) dX0_openClause_36 ?_
      obtain ⟨μ2, hμ2, h⟩ := xbd_some h
      refine xv_iast (xIs0_kd1 hI) (xIs0_lt1 hI) hμ2 dX0_openClause_39 ?_
      cases h
      exact ev_vret rfl (hQ) dX0_openClause_40 (Nat.zero_le _) (Nat.zero_le _)
    · replace h := xif_f c13 h
      cases h
      exact ev_vret rfl (hQ) dX0_openClause_16 (Nat.zero_le _) (Nat.zero_le _)
def fX0_openCondition (o : Nat) (μ : xm) : Option (xm) := if (μ.1 o 6) < 0 then (some μ) else (if 14 ≤ (μ.1 o 6) then (some μ) else (xbd (xsI μ (o + 3) 14 (μ.1 o 6) (μ.1 o 7)) fun μ1 => some μ1))
set_option maxHeartbeats 4000000 in
set_option maxRecDepth 100000 in
theorem kX0_openCondition {E : xE} {d : Nat} {QQ : xP} (hd : 0 ≤ d) {o : Nat} {μ : xm} {R : xr} {n : Nat} (hF : xFin R n) (hI : xIs 0 o n) {res : xm} (h : fX0_openCondition o μ = some res) (hQ : QQ none (xσ res R) n) : xCon E d Y_X0_openCondition 0 0 [.ref (E.2.2.2 + o)] (xσ μ R) n QQ := by
  refine xCon_of pn_RX0 (Nat.le_of_ble_eq_true rfl) (L0 := [(0, .ref (E.2.2.2 + o))]) rfl ?_
  unfold fX0_openCondition at h
  refine ev_aload_n 0 dX0_openCondition_0 rfl rfl ?_
  refine xv_getI cl_0 lk_RX0_31 (xIs0_kd hI) (xIs0_lt hI) (fun _ => rfl) dX0_openCondition_1 ?_
  refine ev_if_lt (tgt := 29) dX0_openCondition_4 (by decide) (fun c4 => ?_) (fun c4 => ?_)
  · replace h := xif_t c4 h
    cases h
    exact ev_vret rfl (hQ) dX0_openCondition_29 (Nat.zero_le _) (Nat.zero_le _)
  · replace h := xif_f c4 h
    refine ev_aload_n 0 dX0_openCondition_7 rfl rfl ?_
    refine xv_getI cl_0 lk_RX0_31 (xIs0_kd hI) (xIs0_lt hI) (fun _ => rfl) dX0_openCondition_8 ?_
    refine ev_bipush (v := 14) dX0_openCondition_11 (by decide) ?_
    refine ev_icmp_ge (tgt := 29) dX0_openCondition_13 (by decide) (fun c13 => ?_) (fun c13 => ?_)
    · replace h := xif_t c13 h
      cases h
      exact ev_vret rfl (hQ) dX0_openCondition_29 (Nat.zero_le _) (Nat.zero_le _)
    · replace h := xif_f c13 h
      refine ev_aload_n 0 dX0_openCondition_16 rfl rfl ?_
      refine xv_getF (a := (o + 3)) cl_0 lk_RX0_18 (xIs0_kd hI) (xIs0_lt hI) (fun _ => rfl) (xIs0_fr2 hF hI) dX0_openCondition_17 ?_
      refine ev_aload_n 0 dX0_openCondition_20 rfl rfl ?_
      refine xv_getI cl_0 lk_RX0_31 (xIs0_kd hI) (xIs0_lt hI) (fun _ => rfl) dX0_openCondition_21 ?_
      refine ev_aload_n 0 dX0_openCondition_24 rfl rfl ?_
      refine xv_getI cl_0 lk_RX0_35 (xIs0_kd hI) (xIs0_lt hI) (fun _ => rfl) dX0_openCondition_25 ?_
      obtain ⟨μ1, hμ1, h⟩ := xbd_some h
      refine xv_iast (xIs0_kd2 hI) (xIs0_lt2 hI) hμ1 dX0_openCondition_28 ?_
      cases h
      exact ev_vret rfl (hQ) dX0_openCondition_29 (Nat.zero_le _) (Nat.zero_le _)
def fX0_valueOf (p0 : Int32) (p1 : Nat) (μ : xm) : Option (Int32) := xlt (p0 - 97) fun x1 => if x1 < 0 then (some 0) else (if (Int32.ofNat (xkd p1).2) ≤ x1 then (some 0) else (xbd (xgI μ p1 (xkd p1).2 x1) fun v2 => some v2))
set_option maxHeartbeats 4000000 in
set_option maxRecDepth 100000 in
theorem kX0_valueOf {E : xE} {d : Nat} {QQ : xP} (hd : 0 ≤ d) {p0 : Int32} {p1 : Nat} {μ : xm} {R : xr} {n : Nat} (hF : xFin R n) (hp1 : xIsA 1 p1 n) {res : Int32} (h : fX0_valueOf p0 p1 μ = some res) (hQ : QQ (some (.int res)) (xσ μ R) n) : xCon E d Y_X0_valueOf 0 0 [.int p0, .ref (E.2.2.2 + p1)] (xσ μ R) n QQ := by
  refine xCon_of pn_RX0 (Nat.le_of_ble_eq_true rfl) (L0 := [(0, .int p0), (1, .ref (E.2.2.2 + p1))]) rfl ?_
  unfold fX0_valueOf at h
  refine ev_iload_n 0 dX0_valueOf_0 rfl rfl ?_
  refine ev_bipush (v := 97) dX0_valueOf_1 (by decide) ?_
  refine ev_isub dX0_valueOf_3 ?_
  obtain ⟨x1, hx1, h⟩ := xlt_some h
  refine xv_istore_n (L' := [(2, .int x1), (0, .int p0), (1, .ref (E.2.2.2 + p1))]) hx1 dX0_valueOf_4 rfl (Nat.le_of_ble_eq_true rfl) rfl ?_
  refine ev_iload_n 0 dX0_valueOf_5 rfl rfl ?_
  refine ev_if_lt (tgt := 21) dX0_valueOf_6 (by decide) (fun c6 => ?_) (fun c6 => ?_)
  · replace h := xif_t c6 h
    refine ev_iconst (v := 0) dX0_valueOf_21 (by decide) ?_
    cases h
    exact ev_iret rfl (hQ) dX0_valueOf_22 (Nat.zero_le _) (Nat.zero_le _)
  · replace h := xif_f c6 h
    refine ev_iload_n 0 dX0_valueOf_9 rfl rfl ?_
    refine ev_aload_n 2 dX0_valueOf_10 rfl rfl ?_
    refine ev_alen (v := Int32.ofNat (xkd p1).2) 0 (by decide) (xIsA_kd hp1) hp1.2 rfl dX0_valueOf_11 ?_
    refine ev_icmp_ge (tgt := 21) dX0_valueOf_12 (by decide) (fun c12 => ?_) (fun c12 => ?_)
    · replace h := xif_t c12 h
      refine ev_iconst (v := 0) dX0_valueOf_21 (by decide) ?_
      cases h
      exact ev_iret rfl (hQ) dX0_valueOf_22 (Nat.zero_le _) (Nat.zero_le _)
    · replace h := xif_f c12 h
      refine ev_aload_n 2 dX0_valueOf_15 rfl rfl ?_
      refine ev_iload_n 0 dX0_valueOf_16 rfl rfl ?_
      obtain ⟨v2, hv2, h⟩ := xbd_some h
      refine xv_iald (xIsA_kd hp1) hp1.2 hv2 dX0_valueOf_17 ?_
      refine ev_goto (tgt := 22) dX0_valueOf_18 (by decide) ?_
      cases h
      exact ev_iret rfl (hQ) dX0_valueOf_22 (Nat.zero_le _) (Nat.zero_le _)
def fX10_allOfBridge (μ : xm) : Option (Int32) := some (μ.1 iC_ways 8)
set_option maxHeartbeats 4000000 in
set_option maxRecDepth 100000 in
theorem kX10_allOfBridge {E : xE} {d : Nat} {QQ : xP} (hd : 0 ≤ d)  {μ : xm} {R : xr} {n : Nat} (hF : xFin R n)  {res : Int32} (h : fX10_allOfBridge μ = some res) (hQ : QQ (some (.int res)) (xσ μ R) n) : xCon E d Y_X10_allOfBridge 0 0 [.ref (E.2.2.2 + iC_ways)] (xσ μ R) n QQ := by
  refine xCon_of pn_RX10 (Nat.le_of_ble_eq_true rfl) (L0 := [(0, .ref (E.2.2.2 + iC_ways))]) rfl ?_
  unfold fX10_allOfBridge at h
  refine ev_aload_n 0 dX10_allOfBridge_0 rfl rfl ?_
  refine xv_getI cl_10 lk_RX10_32 kd_42 (xl hF rfl) (fun _ => rfl) dX10_allOfBridge_1 ?_
  cases h
  exact ev_iret rfl (hQ) dX10_allOfBridge_4 (Nat.zero_le _) (Nat.zero_le _)
def fX10_bridgeWeight (p0 : Int32) (μ : xm) : Option (Int32) := if p0 = 1 then (some (μ.1 iC_ways 7)) else (some ((μ.1 iC_ways 8) - (μ.1 iC_ways 7)))
set_option maxHeartbeats 4000000 in
set_option maxRecDepth 100000 in
theorem kX10_bridgeWeight {E : xE} {d : Nat} {QQ : xP} (hd : 0 ≤ d) {p0 : Int32} {μ : xm} {R : xr} {n : Nat} (hF : xFin R n)  {res : Int32} (h : fX10_bridgeWeight p0 μ = some res) (hQ : QQ (some (.int res)) (xσ μ R) n) : xCon E d Y_X10_bridgeWeight 0 0 [.ref (E.2.2.2 + iC_ways), .int p0] (xσ μ R) n QQ := by
  refine xCon_of pn_RX10 (Nat.le_of_ble_eq_true rfl) (L0 := [(0, .ref (E.2.2.2 + iC_ways)), (1, .int p0)]) rfl ?_
  unfold fX10_bridgeWeight at h
  refine ev_iload_n 1 dX10_bridgeWeight_0 rfl rfl ?_
  refine ev_iconst (v := 1) dX10_bridgeWeight_1 (by decide) ?_
  refine ev_icmp_ne (tgt := 12) dX10_bridgeWeight_2 (by decide) (fun c2 => ?_) (fun c2 => ?_)
  · replace h := xif_f c2 h
    refine ev_aload_n 0 dX10_bridgeWeight_12 rfl rfl ?_
    refine xv_getI cl_10 lk_RX10_32 kd_42 (xl hF rfl) (fun _ => rfl) dX10_bridgeWeight_13 ?_
    refine ev_aload_n 0 dX10_bridgeWeight_16 rfl rfl ?_
    refine xv_getI cl_10 lk_RX10_60 kd_42 (xl hF rfl) (fun _ => rfl) dX10_bridgeWeight_17 ?_
    refine ev_isub dX10_bridgeWeight_20 ?_
    cases h
    exact ev_iret rfl (hQ) dX10_bridgeWeight_21 (Nat.zero_le _) (Nat.zero_le _)
  · replace h := xif_t c2 h
    refine ev_aload_n 0 dX10_bridgeWeight_5 rfl rfl ?_
    refine xv_getI cl_10 lk_RX10_60 kd_42 (xl hF rfl) (fun _ => rfl) dX10_bridgeWeight_6 ?_
    refine ev_goto (tgt := 21) dX10_bridgeWeight_9 (by decide) ?_
    cases h
    exact ev_iret rfl (hQ) dX10_bridgeWeight_21 (Nat.zero_le _) (Nat.zero_le _)
def fX10_drawNext (μ : xm) : Option (Int32 × xm) := xlt (xpI μ iC_ways 10 (((25173 * (μ.1 iC_ways 10)) + 13849) - ((25173 * (μ.1 iC_ways 10)) + 13849) / 65536 * 65536)) fun μ1 => some (μ1.1 iC_ways 10, μ1)
set_option maxHeartbeats 4000000 in
set_option maxRecDepth 100000 in
theorem kX10_drawNext {E : xE} {d : Nat} {QQ : xP} (hd : 0 ≤ d)  {μ : xm} {R : xr} {n : Nat} (hF : xFin R n)  {res : Int32 × xm} (h : fX10_drawNext μ = some res) (hQ : QQ (some (.int res.1)) (xσ res.2 R) n) : xCon E d Y_X10_drawNext 0 0 [.ref (E.2.2.2 + iC_ways)] (xσ μ R) n QQ := by
  refine xCon_of pn_RX10 (Nat.le_of_ble_eq_true rfl) (L0 := [(0, .ref (E.2.2.2 + iC_ways))]) rfl ?_
  unfold fX10_drawNext at h
  refine ev_aload_n 0 dX10_drawNext_0 rfl rfl ?_
  refine ev_sipush (v := 25173) dX10_drawNext_1 (by decide) ?_
  refine ev_aload_n 0 dX10_drawNext_4 rfl rfl ?_
  refine xv_getI cl_10 lk_RX10_36 kd_42 (xl hF rfl) (fun _ => rfl) dX10_drawNext_5 ?_
  refine ev_imul dX10_drawNext_8 ?_
  refine ev_sipush (v := 13849) dX10_drawNext_9 (by decide) ?_
  refine ev_iadd dX10_drawNext_12 ?_
  refine ev_ldc (v := 65536) m_1195 dX10_drawNext_13 ?_
  refine ev_irem dX10_drawNext_15 (by decide) ?_
  obtain ⟨μ1, hμ1, h⟩ := xlt_some h
  refine xv_putI cl_10 lk_RX10_36 rfl kd_42 (xl hF rfl) rfl rfl (fun _ => rfl) hμ1 dX10_drawNext_16 ?_
  refine ev_aload_n 0 dX10_drawNext_19 rfl rfl ?_
  refine xv_getI cl_10 lk_RX10_36 kd_42 (xl hF rfl) (fun _ => rfl) dX10_drawNext_20 ?_
  cases h
  exact ev_iret rfl (hQ) dX10_drawNext_23 (Nat.zero_le _) (Nat.zero_le _)
def fX10_drawn (μ : xm) : Option (Int32) := some (μ.1 iC_ways 10)
set_option maxHeartbeats 4000000 in
set_option maxRecDepth 100000 in
theorem kX10_drawn {E : xE} {d : Nat} {QQ : xP} (hd : 0 ≤ d)  {μ : xm} {R : xr} {n : Nat} (hF : xFin R n)  {res : Int32} (h : fX10_drawn μ = some res) (hQ : QQ (some (.int res)) (xσ μ R) n) : xCon E d Y_X10_drawn 0 0 [.ref (E.2.2.2 + iC_ways)] (xσ μ R) n QQ := by
  refine xCon_of pn_RX10 (Nat.le_of_ble_eq_true rfl) (L0 := [(0, .ref (E.2.2.2 + iC_ways))]) rfl ?_
  unfold fX10_drawn at h
  refine ev_aload_n 0 dX10_drawn_0 rfl rfl ?_
  refine xv_getI cl_10 lk_RX10_36 kd_42 (xl hF rfl) (fun _ => rfl) dX10_drawn_1 ?_
  cases h
  exact ev_iret rfl (hQ) dX10_drawn_4 (Nat.zero_le _) (Nat.zero_le _)
def fX10_setBridge (p0 : Int32) (p1 : Int32) (p2 : Int32) (μ : xm) : Option (xm) := xlt (xpI μ iC_ways 7 p0) fun μ1 => xlt (xpI μ1 iC_ways 8 p1) fun μ2 => xlt (xpI μ2 iC_ways 9 p2) fun μ3 => some μ3
set_option maxHeartbeats 4000000 in
set_option maxRecDepth 100000 in
theorem kX10_setBridge {E : xE} {d : Nat} {QQ : xP} (hd : 0 ≤ d) {p0 : Int32} {p1 : Int32} {p2 : Int32} {μ : xm} {R : xr} {n : Nat} (hF : xFin R n)  {res : xm} (h : fX10_setBridge p0 p1 p2 μ = some res) (hQ : QQ none (xσ res R) n) : xCon E d Y_X10_setBridge 0 0 [.ref (E.2.2.2 + iC_ways), .int p0, .int p1, .int p2] (xσ μ R) n QQ := by
  refine xCon_of pn_RX10 (Nat.le_of_ble_eq_true rfl) (L0 := [(0, .ref (E.2.2.2 + iC_ways)), (1, .int p0), (2, .int p1), (3, .int p2)]) rfl ?_
  unfold fX10_setBridge at h
  refine ev_aload_n 0 dX10_setBridge_0 rfl rfl ?_
  refine ev_iload_n 1 dX10_setBridge_1 rfl rfl ?_
  obtain ⟨μ1, hμ1, h⟩ := xlt_some h
  refine xv_putI cl_10 lk_RX10_60 rfl kd_42 (xl hF rfl) rfl rfl (fun _ => rfl) hμ1 dX10_setBridge_2 ?_
  refine ev_aload_n 0 dX10_setBridge_5 rfl rfl ?_
  refine ev_iload_n 2 dX10_setBridge_6 rfl rfl ?_
  obtain ⟨μ2, hμ2, h⟩ := xlt_some h
  refine xv_putI cl_10 lk_RX10_32 rfl kd_42 (xl hF rfl) rfl rfl (fun _ => rfl) hμ2 dX10_setBridge_7 ?_
  refine ev_aload_n 0 dX10_setBridge_10 rfl rfl ?_
  refine ev_iload_n 3 dX10_setBridge_11 rfl rfl ?_
  obtain ⟨μ3, hμ3, h⟩ := xlt_some h
  refine xv_putI cl_10 lk_RX10_57 rfl kd_42 (xl hF rfl) rfl rfl (fun _ => rfl) hμ3 dX10_setBridge_12 ?_
  cases h
  exact ev_vret rfl (hQ) dX10_setBridge_15 (Nat.zero_le _) (Nat.zero_le _)
def fX10_setDrawn (p0 : Int32) (μ : xm) : Option (xm) := xlt (xpI μ iC_ways 10 p0) fun μ1 => some μ1
set_option maxHeartbeats 4000000 in
set_option maxRecDepth 100000 in
theorem kX10_setDrawn {E : xE} {d : Nat} {QQ : xP} (hd : 0 ≤ d) {p0 : Int32} {μ : xm} {R : xr} {n : Nat} (hF : xFin R n)  {res : xm} (h : fX10_setDrawn p0 μ = some res) (hQ : QQ none (xσ res R) n) : xCon E d Y_X10_setDrawn 0 0 [.ref (E.2.2.2 + iC_ways), .int p0] (xσ μ R) n QQ := by
  refine xCon_of pn_RX10 (Nat.le_of_ble_eq_true rfl) (L0 := [(0, .ref (E.2.2.2 + iC_ways)), (1, .int p0)]) rfl ?_
  unfold fX10_setDrawn at h
  refine ev_aload_n 0 dX10_setDrawn_0 rfl rfl ?_
  refine ev_iload_n 1 dX10_setDrawn_1 rfl rfl ?_
  obtain ⟨μ1, hμ1, h⟩ := xlt_some h
  refine xv_putI cl_10 lk_RX10_36 rfl kd_42 (xl hF rfl) rfl rfl (fun _ => rfl) hμ1 dX10_setDrawn_2 ?_
  cases h
  exact ev_vret rfl (hQ) dX10_setDrawn_5 (Nat.zero_le _) (Nat.zero_le _)
def fX11_isPerson (p0 : Int32) : Option (Int32) := if p0 < 0 then (some 0) else (if 8 ≤ p0 then (some 0) else (some 1))
set_option maxHeartbeats 4000000 in
set_option maxRecDepth 100000 in
theorem kX11_isPerson {E : xE} {d : Nat} {QQ : xP} (hd : 0 ≤ d) {p0 : Int32} {μ : xm} {R : xr} {n : Nat}  {res : Int32} (h : fX11_isPerson p0 = some res) (hQ : QQ (some (.int res)) (xσ μ R) n) : xCon E d Y_X11_isPerson 0 0 [.int p0] (xσ μ R) n QQ := by
  refine xCon_of pn_RX11 (Nat.le_of_ble_eq_true rfl) (L0 := [(0, .int p0)]) rfl ?_
  unfold fX11_isPerson at h
  refine ev_iload_n 0 dX11_isPerson_0 rfl rfl ?_
  refine ev_if_lt (tgt := 14) dX11_isPerson_1 (by decide) (fun c1 => ?_) (fun c1 => ?_)
  · replace h := xif_t c1 h
    refine ev_iconst (v := 0) dX11_isPerson_14 (by decide) ?_
    cases h
    exact ev_zret rfl (Or.inl rfl) (hQ) dX11_isPerson_15 (Nat.zero_le _) (Nat.zero_le _)
  · replace h := xif_f c1 h
    refine ev_iload_n 0 dX11_isPerson_4 rfl rfl ?_
    refine ev_bipush (v := 8) dX11_isPerson_5 (by decide) ?_
    refine ev_icmp_ge (tgt := 14) dX11_isPerson_7 (by decide) (fun c7 => ?_) (fun c7 => ?_)
    · replace h := xif_t c7 h
      refine ev_iconst (v := 0) dX11_isPerson_14 (by decide) ?_
      cases h
      exact ev_zret rfl (Or.inl rfl) (hQ) dX11_isPerson_15 (Nat.zero_le _) (Nat.zero_le _)
    · replace h := xif_f c7 h
      refine ev_iconst (v := 1) dX11_isPerson_10 (by decide) ?_
      refine ev_goto (tgt := 15) dX11_isPerson_11 (by decide) ?_
      cases h
      exact ev_zret rfl (Or.inr rfl) (hQ) dX11_isPerson_15 (Nat.zero_le _) (Nat.zero_le _)
def fX11_leftOver (p0 : Int32) (p1 : Int32) : Option (Int32) := if p1 = 0 then (some 0) else (xbd (xrem p0 p1) fun v1 => some v1)
set_option maxHeartbeats 4000000 in
set_option maxRecDepth 100000 in
theorem kX11_leftOver {E : xE} {d : Nat} {QQ : xP} (hd : 0 ≤ d) {p0 : Int32} {p1 : Int32} {μ : xm} {R : xr} {n : Nat}  {res : Int32} (h : fX11_leftOver p0 p1 = some res) (hQ : QQ (some (.int res)) (xσ μ R) n) : xCon E d Y_X11_leftOver 0 0 [.int p0, .int p1] (xσ μ R) n QQ := by
  refine xCon_of pn_RX11 (Nat.le_of_ble_eq_true rfl) (L0 := [(0, .int p0), (1, .int p1)]) rfl ?_
  unfold fX11_leftOver at h
  refine ev_iload_n 1 dX11_leftOver_0 rfl rfl ?_
  refine ev_if_ne (tgt := 8) dX11_leftOver_1 (by decide) (fun c1 => ?_) (fun c1 => ?_)
  · replace h := xif_f c1 h
    refine ev_iload_n 0 dX11_leftOver_8 rfl rfl ?_
    refine ev_iload_n 1 dX11_leftOver_9 rfl rfl ?_
    obtain ⟨v1, hv1, h⟩ := xbd_some h
    refine xv_irem hv1 dX11_leftOver_10 ?_
    cases h
    exact ev_iret rfl (hQ) dX11_leftOver_11 (Nat.zero_le _) (Nat.zero_le _)
  · replace h := xif_t c1 h
    refine ev_iconst (v := 0) dX11_leftOver_4 (by decide) ?_
    refine ev_goto (tgt := 11) dX11_leftOver_5 (by decide) ?_
    cases h
    exact ev_iret rfl (hQ) dX11_leftOver_11 (Nat.zero_le _) (Nat.zero_le _)
def fX11_whole (p0 : Int32) (p1 : Int32) : Option (Int32) := if p1 = 0 then (some 0) else (xbd (xdiv p0 p1) fun v1 => some v1)
set_option maxHeartbeats 4000000 in
set_option maxRecDepth 100000 in
theorem kX11_whole {E : xE} {d : Nat} {QQ : xP} (hd : 0 ≤ d) {p0 : Int32} {p1 : Int32} {μ : xm} {R : xr} {n : Nat}  {res : Int32} (h : fX11_whole p0 p1 = some res) (hQ : QQ (some (.int res)) (xσ μ R) n) : xCon E d Y_X11_whole 0 0 [.int p0, .int p1] (xσ μ R) n QQ := by
  refine xCon_of pn_RX11 (Nat.le_of_ble_eq_true rfl) (L0 := [(0, .int p0), (1, .int p1)]) rfl ?_
  unfold fX11_whole at h
  refine ev_iload_n 1 dX11_whole_0 rfl rfl ?_
  refine ev_if_ne (tgt := 8) dX11_whole_1 (by decide) (fun c1 => ?_) (fun c1 => ?_)
  · replace h := xif_f c1 h
    refine ev_iload_n 0 dX11_whole_8 rfl rfl ?_
    refine ev_iload_n 1 dX11_whole_9 rfl rfl ?_
    obtain ⟨v1, hv1, h⟩ := xbd_some h
    refine xv_idiv hv1 dX11_whole_10 ?_
    cases h
    exact ev_iret rfl (hQ) dX11_whole_11 (Nat.zero_le _) (Nat.zero_le _)
  · replace h := xif_t c1 h
    refine ev_iconst (v := 0) dX11_whole_4 (by decide) ?_
    refine ev_goto (tgt := 11) dX11_whole_5 (by decide) ?_
    cases h
    exact ev_iret rfl (hQ) dX11_whole_11 (Nat.zero_le _) (Nat.zero_le _)
def fX11_within (p0 : Int32) (p1 : Int32) (p2 : Int32) : Option (Int32) := if p0 < p1 then (some 0) else (if p2 < p0 then (some 0) else (some 1))
set_option maxHeartbeats 4000000 in
set_option maxRecDepth 100000 in
theorem kX11_within {E : xE} {d : Nat} {QQ : xP} (hd : 0 ≤ d) {p0 : Int32} {p1 : Int32} {p2 : Int32} {μ : xm} {R : xr} {n : Nat}  {res : Int32} (h : fX11_within p0 p1 p2 = some res) (hQ : QQ (some (.int res)) (xσ μ R) n) : xCon E d Y_X11_within 0 0 [.int p0, .int p1, .int p2] (xσ μ R) n QQ := by
  refine xCon_of pn_RX11 (Nat.le_of_ble_eq_true rfl) (L0 := [(0, .int p0), (1, .int p1), (2, .int p2)]) rfl ?_
  unfold fX11_within at h
  refine ev_iload_n 0 dX11_within_0 rfl rfl ?_
  refine ev_iload_n 1 dX11_within_1 rfl rfl ?_
  refine ev_icmp_lt (tgt := 14) dX11_within_2 (by decide) (fun c2 => ?_) (fun c2 => ?_)
  · replace h := xif_t c2 h
    refine ev_iconst (v := 0) dX11_within_14 (by decide) ?_
    cases h
    exact ev_zret rfl (Or.inl rfl) (hQ) dX11_within_15 (Nat.zero_le _) (Nat.zero_le _)
  · replace h := xif_f c2 h
    refine ev_iload_n 0 dX11_within_5 rfl rfl ?_
    refine ev_iload_n 2 dX11_within_6 rfl rfl ?_
    refine ev_icmp_gt (tgt := 14) dX11_within_7 (by decide) (fun c7 => ?_) (fun c7 => ?_)
    · replace h := xif_t c7 h
      refine ev_iconst (v := 0) dX11_within_14 (by decide) ?_
      cases h
      exact ev_zret rfl (Or.inl rfl) (hQ) dX11_within_15 (Nat.zero_le _) (Nat.zero_le _)
    · replace h := xif_f c7 h
      refine ev_iconst (v := 1) dX11_within_10 (by decide) ?_
      refine ev_goto (tgt := 15) dX11_within_11 (by decide) ?_
      cases h
      exact ev_zret rfl (Or.inr rfl) (hQ) dX11_within_15 (Nat.zero_le _) (Nat.zero_le _)
def fX1_current (μ : xm) (R : xr) : Option (Option Nat) := xbd (R iC_reader 1) fun a1 => some (some a1)
set_option maxHeartbeats 4000000 in
set_option maxRecDepth 100000 in
theorem kX1_current {E : xE} {d : Nat} {QQ : xP} (hd : 0 ≤ d)  {μ : xm} {R : xr} {n : Nat} (hF : xFin R n)  {res : Option Nat} (h : fX1_current μ R = some res) (hQ : (∀ a, res = some a → xIs 0 a n) → QQ (some (xrf E.2.2.2 res)) (xσ μ R) n) : xCon E d Y_X1_current 0 0 [.ref (E.2.2.2 + iC_reader)] (xσ μ R) n QQ := by
  refine xCon_of pn_RX1 (Nat.le_of_ble_eq_true rfl) (L0 := [(0, .ref (E.2.2.2 + iC_reader))]) rfl ?_
  unfold fX1_current at h
  refine ev_aload_n 0 dX1_current_0 rfl rfl ?_
  refine xv_getR cl_1 lk_RX1_18 kd_3 (xl hF rfl) (fun _ => rfl) dX1_current_1 ?_
  obtain ⟨a1, ha1, h⟩ := xbd_some h
  refine xv_nn ha1 ?_
  replace ha1 := dy_3_1 hF _ ha1
  cases h
  exact ev_aret (v := (some a1)) rfl (Or.inl ⟨_, rfl⟩) (hQ (fun a ha => by cases ha; exact ha1)) dX1_current_4 (Nat.zero_le _) (Nat.zero_le _)
def fX1_isDigit (p0 : Int32) : Option (Int32) := if p0 < 48 then (some 0) else (if 57 < p0 then (some 0) else (some 1))
set_option maxHeartbeats 4000000 in
set_option maxRecDepth 100000 in
theorem kX1_isDigit {E : xE} {d : Nat} {QQ : xP} (hd : 0 ≤ d) {p0 : Int32} {μ : xm} {R : xr} {n : Nat}  {res : Int32} (h : fX1_isDigit p0 = some res) (hQ : QQ (some (.int res)) (xσ μ R) n) : xCon E d Y_X1_isDigit 0 0 [.int p0] (xσ μ R) n QQ := by
  refine xCon_of pn_RX1 (Nat.le_of_ble_eq_true rfl) (L0 := [(0, .int p0)]) rfl ?_
  unfold fX1_isDigit at h
  refine ev_iload_n 0 dX1_isDigit_0 rfl rfl ?_
  refine ev_bipush (v := 48) dX1_isDigit_1 (by decide) ?_
  refine ev_icmp_lt (tgt := 16) dX1_isDigit_3 (by decide) (fun c3 => ?_) (fun c3 => ?_)
  · replace h := xif_t c3 h
    refine ev_iconst (v := 0) dX1_isDigit_16 (by decide) ?_
    cases h
    exact ev_zret rfl (Or.inl rfl) (hQ) dX1_isDigit_17 (Nat.zero_le _) (Nat.zero_le _)
  · replace h := xif_f c3 h
    refine ev_iload_n 0 dX1_isDigit_6 rfl rfl ?_
    refine ev_bipush (v := 57) dX1_isDigit_7 (by decide) ?_
    refine ev_icmp_gt (tgt := 16) dX1_isDigit_9 (by decide) (fun c9 => ?_) (fun c9 => ?_)
    · replace h := xif_t c9 h
      refine ev_iconst (v := 0) dX1_isDigit_16 (by decide) ?_
      cases h
      exact ev_zret rfl (Or.inl rfl) (hQ) dX1_isDigit_17 (Nat.zero_le _) (Nat.zero_le _)
    · replace h := xif_f c9 h
      refine ev_iconst (v := 1) dX1_isDigit_12 (by decide) ?_
      refine ev_goto (tgt := 17) dX1_isDigit_13 (by decide) ?_
      cases h
      exact ev_zret rfl (Or.inr rfl) (hQ) dX1_isDigit_17 (Nat.zero_le _) (Nat.zero_le _)
def fX1_isOperator (p0 : Int32) : Option (Int32) := if p0 = 43 then (some 1) else (if p0 = 45 then (some 1) else (if p0 = 42 then (some 1) else (if p0 = 47 then (some 1) else (if p0 = 37 then (some 1) else (some 0)))))
set_option maxHeartbeats 4000000 in
set_option maxRecDepth 100000 in
theorem kX1_isOperator {E : xE} {d : Nat} {QQ : xP} (hd : 0 ≤ d) {p0 : Int32} {μ : xm} {R : xr} {n : Nat}  {res : Int32} (h : fX1_isOperator p0 = some res) (hQ : QQ (some (.int res)) (xσ μ R) n) : xCon E d Y_X1_isOperator 0 0 [.int p0] (xσ μ R) n QQ := by
  refine xCon_of pn_RX1 (Nat.le_of_ble_eq_true rfl) (L0 := [(0, .int p0)]) rfl ?_
  unfold fX1_isOperator at h
  refine ev_iload_n 0 dX1_isOperator_0 rfl rfl ?_
  refine ev_bipush (v := 43) dX1_isOperator_1 (by decide) ?_
  refine ev_icmp_eq (tgt := 30) dX1_isOperator_3 (by decide) (fun c3 => ?_) (fun c3 => ?_)
  · replace h := xif_t c3 h
    refine ev_iconst (v := 1) dX1_isOperator_30 (by decide) ?_
    refine ev_goto (tgt := 35) dX1_isOperator_31 (by decide) ?_
    cases h
    exact ev_zret rfl (Or.inr rfl) (hQ) dX1_isOperator_35 (Nat.zero_le _) (Nat.zero_le _)
  · replace h := xif_f c3 h
    refine ev_iload_n 0 dX1_isOperator_6 rfl rfl ?_
    refine ev_bipush (v := 45) dX1_isOperator_7 (by decide) ?_
    refine ev_icmp_eq (tgt := 30) dX1_isOperator_9 (by decide) (fun c9 => ?_) (fun c9 => ?_)
    · replace h := xif_t c9 h
      refine ev_iconst (v := 1) dX1_isOperator_30 (by decide) ?_
      refine ev_goto (tgt := 35) dX1_isOperator_31 (by decide) ?_
      cases h
      exact ev_zret rfl (Or.inr rfl) (hQ) dX1_isOperator_35 (Nat.zero_le _) (Nat.zero_le _)
    · replace h := xif_f c9 h
      refine ev_iload_n 0 dX1_isOperator_12 rfl rfl ?_
      refine ev_bipush (v := 42) dX1_isOperator_13 (by decide) ?_
      refine ev_icmp_eq (tgt := 30) dX1_isOperator_15 (by decide) (fun c15 => ?_) (fun c15 => ?_)
      · replace h := xif_t c15 h
        refine ev_iconst (v := 1) dX1_isOperator_30 (by decide) ?_
        refine ev_goto (tgt := 35) dX1_isOperator_31 (by decide) ?_
        cases h
        exact ev_zret rfl (Or.inr rfl) (hQ) dX1_isOperator_35 (Nat.zero_le _) (Nat.zero_le _)
      · replace h := xif_f c15 h
        refine ev_iload_n 0 dX1_isOperator_18 rfl rfl ?_
        refine ev_bipush (v := 47) dX1_isOperator_19 (by decide) ?_
        refine ev_icmp_eq (tgt := 30) dX1_isOperator_21 (by decide) (fun c21 => ?_) (fun c21 => ?_)
        · replace h := xif_t c21 h
          refine ev_iconst (v := 1) dX1_isOperator_30 (by decide) ?_
          refine ev_goto (tgt := 35) dX1_isOperator_31 (by decide) ?_
          cases h
          exact ev_zret rfl (Or.inr rfl) (hQ) dX1_isOperator_35 (Nat.zero_le _) (Nat.zero_le _)
        · replace h := xif_f c21 h
          refine ev_iload_n 0 dX1_isOperator_24 rfl rfl ?_
          refine ev_bipush (v := 37) dX1_isOperator_25 (by decide) ?_
          refine ev_icmp_ne (tgt := 34) dX1_isOperator_27 (by decide) (fun c27 => ?_) (fun c27 => ?_)
          · replace h := xif_f c27 h
            refine ev_iconst (v := 0) dX1_isOperator_34 (by decide) ?_
            cases h
            exact ev_zret rfl (Or.inl rfl) (hQ) dX1_isOperator_35 (Nat.zero_le _) (Nat.zero_le _)
          · replace h := xif_t c27 h
            refine ev_iconst (v := 1) dX1_isOperator_30 (by decide) ?_
            refine ev_goto (tgt := 35) dX1_isOperator_31 (by decide) ?_
            cases h
            exact ev_zret rfl (Or.inr rfl) (hQ) dX1_isOperator_35 (Nat.zero_le _) (Nat.zero_le _)
def fX1_sign (μ : xm) : Option (Int32) := if (μ.1 iC_reader 5) = 0 then (if (μ.1 iC_reader 4) < 0 then (some (-1)) else (if (μ.1 iC_reader 3) ≤ (μ.1 iC_reader 4) then (some (-1)) else (if (μ.1 iC_reader 4) < 200 then (xbd (xgI μ iC_reader_text 200 (μ.1 iC_reader 4)) fun v1 => some (v1 &&& 255)) else (some (-1))))) else (some (-1))
set_option maxHeartbeats 4000000 in
set_option maxRecDepth 100000 in
theorem kX1_sign {E : xE} {d : Nat} {QQ : xP} (hd : 0 ≤ d)  {μ : xm} {R : xr} {n : Nat} (hF : xFin R n)  {res : Int32} (h : fX1_sign μ = some res) (hQ : QQ (some (.int res)) (xσ μ R) n) : xCon E d Y_X1_sign 0 0 [.ref (E.2.2.2 + iC_reader)] (xσ μ R) n QQ := by
  refine xCon_of pn_RX1 (Nat.le_of_ble_eq_true rfl) (L0 := [(0, .ref (E.2.2.2 + iC_reader))]) rfl ?_
  unfold fX1_sign at h
  refine ev_aload_n 0 dX1_sign_0 rfl rfl ?_
  refine xv_getI cl_1 lk_RX1_45 kd_3 (xl hF rfl) (fun _ => rfl) dX1_sign_1 ?_
  refine ev_if_ne (tgt := 37) dX1_sign_4 (by decide) (fun c4 => ?_) (fun c4 => ?_)
  · replace h := xif_f c4 h
    refine ev_iconst (v := (-1)) dX1_sign_37 (by decide) ?_
    cases h
    exact ev_iret rfl (hQ) dX1_sign_38 (Nat.zero_le _) (Nat.zero_le _)
  · replace h := xif_t c4 h
    refine ev_aload_n 0 dX1_sign_7 rfl rfl ?_
    refine xv_getI cl_1 lk_RX1_42 kd_3 (xl hF rfl) (fun _ => rfl) dX1_sign_8 ?_
    refine ev_if_lt (tgt := 37) dX1_sign_11 (by decide) (fun c11 => ?_) (fun c11 => ?_)
    · replace h := xif_t c11 h
      refine ev_iconst (v := (-1)) dX1_sign_37 (by decide) ?_
      cases h
      exact ev_iret rfl (hQ) dX1_sign_38 (Nat.zero_le _) (Nat.zero_le _)
    · replace h := xif_f c11 h
      refine ev_aload_n 0 dX1_sign_14 rfl rfl ?_
      refine xv_getI cl_1 lk_RX1_42 kd_3 (xl hF rfl) (fun _ => rfl) dX1_sign_15 ?_
      refine ev_aload_n 0 dX1_sign_18 rfl rfl ?_
      refine xv_getI cl_1 lk_RX1_33 kd_3 (xl hF rfl) (fun _ => rfl) dX1_sign_19 ?_
      refine ev_icmp_ge (tgt := 37) dX1_sign_22 (by decide) (fun c22 => ?_) (fun c22 => ?_)
      · replace h := xif_t c22 h
        refine ev_iconst (v := (-1)) dX1_sign_37 (by decide) ?_
        cases h
        exact ev_iret rfl (hQ) dX1_sign_38 (Nat.zero_le _) (Nat.zero_le _)
      · replace h := xif_f c22 h
        refine ev_aload_n 0 dX1_sign_25 rfl rfl ?_
        refine xv_getI cl_1 lk_RX1_42 kd_3 (xl hF rfl) (fun _ => rfl) dX1_sign_26 ?_
        refine ev_aload_n 0 dX1_sign_29 rfl rfl ?_
        refine xv_getF (a := iC_reader_text) cl_1 lk_RX1_9 kd_3 (xl hF rfl) (fun _ => rfl) (fr_3_0 hF) dX1_sign_30 ?_
        refine ev_alen (v := 200) 2 (by decide) kd_4 (xl hF rfl) rfl dX1_sign_33 ?_
        refine ev_icmp_lt (tgt := 39) dX1_sign_34 (by decide) (fun c34 => ?_) (fun c34 => ?_)
        · replace h := xif_t c34 h
          refine ev_aload_n 0 dX1_sign_39 rfl rfl ?_
          refine xv_getF (a := iC_reader_text) cl_1 lk_RX1_9 kd_3 (xl hF rfl) (fun _ => rfl) (fr_3_0 hF) dX1_sign_40 ?_
          refine ev_aload_n 0 dX1_sign_43 rfl rfl ?_
          refine xv_getI cl_1 lk_RX1_42 kd_3 (xl hF rfl) (fun _ => rfl) dX1_sign_44 ?_
          obtain ⟨v1, hv1, h⟩ := xbd_some h
          refine xv_bald kd_4 (xl hF rfl) hv1 dX1_sign_47 ?_
          refine ev_sipush (v := 255) dX1_sign_48 (by decide) ?_
          refine ev_iand dX1_sign_51 ?_
          cases h
          exact ev_iret rfl (hQ) dX1_sign_52 (Nat.zero_le _) (Nat.zero_le _)
        · replace h := xif_f c34 h
          refine ev_iconst (v := (-1)) dX1_sign_37 (by decide) ?_
          cases h
          exact ev_iret rfl (hQ) dX1_sign_38 (Nat.zero_le _) (Nat.zero_le _)
def fX1_stop (p0 : Int32) (μ : xm) : Option (xm) := if (μ.1 iC_reader 5) = 0 then (xlt (xpI μ iC_reader 5 p0) fun μ1 => some μ1) else (some μ)
set_option maxHeartbeats 4000000 in
set_option maxRecDepth 100000 in
theorem kX1_stop {E : xE} {d : Nat} {QQ : xP} (hd : 0 ≤ d) {p0 : Int32} {μ : xm} {R : xr} {n : Nat} (hF : xFin R n)  {res : xm} (h : fX1_stop p0 μ = some res) (hQ : QQ none (xσ res R) n) : xCon E d Y_X1_stop 0 0 [.ref (E.2.2.2 + iC_reader), .int p0] (xσ μ R) n QQ := by
  refine xCon_of pn_RX1 (Nat.le_of_ble_eq_true rfl) (L0 := [(0, .ref (E.2.2.2 + iC_reader)), (1, .int p0)]) rfl ?_
  unfold fX1_stop at h
  refine ev_aload_n 0 dX1_stop_0 rfl rfl ?_
  refine xv_getI cl_1 lk_RX1_45 kd_3 (xl hF rfl) (fun _ => rfl) dX1_stop_1 ?_
  refine ev_if_ne (tgt := 12) dX1_stop_4 (by decide) (fun c4 => ?_) (fun c4 => ?_)
  · replace h := xif_f c4 h
    cases h
    exact ev_vret rfl (hQ) dX1_stop_12 (Nat.zero_le _) (Nat.zero_le _)
  · replace h := xif_t c4 h
    refine ev_aload_n 0 dX1_stop_7 rfl rfl ?_
    refine ev_iload_n 1 dX1_stop_8 rfl rfl ?_
    obtain ⟨μ1, hμ1, h⟩ := xlt_some h
    refine xv_putI cl_1 lk_RX1_45 rfl kd_3 (xl hF rfl) rfl rfl (fun _ => rfl) hμ1 dX1_stop_9 ?_
    cases h
    exact ev_vret rfl (hQ) dX1_stop_12 (Nat.zero_le _) (Nat.zero_le _)
def fX2_close (o : Nat) (μ : xm) : Option (xm) := xlt (xpI μ o 4 1) fun μ1 => some μ1
set_option maxHeartbeats 4000000 in
set_option maxRecDepth 100000 in
theorem kX2_close {E : xE} {d : Nat} {QQ : xP} (hd : 0 ≤ d) {o : Nat} {μ : xm} {R : xr} {n : Nat} (hF : xFin R n) (hI : xIs 2 o n) {res : xm} (h : fX2_close o μ = some res) (hQ : QQ none (xσ res R) n) : xCon E d Y_X2_close 0 0 [.ref (E.2.2.2 + o)] (xσ μ R) n QQ := by
  refine xCon_of pn_RX2 (Nat.le_of_ble_eq_true rfl) (L0 := [(0, .ref (E.2.2.2 + o))]) rfl ?_
  unfold fX2_close at h
  refine ev_aload_n 0 dX2_close_0 rfl rfl ?_
  refine ev_iconst (v := 1) dX2_close_1 (by decide) ?_
  obtain ⟨μ1, hμ1, h⟩ := xlt_some h
  refine xv_putI cl_2 lk_RX2_37 rfl (xIs2_kd hI) (xIs2_lt hI) rfl rfl (fun _ => rfl) hμ1 dX2_close_2 ?_
  cases h
  exact ev_vret rfl (hQ) dX2_close_5 (Nat.zero_le _) (Nat.zero_le _)
def fX2_hour (o : Nat) (μ : xm) : Option (Int32) := some ((μ.1 o 1) / 60)
set_option maxHeartbeats 4000000 in
set_option maxRecDepth 100000 in
theorem kX2_hour {E : xE} {d : Nat} {QQ : xP} (hd : 0 ≤ d) {o : Nat} {μ : xm} {R : xr} {n : Nat} (hF : xFin R n) (hI : xIs 2 o n) {res : Int32} (h : fX2_hour o μ = some res) (hQ : QQ (some (.int res)) (xσ μ R) n) : xCon E d Y_X2_hour 0 0 [.ref (E.2.2.2 + o)] (xσ μ R) n QQ := by
  refine xCon_of pn_RX2 (Nat.le_of_ble_eq_true rfl) (L0 := [(0, .ref (E.2.2.2 + o))]) rfl ?_
  unfold fX2_hour at h
  refine ev_aload_n 0 dX2_hour_0 rfl rfl ?_
  refine xv_getI cl_2 lk_RX2_19 (xIs2_kd hI) (xIs2_lt hI) (fun _ => rfl) dX2_hour_1 ?_
  refine ev_bipush (v := 60) dX2_hour_4 (by decide) ?_
  refine ev_idiv dX2_hour_6 (by decide) ?_
  cases h
  exact ev_iret rfl (hQ) dX2_hour_7 (Nat.zero_le _) (Nat.zero_le _)
def fX2_includes (o : Nat) (p0 : Int32) (μ : xm) : Option (Int32) := if p0 < 0 then (some 0) else (if 8 ≤ p0 then (some 0) else (if (((μ.1 o 2) >>> (p0 &&& 31)) &&& 1) = 1 then (some 1) else (some 0)))
set_option maxHeartbeats 4000000 in
set_option maxRecDepth 100000 in
theorem kX2_includes {E : xE} {d : Nat} {QQ : xP} (hd : 0 ≤ d) {o : Nat} {p0 : Int32} {μ : xm} {R : xr} {n : Nat} (hF : xFin R n) (hI : xIs 2 o n) {res : Int32} (h : fX2_includes o p0 μ = some res) (hQ : QQ (some (.int res)) (xσ μ R) n) : xCon E d Y_X2_includes 0 0 [.ref (E.2.2.2 + o), .int p0] (xσ μ R) n QQ := by
  refine xCon_of pn_RX2 (Nat.le_of_ble_eq_true rfl) (L0 := [(0, .ref (E.2.2.2 + o)), (1, .int p0)]) rfl ?_
  unfold fX2_includes at h
  refine ev_iload_n 1 dX2_includes_0 rfl rfl ?_
  refine ev_if_lt (tgt := 26) dX2_includes_1 (by decide) (fun c1 => ?_) (fun c1 => ?_)
  · replace h := xif_t c1 h
    refine ev_iconst (v := 0) dX2_includes_26 (by decide) ?_
    cases h
    exact ev_zret rfl (Or.inl rfl) (hQ) dX2_includes_27 (Nat.zero_le _) (Nat.zero_le _)
  · replace h := xif_f c1 h
    refine ev_iload_n 1 dX2_includes_4 rfl rfl ?_
    refine ev_bipush (v := 8) dX2_includes_5 (by decide) ?_
    refine ev_icmp_ge (tgt := 26) dX2_includes_7 (by decide) (fun c7 => ?_) (fun c7 => ?_)
    · replace h := xif_t c7 h
      refine ev_iconst (v := 0) dX2_includes_26 (by decide) ?_
      cases h
      exact ev_zret rfl (Or.inl rfl) (hQ) dX2_includes_27 (Nat.zero_le _) (Nat.zero_le _)
    · replace h := xif_f c7 h
      refine ev_aload_n 0 dX2_includes_10 rfl rfl ?_
      refine xv_getI cl_2 lk_RX2_22 (xIs2_kd hI) (xIs2_lt hI) (fun _ => rfl) dX2_includes_11 ?_
      refine ev_iload_n 1 dX2_includes_14 rfl rfl ?_
      refine ev_ishr dX2_includes_15 ?_
      refine ev_iconst (v := 1) dX2_includes_16 (by decide) ?_
      refine ev_iand dX2_includes_17 ?_
      refine ev_iconst (v := 1) dX2_includes_18 (by decide) ?_
      refine ev_icmp_ne (tgt := 26) dX2_includes_19 (by decide) (fun c19 => ?_) (fun c19 => ?_)
      · replace h := xif_f c19 h
        refine ev_iconst (v := 0) dX2_includes_26 (by decide) ?_
        cases h
        exact ev_zret rfl (Or.inl rfl) (hQ) dX2_includes_27 (Nat.zero_le _) (Nat.zero_le _)
      · replace h := xif_t c19 h
        refine ev_iconst (v := 1) dX2_includes_22 (by decide) ?_
        refine ev_goto (tgt := 27) dX2_includes_23 (by decide) ?_
        cases h
        exact ev_zret rfl (Or.inr rfl) (hQ) dX2_includes_27 (Nat.zero_le _) (Nat.zero_le _)
def fX2_isSettled (o : Nat) (μ : xm) : Option (Int32) := xbd (xz (μ.1 o 4)) fun z1 => some z1
set_option maxHeartbeats 4000000 in
set_option maxRecDepth 100000 in
theorem kX2_isSettled {E : xE} {d : Nat} {QQ : xP} (hd : 0 ≤ d) {o : Nat} {μ : xm} {R : xr} {n : Nat} (hF : xFin R n) (hI : xIs 2 o n) {res : Int32} (h : fX2_isSettled o μ = some res) (hQ : QQ (some (.int res)) (xσ μ R) n) : xCon E d Y_X2_isSettled 0 0 [.ref (E.2.2.2 + o)] (xσ μ R) n QQ := by
  refine xCon_of pn_RX2 (Nat.le_of_ble_eq_true rfl) (L0 := [(0, .ref (E.2.2.2 + o))]) rfl ?_
  unfold fX2_isSettled at h
  refine ev_aload_n 0 dX2_isSettled_0 rfl rfl ?_
  refine xv_getI cl_2 lk_RX2_37 (xIs2_kd hI) (xIs2_lt hI) (fun _ => rfl) dX2_isSettled_1 ?_
  obtain ⟨z1, hz1, h⟩ := xbd_some h
  obtain ⟨hzz1, hez1⟩ := xz_some hz1
  rw [hez1]
  cases h
  exact ev_zret rfl hzz1 (hQ) dX2_isSettled_4 (Nat.zero_le _) (Nat.zero_le _)
def fX2_tell (o : Nat) (p0 : Int32) (p1 : Int32) (μ : xm) : Option (xm) := if p0 < 0 then (some μ) else (if 8 ≤ p0 then (some μ) else (xbd (xsI μ (o + 1) 8 p0 p1) fun μ1 => some μ1))
set_option maxHeartbeats 4000000 in
set_option maxRecDepth 100000 in
theorem kX2_tell {E : xE} {d : Nat} {QQ : xP} (hd : 0 ≤ d) {o : Nat} {p0 : Int32} {p1 : Int32} {μ : xm} {R : xr} {n : Nat} (hF : xFin R n) (hI : xIs 2 o n) {res : xm} (h : fX2_tell o p0 p1 μ = some res) (hQ : QQ none (xσ res R) n) : xCon E d Y_X2_tell 0 0 [.ref (E.2.2.2 + o), .int p0, .int p1] (xσ μ R) n QQ := by
  refine xCon_of pn_RX2 (Nat.le_of_ble_eq_true rfl) (L0 := [(0, .ref (E.2.2.2 + o)), (1, .int p0), (2, .int p1)]) rfl ?_
  unfold fX2_tell at h
  refine ev_iload_n 1 dX2_tell_0 rfl rfl ?_
  refine ev_if_lt (tgt := 20) dX2_tell_1 (by decide) (fun c1 => ?_) (fun c1 => ?_)
  · replace h := xif_t c1 h
    cases h
    exact ev_vret rfl (hQ) dX2_tell_20 (Nat.zero_le _) (Nat.zero_le _)
  · replace h := xif_f c1 h
    refine ev_iload_n 1 dX2_tell_4 rfl rfl ?_
    refine ev_aload_n 0 dX2_tell_5 rfl rfl ?_
    refine xv_getF (a := (o + 1)) cl_2 lk_RX2_9 (xIs2_kd hI) (xIs2_lt hI) (fun _ => rfl) (xIs2_fr3 hF hI) dX2_tell_6 ?_
    refine ev_alen (v := 8) 0 (by decide) (xIs2_kd3 hI) (xIs2_lt3 hI) rfl dX2_tell_9 ?_
    refine ev_icmp_ge (tgt := 20) dX2_tell_10 (by decide) (fun c10 => ?_) (fun c10 => ?_)
    · replace h := xif_t c10 h
      cases h
      exact ev_vret rfl (hQ) dX2_tell_20 (Nat.zero_le _) (Nat.zero_le _)
    · replace h := xif_f c10 h
      refine ev_aload_n 0 dX2_tell_13 rfl rfl ?_
      refine xv_getF (a := (o + 1)) cl_2 lk_RX2_9 (xIs2_kd hI) (xIs2_lt hI) (fun _ => rfl) (xIs2_fr3 hF hI) dX2_tell_14 ?_
      refine ev_iload_n 1 dX2_tell_17 rfl rfl ?_
      refine ev_iload_n 2 dX2_tell_18 rfl rfl ?_
      obtain ⟨μ1, hμ1, h⟩ := xbd_some h
      refine xv_iast (xIs2_kd3 hI) (xIs2_lt3 hI) hμ1 dX2_tell_19 ?_
      cases h
      exact ev_vret rfl (hQ) dX2_tell_20 (Nat.zero_le _) (Nat.zero_le _)
def fX3_find (p0 : Int32) (μ : xm) (R : xr) : Option (Option Nat) := if p0 < 0 then (some none) else (if (μ.1 iC_meetings 5) ≤ p0 then (some none) else (if 24 ≤ p0 then (some none) else (xbd (xgR R iC_meetings_list 24 p0) fun r1 => some r1)))
set_option maxHeartbeats 4000000 in
set_option maxRecDepth 100000 in
theorem kX3_find {E : xE} {d : Nat} {QQ : xP} (hd : 0 ≤ d) {p0 : Int32} {μ : xm} {R : xr} {n : Nat} (hF : xFin R n)  {res : Option Nat} (h : fX3_find p0 μ R = some res) (hQ : (∀ a, res = some a → xIs 2 a n) → QQ (some (xrf E.2.2.2 res)) (xσ μ R) n) : xCon E d Y_X3_find 0 0 [.ref (E.2.2.2 + iC_meetings), .int p0] (xσ μ R) n QQ := by
  refine xCon_of pn_RX3 (Nat.le_of_ble_eq_true rfl) (L0 := [(0, .ref (E.2.2.2 + iC_meetings)), (1, .int p0)]) rfl ?_
  unfold fX3_find at h
  refine ev_iload_n 1 dX3_find_0 rfl rfl ?_
  refine ev_if_lt (tgt := 30) dX3_find_1 (by decide) (fun c1 => ?_) (fun c1 => ?_)
  · replace h := xif_t c1 h
    refine ev_null dX3_find_30 ?_
    cases h
    exact ev_aret (v := none) rfl (Or.inl ⟨_, rfl⟩) (hQ (fun a ha => by cases ha)) dX3_find_31 (Nat.zero_le _) (Nat.zero_le _)
  · replace h := xif_f c1 h
    refine ev_iload_n 1 dX3_find_4 rfl rfl ?_
    refine ev_aload_n 0 dX3_find_5 rfl rfl ?_
    refine xv_getI cl_3 lk_RX3_31 kd_23 (xl hF rfl) (fun _ => rfl) dX3_find_6 ?_
    refine ev_icmp_ge (tgt := 30) dX3_find_9 (by decide) (fun c9 => ?_) (fun c9 => ?_)
    · replace h := xif_t c9 h
      refine ev_null dX3_find_30 ?_
      cases h
      exact ev_aret (v := none) rfl (Or.inl ⟨_, rfl⟩) (hQ (fun a ha => by cases ha)) dX3_find_31 (Nat.zero_le _) (Nat.zero_le _)
    · replace h := xif_f c9 h
      refine ev_iload_n 1 dX3_find_12 rfl rfl ?_
      refine ev_aload_n 0 dX3_find_13 rfl rfl ?_
      refine xv_getF (a := iC_meetings_list) cl_3 lk_RX3_11 kd_23 (xl hF rfl) (fun _ => rfl) (fr_23_1 hF) dX3_find_14 ?_
      refine ev_alen (v := 24) 4 (by decide) kd_24 (xl hF rfl) rfl dX3_find_17 ?_
      refine ev_icmp_ge (tgt := 30) dX3_find_18 (by decide) (fun c18 => ?_) (fun c18 => ?_)
      · replace h := xif_t c18 h
        refine ev_null dX3_find_30 ?_
        cases h
        exact ev_aret (v := none) rfl (Or.inl ⟨_, rfl⟩) (hQ (fun a ha => by cases ha)) dX3_find_31 (Nat.zero_le _) (Nat.zero_le _)
      · replace h := xif_f c18 h
        refine ev_aload_n 0 dX3_find_21 rfl rfl ?_
        refine xv_getF (a := iC_meetings_list) cl_3 lk_RX3_11 kd_23 (xl hF rfl) (fun _ => rfl) (fr_23_1 hF) dX3_find_22 ?_
        refine ev_iload_n 1 dX3_find_25 rfl rfl ?_
        obtain ⟨r1, hr1, h⟩ := xbd_some h
        refine xv_aald kd_24 (xl hF rfl) hr1 dX3_find_26 ?_
        have hvr1 := dyl hF hr1
        refine ev_goto (tgt := 31) dX3_find_27 (by decide) ?_
        replace h := Option.some.inj h
        subst h
        exact ev_aret (v := r1) rfl (Or.inl ⟨_, rfl⟩) (hQ hvr1) dX3_find_31 (Nat.zero_le _) (Nat.zero_le _)
def fX3_length (μ : xm) : Option (Int32) := some (μ.1 iC_meetings 5)
set_option maxHeartbeats 4000000 in
set_option maxRecDepth 100000 in
theorem kX3_length {E : xE} {d : Nat} {QQ : xP} (hd : 0 ≤ d)  {μ : xm} {R : xr} {n : Nat} (hF : xFin R n)  {res : Int32} (h : fX3_length μ = some res) (hQ : QQ (some (.int res)) (xσ μ R) n) : xCon E d Y_X3_length 0 0 [.ref (E.2.2.2 + iC_meetings)] (xσ μ R) n QQ := by
  refine xCon_of pn_RX3 (Nat.le_of_ble_eq_true rfl) (L0 := [(0, .ref (E.2.2.2 + iC_meetings))]) rfl ?_
  unfold fX3_length at h
  refine ev_aload_n 0 dX3_length_0 rfl rfl ?_
  refine xv_getI cl_3 lk_RX3_31 kd_23 (xl hF rfl) (fun _ => rfl) dX3_length_1 ?_
  cases h
  exact ev_iret rfl (hQ) dX3_length_4 (Nat.zero_le _) (Nat.zero_le _)
def fX3_paidAt (p0 : Int32) (μ : xm) : Option (Int32) := if p0 < 0 then (some (-1)) else (if (μ.1 iC_meetings 6) ≤ p0 then (some (-1)) else (if 24 ≤ p0 then (some (-1)) else (xbd (xgI μ iC_meetings_paid 24 p0) fun v1 => some v1)))
set_option maxHeartbeats 4000000 in
set_option maxRecDepth 100000 in
theorem kX3_paidAt {E : xE} {d : Nat} {QQ : xP} (hd : 0 ≤ d) {p0 : Int32} {μ : xm} {R : xr} {n : Nat} (hF : xFin R n)  {res : Int32} (h : fX3_paidAt p0 μ = some res) (hQ : QQ (some (.int res)) (xσ μ R) n) : xCon E d Y_X3_paidAt 0 0 [.ref (E.2.2.2 + iC_meetings), .int p0] (xσ μ R) n QQ := by
  refine xCon_of pn_RX3 (Nat.le_of_ble_eq_true rfl) (L0 := [(0, .ref (E.2.2.2 + iC_meetings)), (1, .int p0)]) rfl ?_
  unfold fX3_paidAt at h
  refine ev_iload_n 1 dX3_paidAt_0 rfl rfl ?_
  refine ev_if_lt (tgt := 30) dX3_paidAt_1 (by decide) (fun c1 => ?_) (fun c1 => ?_)
  · replace h := xif_t c1 h
    refine ev_iconst (v := (-1)) dX3_paidAt_30 (by decide) ?_
    cases h
    exact ev_iret rfl (hQ) dX3_paidAt_31 (Nat.zero_le _) (Nat.zero_le _)
  · replace h := xif_f c1 h
    refine ev_iload_n 1 dX3_paidAt_4 rfl rfl ?_
    refine ev_aload_n 0 dX3_paidAt_5 rfl rfl ?_
    refine xv_getI cl_3 lk_RX3_102 kd_23 (xl hF rfl) (fun _ => rfl) dX3_paidAt_6 ?_
    refine ev_icmp_ge (tgt := 30) dX3_paidAt_9 (by decide) (fun c9 => ?_) (fun c9 => ?_)
    · replace h := xif_t c9 h
      refine ev_iconst (v := (-1)) dX3_paidAt_30 (by decide) ?_
      cases h
      exact ev_iret rfl (hQ) dX3_paidAt_31 (Nat.zero_le _) (Nat.zero_le _)
    · replace h := xif_f c9 h
      refine ev_iload_n 1 dX3_paidAt_12 rfl rfl ?_
      refine ev_aload_n 0 dX3_paidAt_13 rfl rfl ?_
      refine xv_getF (a := iC_meetings_paid) cl_3 lk_RX3_24 kd_23 (xl hF rfl) (fun _ => rfl) (fr_23_4 hF) dX3_paidAt_14 ?_
      refine ev_alen (v := 24) 0 (by decide) kd_27 (xl hF rfl) rfl dX3_paidAt_17 ?_
      refine ev_icmp_ge (tgt := 30) dX3_paidAt_18 (by decide) (fun c18 => ?_) (fun c18 => ?_)
      · replace h := xif_t c18 h
        refine ev_iconst (v := (-1)) dX3_paidAt_30 (by decide) ?_
        cases h
        exact ev_iret rfl (hQ) dX3_paidAt_31 (Nat.zero_le _) (Nat.zero_le _)
      · replace h := xif_f c18 h
        refine ev_aload_n 0 dX3_paidAt_21 rfl rfl ?_
        refine xv_getF (a := iC_meetings_paid) cl_3 lk_RX3_24 kd_23 (xl hF rfl) (fun _ => rfl) (fr_23_4 hF) dX3_paidAt_22 ?_
        refine ev_iload_n 1 dX3_paidAt_25 rfl rfl ?_
        obtain ⟨v1, hv1, h⟩ := xbd_some h
        refine xv_iald kd_27 (xl hF rfl) hv1 dX3_paidAt_26 ?_
        refine ev_goto (tgt := 31) dX3_paidAt_27 (by decide) ?_
        cases h
        exact ev_iret rfl (hQ) dX3_paidAt_31 (Nat.zero_le _) (Nat.zero_le _)
def fX3_payerAt (p0 : Int32) (μ : xm) : Option (Int32) := if p0 < 0 then (some (-1)) else (if (μ.1 iC_meetings 6) ≤ p0 then (some (-1)) else (if 24 ≤ p0 then (some (-1)) else (xbd (xgI μ iC_meetings_payers 24 p0) fun v1 => some v1)))
set_option maxHeartbeats 4000000 in
set_option maxRecDepth 100000 in
theorem kX3_payerAt {E : xE} {d : Nat} {QQ : xP} (hd : 0 ≤ d) {p0 : Int32} {μ : xm} {R : xr} {n : Nat} (hF : xFin R n)  {res : Int32} (h : fX3_payerAt p0 μ = some res) (hQ : QQ (some (.int res)) (xσ μ R) n) : xCon E d Y_X3_payerAt 0 0 [.ref (E.2.2.2 + iC_meetings), .int p0] (xσ μ R) n QQ := by
  refine xCon_of pn_RX3 (Nat.le_of_ble_eq_true rfl) (L0 := [(0, .ref (E.2.2.2 + iC_meetings)), (1, .int p0)]) rfl ?_
  unfold fX3_payerAt at h
  refine ev_iload_n 1 dX3_payerAt_0 rfl rfl ?_
  refine ev_if_lt (tgt := 30) dX3_payerAt_1 (by decide) (fun c1 => ?_) (fun c1 => ?_)
  · replace h := xif_t c1 h
    refine ev_iconst (v := (-1)) dX3_payerAt_30 (by decide) ?_
    cases h
    exact ev_iret rfl (hQ) dX3_payerAt_31 (Nat.zero_le _) (Nat.zero_le _)
  · replace h := xif_f c1 h
    refine ev_iload_n 1 dX3_payerAt_4 rfl rfl ?_
    refine ev_aload_n 0 dX3_payerAt_5 rfl rfl ?_
    refine xv_getI cl_3 lk_RX3_102 kd_23 (xl hF rfl) (fun _ => rfl) dX3_payerAt_6 ?_
    refine ev_icmp_ge (tgt := 30) dX3_payerAt_9 (by decide) (fun c9 => ?_) (fun c9 => ?_)
    · replace h := xif_t c9 h
      refine ev_iconst (v := (-1)) dX3_payerAt_30 (by decide) ?_
      cases h
      exact ev_iret rfl (hQ) dX3_payerAt_31 (Nat.zero_le _) (Nat.zero_le _)
    · replace h := xif_f c9 h
      refine ev_iload_n 1 dX3_payerAt_12 rfl rfl ?_
      refine ev_aload_n 0 dX3_payerAt_13 rfl rfl ?_
      refine xv_getF (a := iC_meetings_payers) cl_3 lk_RX3_21 kd_23 (xl hF rfl) (fun _ => rfl) (fr_23_3 hF) dX3_payerAt_14 ?_
      refine ev_alen (v := 24) 0 (by decide) kd_26 (xl hF rfl) rfl dX3_payerAt_17 ?_
      refine ev_icmp_ge (tgt := 30) dX3_payerAt_18 (by decide) (fun c18 => ?_) (fun c18 => ?_)
      · replace h := xif_t c18 h
        refine ev_iconst (v := (-1)) dX3_payerAt_30 (by decide) ?_
        cases h
        exact ev_iret rfl (hQ) dX3_payerAt_31 (Nat.zero_le _) (Nat.zero_le _)
      · replace h := xif_f c18 h
        refine ev_aload_n 0 dX3_payerAt_21 rfl rfl ?_
        refine xv_getF (a := iC_meetings_payers) cl_3 lk_RX3_21 kd_23 (xl hF rfl) (fun _ => rfl) (fr_23_3 hF) dX3_payerAt_22 ?_
        refine ev_iload_n 1 dX3_payerAt_25 rfl rfl ?_
        obtain ⟨v1, hv1, h⟩ := xbd_some h
        refine xv_iald kd_26 (xl hF rfl) hv1 dX3_payerAt_26 ?_
        refine ev_goto (tgt := 31) dX3_payerAt_27 (by decide) ?_
        cases h
        exact ev_iret rfl (hQ) dX3_payerAt_31 (Nat.zero_le _) (Nat.zero_le _)
def fX3_payers (μ : xm) : Option (Int32) := some (μ.1 iC_meetings 6)
set_option maxHeartbeats 4000000 in
set_option maxRecDepth 100000 in
theorem kX3_payers {E : xE} {d : Nat} {QQ : xP} (hd : 0 ≤ d)  {μ : xm} {R : xr} {n : Nat} (hF : xFin R n)  {res : Int32} (h : fX3_payers μ = some res) (hQ : QQ (some (.int res)) (xσ μ R) n) : xCon E d Y_X3_payers 0 0 [.ref (E.2.2.2 + iC_meetings)] (xσ μ R) n QQ := by
  refine xCon_of pn_RX3 (Nat.le_of_ble_eq_true rfl) (L0 := [(0, .ref (E.2.2.2 + iC_meetings))]) rfl ?_
  unfold fX3_payers at h
  refine ev_aload_n 0 dX3_payers_0 rfl rfl ?_
  refine xv_getI cl_3 lk_RX3_102 kd_23 (xl hF rfl) (fun _ => rfl) dX3_payers_1 ?_
  cases h
  exact ev_iret rfl (hQ) dX3_payers_4 (Nat.zero_le _) (Nat.zero_le _)
def fX3_putFact (p0 : Int32) (p1 : Int32) (μ : xm) : Option (xm) := xlt (p0 - 97) fun x1 => if x1 < 0 then (some μ) else (if 26 ≤ x1 then (some μ) else (xbd (xsI μ iC_meetings_facts 26 x1 p1) fun μ2 => some μ2))
set_option maxHeartbeats 4000000 in
set_option maxRecDepth 100000 in
theorem kX3_putFact {E : xE} {d : Nat} {QQ : xP} (hd : 0 ≤ d) {p0 : Int32} {p1 : Int32} {μ : xm} {R : xr} {n : Nat} (hF : xFin R n)  {res : xm} (h : fX3_putFact p0 p1 μ = some res) (hQ : QQ none (xσ res R) n) : xCon E d Y_X3_putFact 0 0 [.ref (E.2.2.2 + iC_meetings), .int p0, .int p1] (xσ μ R) n QQ := by
  refine xCon_of pn_RX3 (Nat.le_of_ble_eq_true rfl) (L0 := [(0, .ref (E.2.2.2 + iC_meetings)), (1, .int p0), (2, .int p1)]) rfl ?_
  unfold fX3_putFact at h
  refine ev_iload_n 1 dX3_putFact_0 rfl rfl ?_
  refine ev_bipush (v := 97) dX3_putFact_1 (by decide) ?_
  refine ev_isub dX3_putFact_3 ?_
  obtain ⟨x1, hx1, h⟩ := xlt_some h
  refine xv_istore_n (L' := [(3, .int x1), (0, .ref (E.2.2.2 + iC_meetings)), (1, .int p0), (2, .int p1)]) hx1 dX3_putFact_4 rfl (Nat.le_of_ble_eq_true rfl) rfl ?_
  refine ev_iload_n 0 dX3_putFact_5 rfl rfl ?_
  refine ev_if_lt (tgt := 25) dX3_putFact_6 (by decide) (fun c6 => ?_) (fun c6 => ?_)
  · replace h := xif_t c6 h
    cases h
    exact ev_vret rfl (hQ) dX3_putFact_25 (Nat.zero_le _) (Nat.zero_le _)
  · replace h := xif_f c6 h
    refine ev_iload_n 0 dX3_putFact_9 rfl rfl ?_
    refine ev_aload_n 1 dX3_putFact_10 rfl rfl ?_
    refine xv_getF (a := iC_meetings_facts) cl_3 lk_RX3_17 kd_23 (xl hF rfl) (fun _ => rfl) (fr_23_2 hF) dX3_putFact_11 ?_
    refine ev_alen (v := 26) 0 (by decide) kd_25 (xl hF rfl) rfl dX3_putFact_14 ?_
    refine ev_icmp_ge (tgt := 25) dX3_putFact_15 (by decide) (fun c15 => ?_) (fun c15 => ?_)
    · replace h := xif_t c15 h
      cases h
      exact ev_vret rfl (hQ) dX3_putFact_25 (Nat.zero_le _) (Nat.zero_le _)
    · replace h := xif_f c15 h
      refine ev_aload_n 1 dX3_putFact_18 rfl rfl ?_
      refine xv_getF (a := iC_meetings_facts) cl_3 lk_RX3_17 kd_23 (xl hF rfl) (fun _ => rfl) (fr_23_2 hF) dX3_putFact_19 ?_
      refine ev_iload_n 0 dX3_putFact_22 rfl rfl ?_
      refine ev_iload_n 3 dX3_putFact_23 rfl rfl ?_
      obtain ⟨μ2, hμ2, h⟩ := xbd_some h
      refine xv_iast kd_25 (xl hF rfl) hμ2 dX3_putFact_24 ?_
      cases h
      exact ev_vret rfl (hQ) dX3_putFact_25 (Nat.zero_le _) (Nat.zero_le _)
def fX4_add (p0 : Int32) (p1 : Int32) (p2 : Int32) (p3 : Int32) (p4 : Int32) (μ : xm) : Option (Int32 × xm) := if (μ.1 iC_notes 6) < 0 then (some ((-1), μ)) else (if (μ.1 iC_notes 6) < 60 then (xbd (xsI μ iC_notes_owers 60 (μ.1 iC_notes 6) p0) fun μ1 => xbd (xsI μ1 iC_notes_holders 60 (μ1.1 iC_notes 6) p1) fun μ2 => xbd (xsI μ2 iC_notes_minutes 60 (μ2.1 iC_notes 6) p2) fun μ3 => xbd (xsI μ3 iC_notes_made 60 (μ3.1 iC_notes 6) p3) fun μ4 => xbd (xsI μ4 iC_notes_lapses 60 (μ4.1 iC_notes 6) p4) fun μ5 => xlt (xpI μ5 iC_notes 6 ((μ5.1 iC_notes 6) + 1)) fun μ6 => some ((μ6.1 iC_notes 6) - 1, μ6)) else (some ((-1), μ)))
set_option maxHeartbeats 4000000 in
set_option maxRecDepth 100000 in
theorem kX4_add {E : xE} {d : Nat} {QQ : xP} (hd : 0 ≤ d) {p0 : Int32} {p1 : Int32} {p2 : Int32} {p3 : Int32} {p4 : Int32} {μ : xm} {R : xr} {n : Nat} (hF : xFin R n)  {res : Int32 × xm} (h : fX4_add p0 p1 p2 p3 p4 μ = some res) (hQ : QQ (some (.int res.1)) (xσ res.2 R) n) : xCon E d Y_X4_add 0 0 [.ref (E.2.2.2 + iC_notes), .int p0, .int p1, .int p2, .int p3, .int p4] (xσ μ R) n QQ := by
  refine xCon_of pn_RX4 (Nat.le_of_ble_eq_true rfl) (L0 := [(0, .ref (E.2.2.2 + iC_notes)), (1, .int p0), (2, .int p1), (3, .int p2), (4, .int p3), (5, .int p4)]) rfl ?_
  unfold fX4_add at h
  refine ev_aload_n 0 dX4_add_0 rfl rfl ?_
  refine xv_getI cl_4 lk_RX4_30 kd_28 (xl hF rfl) (fun _ => rfl) dX4_add_1 ?_
  refine ev_if_lt (tgt := 16) dX4_add_4 (by decide) (fun c4 => ?_) (fun c4 => ?_)
  · replace h := xif_t c4 h
    refine ev_iconst (v := (-1)) dX4_add_16 (by decide) ?_
    cases h
    exact ev_iret rfl (hQ) dX4_add_17 (Nat.zero_le _) (Nat.zero_le _)
  · replace h := xif_f c4 h
    refine ev_aload_n 0 dX4_add_7 rfl rfl ?_
    refine xv_getI cl_4 lk_RX4_30 kd_28 (xl hF rfl) (fun _ => rfl) dX4_add_8 ?_
    refine ev_bipush (v := 60) dX4_add_11 (by decide) ?_
    refine ev_icmp_lt (tgt := 18) dX4_add_13 (by decide) (fun c13 => ?_) (fun c13 => ?_)
    · replace h := xif_t c13 h
      refine ev_aload_n 0 dX4_add_18 rfl rfl ?_
      refine xv_getF (a := iC_notes_owers) cl_4 lk_RX4_9 kd_28 (xl hF rfl) (fun _ => rfl) (fr_28_0 hF) dX4_add_19 ?_
      refine ev_aload_n 0 dX4_add_22 rfl rfl ?_
      refine xv_getI cl_4 lk_RX4_30 kd_28 (xl hF rfl) (fun _ => rfl) dX4_add_23 ?_
      refine ev_iload_n 1 dX4_add_26 rfl rfl ?_
      obtain ⟨μ1, hμ1, h⟩ := xbd_some h
      refine xv_iast kd_29 (xl hF rfl) hμ1 dX4_add_27 ?_
      refine ev_aload_n 0 dX4_add_28 rfl rfl ?_
      refine xv_getF (a := iC_notes_holders) cl_4 lk_RX4_15 kd_28 (xl hF rfl) (fun _ => rfl) (fr_28_1 hF) dX4_add_29 ?_
      refine ev_aload_n 0 dX4_add_32 rfl rfl ?_
      refine xv_getI cl_4 lk_RX4_30 kd_28 (xl hF rfl) (fun _ => rfl) dX4_add_33 ?_
      refine ev_iload_n 2 dX4_add_36 rfl rfl ?_
      obtain ⟨μ2, hμ2, h⟩ := xbd_some h
      refine xv_iast kd_30 (xl hF rfl) hμ2 dX4_add_37 ?_
      refine ev_aload_n 0 dX4_add_38 rfl rfl ?_
      refine xv_getF (a := iC_notes_minutes) cl_4 lk_RX4_18 kd_28 (xl hF rfl) (fun _ => rfl) (fr_28_2 hF) dX4_add_39 ?_
      refine ev_aload_n 0 dX4_add_42 rfl rfl ?_
      refine xv_getI cl_4 lk_RX4_30 kd_28 (xl hF rfl) (fun _ => rfl) dX4_add_43 ?_
      refine ev_iload_n 3 dX4_add_46 rfl rfl ?_
      obtain ⟨μ3, hμ3, h⟩ := xbd_some h
      refine xv_iast kd_31 (xl hF rfl) hμ3 dX4_add_47 ?_
      refine ev_aload_n 0 dX4_add_48 rfl rfl ?_
      refine xv_getF (a := iC_notes_made) cl_4 lk_RX4_21 kd_28 (xl hF rfl) (fun _ => rfl) (fr_28_3 hF) dX4_add_49 ?_
      refine ev_aload_n 0 dX4_add_52 rfl rfl ?_
      refine xv_getI cl_4 lk_RX4_30 kd_28 (xl hF rfl) (fun _ => rfl) dX4_add_53 ?_
      refine ev_iload 4 dX4_add_56 rfl ?_
      obtain ⟨μ4, hμ4, h⟩ := xbd_some h
      refine xv_iast kd_32 (xl hF rfl) hμ4 dX4_add_58 ?_
      refine ev_aload_n 0 dX4_add_59 rfl rfl ?_
      refine xv_getF (a := iC_notes_lapses) cl_4 lk_RX4_24 kd_28 (xl hF rfl) (fun _ => rfl) (fr_28_4 hF) dX4_add_60 ?_
      refine ev_aload_n 0 dX4_add_63 rfl rfl ?_
      refine xv_getI cl_4 lk_RX4_30 kd_28 (xl hF rfl) (fun _ => rfl) dX4_add_64 ?_
      refine ev_iload 5 dX4_add_67 rfl ?_
      obtain ⟨μ5, hμ5, h⟩ := xbd_some h
      refine xv_iast kd_33 (xl hF rfl) hμ5 dX4_add_69 ?_
      refine ev_aload_n 0 dX4_add_70 rfl rfl ?_
      refine ev_dup dX4_add_71 rfl ?_
      refine xv_getI cl_4 lk_RX4_30 kd_28 (xl hF rfl) (fun _ => rfl) dX4_add_72 ?_
      refine ev_iconst (v := 1) dX4_add_75 (by decide) ?_
      refine ev_iadd dX4_add_76 ?_
      obtain ⟨μ6, hμ6, h⟩ := xlt_some h
      refine xv_putI cl_4 lk_RX4_30 rfl kd_28 (xl hF rfl) rfl rfl (fun _ => rfl) hμ6 dX4_add_77 ?_
      refine ev_aload_n 0 dX4_add_80 rfl rfl ?_
      refine xv_getI cl_4 lk_RX4_30 kd_28 (xl hF rfl) (fun _ => rfl) dX4_add_81 ?_
      refine ev_iconst (v := 1) dX4_add_84 (by decide) ?_
      refine ev_isub dX4_add_85 ?_
      cases h
      exact ev_iret rfl (hQ) dX4_add_86 (Nat.zero_le _) (Nat.zero_le _)
    · replace h := xif_f c13 h
      refine ev_iconst (v := (-1)) dX4_add_16 (by decide) ?_
      cases h
      exact ev_iret rfl (hQ) dX4_add_17 (Nat.zero_le _) (Nat.zero_le _)
def fX4_holds (p0 : Int32) (μ : xm) : Option (Int32) := if p0 < 0 then (some 0) else (if (μ.1 iC_notes 6) ≤ p0 then (some 0) else (if 60 ≤ p0 then (some 0) else (some 1)))
set_option maxHeartbeats 4000000 in
set_option maxRecDepth 100000 in
theorem kX4_holds {E : xE} {d : Nat} {QQ : xP} (hd : 0 ≤ d) {p0 : Int32} {μ : xm} {R : xr} {n : Nat} (hF : xFin R n)  {res : Int32} (h : fX4_holds p0 μ = some res) (hQ : QQ (some (.int res)) (xσ μ R) n) : xCon E d Y_X4_holds 0 0 [.ref (E.2.2.2 + iC_notes), .int p0] (xσ μ R) n QQ := by
  refine xCon_of pn_RX4 (Nat.le_of_ble_eq_true rfl) (L0 := [(0, .ref (E.2.2.2 + iC_notes)), (1, .int p0)]) rfl ?_
  unfold fX4_holds at h
  refine ev_iload_n 1 dX4_holds_0 rfl rfl ?_
  refine ev_if_lt (tgt := 22) dX4_holds_1 (by decide) (fun c1 => ?_) (fun c1 => ?_)
  · replace h := xif_t c1 h
    refine ev_iconst (v := 0) dX4_holds_22 (by decide) ?_
    cases h
    exact ev_zret rfl (Or.inl rfl) (hQ) dX4_holds_23 (Nat.zero_le _) (Nat.zero_le _)
  · replace h := xif_f c1 h
    refine ev_iload_n 1 dX4_holds_4 rfl rfl ?_
    refine ev_aload_n 0 dX4_holds_5 rfl rfl ?_
    refine xv_getI cl_4 lk_RX4_30 kd_28 (xl hF rfl) (fun _ => rfl) dX4_holds_6 ?_
    refine ev_icmp_ge (tgt := 22) dX4_holds_9 (by decide) (fun c9 => ?_) (fun c9 => ?_)
    · replace h := xif_t c9 h
      refine ev_iconst (v := 0) dX4_holds_22 (by decide) ?_
      cases h
      exact ev_zret rfl (Or.inl rfl) (hQ) dX4_holds_23 (Nat.zero_le _) (Nat.zero_le _)
    · replace h := xif_f c9 h
      refine ev_iload_n 1 dX4_holds_12 rfl rfl ?_
      refine ev_bipush (v := 60) dX4_holds_13 (by decide) ?_
      refine ev_icmp_ge (tgt := 22) dX4_holds_15 (by decide) (fun c15 => ?_) (fun c15 => ?_)
      · replace h := xif_t c15 h
        refine ev_iconst (v := 0) dX4_holds_22 (by decide) ?_
        cases h
        exact ev_zret rfl (Or.inl rfl) (hQ) dX4_holds_23 (Nat.zero_le _) (Nat.zero_le _)
      · replace h := xif_f c15 h
        refine ev_iconst (v := 1) dX4_holds_18 (by decide) ?_
        refine ev_goto (tgt := 23) dX4_holds_19 (by decide) ?_
        cases h
        exact ev_zret rfl (Or.inr rfl) (hQ) dX4_holds_23 (Nat.zero_le _) (Nat.zero_le _)
def fX4_length (μ : xm) : Option (Int32) := some (μ.1 iC_notes 6)
set_option maxHeartbeats 4000000 in
set_option maxRecDepth 100000 in
theorem kX4_length {E : xE} {d : Nat} {QQ : xP} (hd : 0 ≤ d)  {μ : xm} {R : xr} {n : Nat} (hF : xFin R n)  {res : Int32} (h : fX4_length μ = some res) (hQ : QQ (some (.int res)) (xσ μ R) n) : xCon E d Y_X4_length 0 0 [.ref (E.2.2.2 + iC_notes)] (xσ μ R) n QQ := by
  refine xCon_of pn_RX4 (Nat.le_of_ble_eq_true rfl) (L0 := [(0, .ref (E.2.2.2 + iC_notes))]) rfl ?_
  unfold fX4_length at h
  refine ev_aload_n 0 dX4_length_0 rfl rfl ?_
  refine xv_getI cl_4 lk_RX4_30 kd_28 (xl hF rfl) (fun _ => rfl) dX4_length_1 ?_
  cases h
  exact ev_iret rfl (hQ) dX4_length_4 (Nat.zero_le _) (Nat.zero_le _)
def fX5_add (p0 : Nat) (p1 : Int32) (p2 : Int32) (μ : xm) : Option (xm) := if p1 < 0 then (some μ) else (if (Int32.ofNat (xkd p0).2) ≤ p1 then (some μ) else (xbd (xgI μ p0 (xkd p0).2 p1) fun v1 => xbd (xsI μ p0 (xkd p0).2 p1 (v1 + p2)) fun μ2 => some μ2))
set_option maxHeartbeats 4000000 in
set_option maxRecDepth 100000 in
theorem kX5_add {E : xE} {d : Nat} {QQ : xP} (hd : 0 ≤ d) {p0 : Nat} {p1 : Int32} {p2 : Int32} {μ : xm} {R : xr} {n : Nat} (hF : xFin R n) (hp0 : xIsA 1 p0 n) {res : xm} (h : fX5_add p0 p1 p2 μ = some res) (hQ : QQ none (xσ res R) n) : xCon E d Y_X5_add 0 0 [.ref (E.2.2.2 + p0), .int p1, .int p2] (xσ μ R) n QQ := by
  refine xCon_of pn_RX5 (Nat.le_of_ble_eq_true rfl) (L0 := [(0, .ref (E.2.2.2 + p0)), (1, .int p1), (2, .int p2)]) rfl ?_
  unfold fX5_add at h
  refine ev_iload_n 1 dX5_add_0 rfl rfl ?_
  refine ev_if_lt (tgt := 17) dX5_add_1 (by decide) (fun c1 => ?_) (fun c1 => ?_)
  · replace h := xif_t c1 h
    cases h
    exact ev_vret rfl (hQ) dX5_add_17 (Nat.zero_le _) (Nat.zero_le _)
  · replace h := xif_f c1 h
    refine ev_iload_n 1 dX5_add_4 rfl rfl ?_
    refine ev_aload_n 0 dX5_add_5 rfl rfl ?_
    refine ev_alen (v := Int32.ofNat (xkd p0).2) 0 (by decide) (xIsA_kd hp0) hp0.2 rfl dX5_add_6 ?_
    refine ev_icmp_ge (tgt := 17) dX5_add_7 (by decide) (fun c7 => ?_) (fun c7 => ?_)
    · replace h := xif_t c7 h
      cases h
      exact ev_vret rfl (hQ) dX5_add_17 (Nat.zero_le _) (Nat.zero_le _)
    · replace h := xif_f c7 h
      refine ev_aload_n 0 dX5_add_10 rfl rfl ?_
      refine ev_iload_n 1 dX5_add_11 rfl rfl ?_
      refine ev_dup2 dX5_add_12 rfl rfl ?_
      obtain ⟨v1, hv1, h⟩ := xbd_some h
      refine xv_iald (xIsA_kd hp0) hp0.2 hv1 dX5_add_13 ?_
      refine ev_iload_n 2 dX5_add_14 rfl rfl ?_
      refine ev_iadd dX5_add_15 ?_
      obtain ⟨μ2, hμ2, h⟩ := xbd_some h
      refine xv_iast (xIsA_kd hp0) hp0.2 hμ2 dX5_add_16 ?_
      cases h
      exact ev_vret rfl (hQ) dX5_add_17 (Nat.zero_le _) (Nat.zero_le _)
def fX5_slot (p0 : Int32) (p1 : Int32) : Option (Int32) := if p0 < 0 then (some (-1)) else (if 8 ≤ p0 then (some (-1)) else (if p1 < 0 then (some (-1)) else (if 24 ≤ p1 then (some (-1)) else (some ((p0 * 24) + p1)))))
set_option maxHeartbeats 4000000 in
set_option maxRecDepth 100000 in
theorem kX5_slot {E : xE} {d : Nat} {QQ : xP} (hd : 0 ≤ d) {p0 : Int32} {p1 : Int32} {μ : xm} {R : xr} {n : Nat}  {res : Int32} (h : fX5_slot p0 p1 = some res) (hQ : QQ (some (.int res)) (xσ μ R) n) : xCon E d Y_X5_slot 0 0 [.int p0, .int p1] (xσ μ R) n QQ := by
  refine xCon_of pn_RX5 (Nat.le_of_ble_eq_true rfl) (L0 := [(0, .int p0), (1, .int p1)]) rfl ?_
  unfold fX5_slot at h
  refine ev_iload_n 0 dX5_slot_0 rfl rfl ?_
  refine ev_if_lt (tgt := 29) dX5_slot_1 (by decide) (fun c1 => ?_) (fun c1 => ?_)
  · replace h := xif_t c1 h
    refine ev_iconst (v := (-1)) dX5_slot_29 (by decide) ?_
    cases h
    exact ev_iret rfl (hQ) dX5_slot_30 (Nat.zero_le _) (Nat.zero_le _)
  · replace h := xif_f c1 h
    refine ev_iload_n 0 dX5_slot_4 rfl rfl ?_
    refine ev_bipush (v := 8) dX5_slot_5 (by decide) ?_
    refine ev_icmp_ge (tgt := 29) dX5_slot_7 (by decide) (fun c7 => ?_) (fun c7 => ?_)
    · replace h := xif_t c7 h
      refine ev_iconst (v := (-1)) dX5_slot_29 (by decide) ?_
      cases h
      exact ev_iret rfl (hQ) dX5_slot_30 (Nat.zero_le _) (Nat.zero_le _)
    · replace h := xif_f c7 h
      refine ev_iload_n 1 dX5_slot_10 rfl rfl ?_
      refine ev_if_lt (tgt := 29) dX5_slot_11 (by decide) (fun c11 => ?_) (fun c11 => ?_)
      · replace h := xif_t c11 h
        refine ev_iconst (v := (-1)) dX5_slot_29 (by decide) ?_
        cases h
        exact ev_iret rfl (hQ) dX5_slot_30 (Nat.zero_le _) (Nat.zero_le _)
      · replace h := xif_f c11 h
        refine ev_iload_n 1 dX5_slot_14 rfl rfl ?_
        refine ev_bipush (v := 24) dX5_slot_15 (by decide) ?_
        refine ev_icmp_ge (tgt := 29) dX5_slot_17 (by decide) (fun c17 => ?_) (fun c17 => ?_)
        · replace h := xif_t c17 h
          refine ev_iconst (v := (-1)) dX5_slot_29 (by decide) ?_
          cases h
          exact ev_iret rfl (hQ) dX5_slot_30 (Nat.zero_le _) (Nat.zero_le _)
        · replace h := xif_f c17 h
          refine ev_iload_n 0 dX5_slot_20 rfl rfl ?_
          refine ev_bipush (v := 24) dX5_slot_21 (by decide) ?_
          refine ev_imul dX5_slot_23 ?_
          refine ev_iload_n 1 dX5_slot_24 rfl rfl ?_
          refine ev_iadd dX5_slot_25 ?_
          refine ev_goto (tgt := 30) dX5_slot_26 (by decide) ?_
          cases h
          exact ev_iret rfl (hQ) dX5_slot_30 (Nat.zero_le _) (Nat.zero_le _)
def fX6_aheadOf (p0 : Int32) (μ : xm) : Option (Int32) := if p0 < 0 then (some (-1)) else (if 8 ≤ p0 then (some (-1)) else (xbd (xgI μ iC_rest_aheads 8 p0) fun v1 => some v1))
set_option maxHeartbeats 4000000 in
set_option maxRecDepth 100000 in
theorem kX6_aheadOf {E : xE} {d : Nat} {QQ : xP} (hd : 0 ≤ d) {p0 : Int32} {μ : xm} {R : xr} {n : Nat} (hF : xFin R n)  {res : Int32} (h : fX6_aheadOf p0 μ = some res) (hQ : QQ (some (.int res)) (xσ μ R) n) : xCon E d Y_X6_aheadOf 0 0 [.ref (E.2.2.2 + iC_rest), .int p0] (xσ μ R) n QQ := by
  refine xCon_of pn_RX6 (Nat.le_of_ble_eq_true rfl) (L0 := [(0, .ref (E.2.2.2 + iC_rest)), (1, .int p0)]) rfl ?_
  unfold fX6_aheadOf at h
  refine ev_iload_n 1 dX6_aheadOf_0 rfl rfl ?_
  refine ev_if_lt (tgt := 22) dX6_aheadOf_1 (by decide) (fun c1 => ?_) (fun c1 => ?_)
  · replace h := xif_t c1 h
    refine ev_iconst (v := (-1)) dX6_aheadOf_22 (by decide) ?_
    cases h
    exact ev_iret rfl (hQ) dX6_aheadOf_23 (Nat.zero_le _) (Nat.zero_le _)
  · replace h := xif_f c1 h
    refine ev_iload_n 1 dX6_aheadOf_4 rfl rfl ?_
    refine ev_aload_n 0 dX6_aheadOf_5 rfl rfl ?_
    refine xv_getF (a := iC_rest_aheads) cl_6 lk_RX6_9 kd_49 (xl hF rfl) (fun _ => rfl) (fr_49_2 hF) dX6_aheadOf_6 ?_
    refine ev_alen (v := 8) 0 (by decide) kd_50 (xl hF rfl) rfl dX6_aheadOf_9 ?_
    refine ev_icmp_ge (tgt := 22) dX6_aheadOf_10 (by decide) (fun c10 => ?_) (fun c10 => ?_)
    · replace h := xif_t c10 h
      refine ev_iconst (v := (-1)) dX6_aheadOf_22 (by decide) ?_
      cases h
      exact ev_iret rfl (hQ) dX6_aheadOf_23 (Nat.zero_le _) (Nat.zero_le _)
    · replace h := xif_f c10 h
      refine ev_aload_n 0 dX6_aheadOf_13 rfl rfl ?_
      refine xv_getF (a := iC_rest_aheads) cl_6 lk_RX6_9 kd_49 (xl hF rfl) (fun _ => rfl) (fr_49_2 hF) dX6_aheadOf_14 ?_
      refine ev_iload_n 1 dX6_aheadOf_17 rfl rfl ?_
      obtain ⟨v1, hv1, h⟩ := xbd_some h
      refine xv_iald kd_50 (xl hF rfl) hv1 dX6_aheadOf_18 ?_
      refine ev_goto (tgt := 23) dX6_aheadOf_19 (by decide) ?_
      cases h
      exact ev_iret rfl (hQ) dX6_aheadOf_23 (Nat.zero_le _) (Nat.zero_le _)
