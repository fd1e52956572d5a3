def fJ6_bitCount_0f7a4 (p0 : Int32) : Option (Int32) := xlt (p0 - (((p0.toUInt32 >>> ((1 : Int32).toUInt32 &&& Int32.toUInt32 31)).toInt32) &&& 1431655765)) fun x1 => xlt ((x1 &&& 858993459) + (((x1.toUInt32 >>> ((2 : Int32).toUInt32 &&& Int32.toUInt32 31)).toInt32) &&& 858993459)) fun x2 => xlt ((x2 + ((x2.toUInt32 >>> ((4 : Int32).toUInt32 &&& Int32.toUInt32 31)).toInt32)) &&& 252645135) fun x3 => xlt (x3 + ((x3.toUInt32 >>> ((8 : Int32).toUInt32 &&& Int32.toUInt32 31)).toInt32)) fun x4 => xlt (x4 + ((x4.toUInt32 >>> ((16 : Int32).toUInt32 &&& Int32.toUInt32 31)).toInt32)) fun x5 => some (x5 &&& 63)
set_option maxHeartbeats 4000000 in
set_option maxRecDepth 100000 in
theorem kJ6_bitCount_0f7a4 {E : xE} {d : Nat} {QQ : xP} (hd : 0 ≤ d) {p0 : Int32} {μ : xm} {R : xr} {n : Nat}  {res : Int32} (h : fJ6_bitCount_0f7a4 p0 = some res) (hQ : QQ (some (.int res)) (xσ μ R) n) : xCon E d Y_J6_bitCount_0f7a4 0 0 [.int p0] (xσ μ R) n QQ := by
  refine xCon_of pn_RJ6 (Nat.le_of_ble_eq_true rfl) (L0 := [(0, .int p0)]) rfl ?_
  unfold fJ6_bitCount_0f7a4 at h
  refine ev_iload_n 0 dJ6_bitCount_0f7a4_0 rfl rfl ?_
  refine ev_iload_n 0 dJ6_bitCount_0f7a4_1 rfl rfl ?_
  refine ev_iconst (v := 1) dJ6_bitCount_0f7a4_2 (by decide) ?_
  refine ev_iushr dJ6_bitCount_0f7a4_3 ?_
  refine ev_ldcw (v := 1431655765) m_452 dJ6_bitCount_0f7a4_4 ?_
  refine ev_iand dJ6_bitCount_0f7a4_7 ?_
  refine ev_isub dJ6_bitCount_0f7a4_8 ?_
  obtain ⟨x1, hx1, h⟩ := xlt_some h
  refine xv_istore_n (L' := [(0, .int x1)]) hx1 dJ6_bitCount_0f7a4_9 rfl (Nat.le_of_ble_eq_true rfl) rfl ?_
  refine ev_iload_n 0 dJ6_bitCount_0f7a4_10 rfl rfl ?_
  refine ev_ldcw (v := 858993459) m_453 dJ6_bitCount_0f7a4_11 ?_
  refine ev_iand dJ6_bitCount_0f7a4_14 ?_
  refine ev_iload_n 0 dJ6_bitCount_0f7a4_15 rfl rfl ?_
  refine ev_iconst (v := 2) dJ6_bitCount_0f7a4_16 (by decide) ?_
  refine ev_iushr dJ6_bitCount_0f7a4_17 ?_
  refine ev_ldcw (v := 858993459) m_453 dJ6_bitCount_0f7a4_18 ?_
  refine ev_iand dJ6_bitCount_0f7a4_21 ?_
  refine ev_iadd dJ6_bitCount_0f7a4_22 ?_
  obtain ⟨x2, hx2, h⟩ := xlt_some h
  refine xv_istore_n (L' := [(0, .int x2)]) hx2 dJ6_bitCount_0f7a4_23 rfl (Nat.le_of_ble_eq_true rfl) rfl ?_
  refine ev_iload_n 0 dJ6_bitCount_0f7a4_24 rfl rfl ?_
  refine ev_iload_n 0 dJ6_bitCount_0f7a4_25 rfl rfl ?_
  refine ev_iconst (v := 4) dJ6_bitCount_0f7a4_26 (by decide) ?_
  refine ev_iushr dJ6_bitCount_0f7a4_27 ?_
  refine ev_iadd dJ6_bitCount_0f7a4_28 ?_
  refine ev_ldcw (v := 252645135) m_454 dJ6_bitCount_0f7a4_29 ?_
  refine ev_iand dJ6_bitCount_0f7a4_32 ?_
  obtain ⟨x3, hx3, h⟩ := xlt_some h
  refine xv_istore_n (L' := [(0, .int x3)]) hx3 dJ6_bitCount_0f7a4_33 rfl (Nat.le_of_ble_eq_true rfl) rfl ?_
  refine ev_iload_n 0 dJ6_bitCount_0f7a4_34 rfl rfl ?_
  refine ev_iload_n 0 dJ6_bitCount_0f7a4_35 rfl rfl ?_
  refine ev_bipush (v := 8) dJ6_bitCount_0f7a4_36 (by decide) ?_
  refine ev_iushr dJ6_bitCount_0f7a4_38 ?_
  refine ev_iadd dJ6_bitCount_0f7a4_39 ?_
  obtain ⟨x4, hx4, h⟩ := xlt_some h
  refine xv_istore_n (L' := [(0, .int x4)]) hx4 dJ6_bitCount_0f7a4_40 rfl (Nat.le_of_ble_eq_true rfl) rfl ?_
  refine ev_iload_n 0 dJ6_bitCount_0f7a4_41 rfl rfl ?_
  refine ev_iload_n 0 dJ6_bitCount_0f7a4_42 rfl rfl ?_
  refine ev_bipush (v := 16) dJ6_bitCount_0f7a4_43 (by decide) ?_
  refine ev_iushr dJ6_bitCount_0f7a4_45 ?_
  refine ev_iadd dJ6_bitCount_0f7a4_46 ?_
  obtain ⟨x5, hx5, h⟩ := xlt_some h
  refine xv_istore_n (L' := [(0, .int x5)]) hx5 dJ6_bitCount_0f7a4_47 rfl (Nat.le_of_ble_eq_true rfl) rfl ?_
  refine ev_iload_n 0 dJ6_bitCount_0f7a4_48 rfl rfl ?_
  refine ev_bipush (v := 63) dJ6_bitCount_0f7a4_49 (by decide) ?_
  refine ev_iand dJ6_bitCount_0f7a4_51 ?_
  cases h
  exact ev_iret rfl (hQ) dJ6_bitCount_0f7a4_52 (Nat.zero_le _) (Nat.zero_le _)
def fJ7_fill_53178_b5 (x2 : Int32) (μ3 : xm) (p0 : Nat) (p1 : Int32) (x1 : Int32) : Option ((Int32 × xm) ⊕ (xm)) := if x1 ≤ x2 then (some (.inr μ3)) else (xbd (xsI μ3 p0 (xkd p0).2 x2 p1) fun μ5 => xlt (x2 + 1) fun x6 => some (.inl (x6, μ5)))
def fJ7_fill_53178 (p0 : Nat) (p1 : Int32) (μ : xm) : Option (xm) := xlt (Int32.ofNat (xkd p0).2) fun x1 => xbd (xloop xfu (fun v => fJ7_fill_53178_b5 v.1 v.2 p0 p1 x1) (0, μ)) fun q7 => some q7
set_option maxHeartbeats 4000000 in
set_option maxRecDepth 100000 in
theorem kJ7_fill_53178 {E : xE} {d : Nat} {QQ : xP} (hd : 0 ≤ d) {p0 : Nat} {p1 : Int32} {μ : xm} {R : xr} {n : Nat} (hp0 : xIsA 1 p0 n) {res : xm} (h : fJ7_fill_53178 p0 p1 μ = some res) (hQ : QQ none (xσ res R) n) : xCon E d Y_J7_fill_53178 0 0 [.ref (E.2.2.2 + p0), .int p1] (xσ μ R) n QQ := by
  refine xCon_of pn_RJ7 (Nat.le_of_ble_eq_true rfl) (L0 := [(0, .ref (E.2.2.2 + p0)), (1, .int p1)]) rfl ?_
  unfold fJ7_fill_53178 at h
  refine ev_iconst (v := 0) dJ7_fill_53178_0 (by decide) ?_
  refine xv_istore_n (L' := [(2, .int 0), (0, .ref (E.2.2.2 + p0)), (1, .int p1)]) rfl dJ7_fill_53178_1 rfl (Nat.le_of_ble_eq_true rfl) rfl ?_
  refine ev_aload_n 1 dJ7_fill_53178_2 rfl rfl ?_
  refine ev_alen (v := Int32.ofNat (xkd p0).2) 0 (by decide) (xIsA_kd hp0) hp0.2 rfl dJ7_fill_53178_3 ?_
  obtain ⟨x1, hx1, h⟩ := xlt_some h
  refine xv_istore_n (L' := [(3, .int x1), (2, .int 0), (0, .ref (E.2.2.2 + p0)), (1, .int p1)]) hx1 dJ7_fill_53178_4 rfl (Nat.le_of_ble_eq_true rfl) rfl ?_
  obtain ⟨q7, hq7, h⟩ := xbd_some h
  refine ev_sub (L' := [(0, .ref (E.2.2.2 + p0)), (1, .int p1), (2, .int 0), (3, .int x1)]) [2, 3, 1, 0] rfl ?_
  refine xloop_run (fun v => Ev E (xcm E d 0 0 QQ) Y_J7_fill_53178 5 [(0, .ref (E.2.2.2 + p0)), (1, .int p1), (2, .int v.1), (3, .int x1)] [] (xσ v.2 R) n 0 0) (fun v => Ev E (xcm E d 0 0 QQ) Y_J7_fill_53178 20 [] [] (xσ v R) n 0 0) ?_ _ _ _ hq7 ?_
  · rintro ⟨x2, μ3⟩ y4 h hk
    replace h : fJ7_fill_53178_b5 x2 μ3 p0 p1 x1 = some y4 := h
    show Ev E (xcm E d 0 0 QQ) Y_J7_fill_53178 5 [(0, .ref (E.2.2.2 + p0)), (1, .int p1), (2, .int x2), (3, .int x1)] [] (xσ μ3 R) n 0 0
    unfold fJ7_fill_53178_b5 at h
    refine ev_iload_n 2 dJ7_fill_53178_5 rfl rfl ?_
    refine ev_iload_n 3 dJ7_fill_53178_6 rfl rfl ?_
    refine ev_icmp_ge (tgt := 20) dJ7_fill_53178_7 (by decide) (fun c7 => ?_) (fun c7 => ?_)
    · replace h := xif_t c7 h
      cases h
      replace hk := xel_r hk
      exact ev_sub [] rfl (hk)
    · replace h := xif_f c7 h
      refine ev_aload_n 0 dJ7_fill_53178_10 rfl rfl ?_
      refine ev_iload_n 2 dJ7_fill_53178_11 rfl rfl ?_
      refine ev_iload_n 1 dJ7_fill_53178_12 rfl rfl ?_
      obtain ⟨μ5, hμ5, h⟩ := xbd_some h
      refine xv_iast (xIsA_kd hp0) hp0.2 hμ5 dJ7_fill_53178_13 ?_
      obtain ⟨x6, hx6, h⟩ := xlt_some h
      refine ev_iinc (L' := [(2, .int x6), (0, .ref (E.2.2.2 + p0)), (1, .int p1), (3, .int x1)]) 2 dJ7_fill_53178_14 rfl ((by rfl : x2 + Int32.ofInt 1 = x2 + 1).trans hx6) (Nat.le_of_ble_eq_true rfl) rfl ?_
      refine ev_goto (tgt := 5) dJ7_fill_53178_17 (by decide) ?_
      cases h
      replace hk := xel_l hk
      exact ev_sub [1, 2, 0, 3] rfl (hk)
  · show Ev E (xcm E d 0 0 QQ) Y_J7_fill_53178 20 [] [] (xσ q7 R) n 0 0
    cases h
    exact ev_vret rfl (hQ) dJ7_fill_53178_20 (Nat.zero_le _) (Nat.zero_le _)
def fJ7_fill_d0a16_b6 (x2 : Int32) (μ3 : xm) (p0 : Nat) (p1 : Int64) (x1 : Int32) : Option ((Int32 × xm) ⊕ (xm)) := if x1 ≤ x2 then (some (.inr μ3)) else (xbd (xsJ μ3 p0 (xkd p0).2 x2 p1) fun μ5 => xlt (x2 + 1) fun x6 => some (.inl (x6, μ5)))
def fJ7_fill_d0a16 (p0 : Nat) (p1 : Int64) (μ : xm) : Option (xm) := xlt (Int32.ofNat (xkd p0).2) fun x1 => xbd (xloop xfu (fun v => fJ7_fill_d0a16_b6 v.1 v.2 p0 p1 x1) (0, μ)) fun q7 => some q7
set_option maxHeartbeats 4000000 in
set_option maxRecDepth 100000 in
theorem kJ7_fill_d0a16 {E : xE} {d : Nat} {QQ : xP} (hd : 0 ≤ d) {p0 : Nat} {p1 : Int64} {μ : xm} {R : xr} {n : Nat} (hp0 : xIsA 2 p0 n) {res : xm} (h : fJ7_fill_d0a16 p0 p1 μ = some res) (hQ : QQ none (xσ res R) n) : xCon E d Y_J7_fill_d0a16 0 0 [.ref (E.2.2.2 + p0), .long p1] (xσ μ R) n QQ := by
  refine xCon_of pn_RJ7 (Nat.le_of_ble_eq_true rfl) (L0 := [(0, .ref (E.2.2.2 + p0)), (1, .long p1)]) rfl ?_
  unfold fJ7_fill_d0a16 at h
  refine ev_iconst (v := 0) dJ7_fill_d0a16_0 (by decide) ?_
  refine xv_istore_n (L' := [(3, .int 0), (0, .ref (E.2.2.2 + p0)), (1, .long p1)]) rfl dJ7_fill_d0a16_1 rfl (Nat.le_of_ble_eq_true rfl) rfl ?_
  refine ev_aload_n 1 dJ7_fill_d0a16_2 rfl rfl ?_
  refine ev_alen (v := Int32.ofNat (xkd p0).2) 1 (by decide) (xIsA_kd hp0) hp0.2 rfl dJ7_fill_d0a16_3 ?_
  obtain ⟨x1, hx1, h⟩ := xlt_some h
  refine xv_istore (L' := [(4, .int x1), (3, .int 0), (0, .ref (E.2.2.2 + p0)), (1, .long p1)]) hx1 dJ7_fill_d0a16_4 (Nat.le_of_ble_eq_true rfl) rfl ?_
  obtain ⟨q7, hq7, h⟩ := xbd_some h
  refine ev_sub (L' := [(0, .ref (E.2.2.2 + p0)), (1, .long p1), (3, .int 0), (4, .int x1)]) [2, 3, 1, 0] rfl ?_
  refine xloop_run (fun v => Ev E (xcm E d 0 0 QQ) Y_J7_fill_d0a16 6 [(0, .ref (E.2.2.2 + p0)), (1, .long p1), (3, .int v.1), (4, .int x1)] [] (xσ v.2 R) n 0 0) (fun v => Ev E (xcm E d 0 0 QQ) Y_J7_fill_d0a16 22 [] [] (xσ v R) n 0 0) ?_ _ _ _ hq7 ?_
  · rintro ⟨x2, μ3⟩ y4 h hk
    replace h : fJ7_fill_d0a16_b6 x2 μ3 p0 p1 x1 = some y4 := h
    show Ev E (xcm E d 0 0 QQ) Y_J7_fill_d0a16 6 [(0, .ref (E.2.2.2 + p0)), (1, .long p1), (3, .int x2), (4, .int x1)] [] (xσ μ3 R) n 0 0
    unfold fJ7_fill_d0a16_b6 at h
    refine ev_iload_n 2 dJ7_fill_d0a16_6 rfl rfl ?_
    refine ev_iload 3 dJ7_fill_d0a16_7 rfl ?_
    refine ev_icmp_ge (tgt := 22) dJ7_fill_d0a16_9 (by decide) (fun c9 => ?_) (fun c9 => ?_)
    · replace h := xif_t c9 h
      cases h
      replace hk := xel_r hk
      exact ev_sub [] rfl (hk)
    · replace h := xif_f c9 h
      refine ev_aload_n 0 dJ7_fill_d0a16_12 rfl rfl ?_
      refine ev_iload_n 2 dJ7_fill_d0a16_13 rfl rfl ?_
      refine ev_lload_n 1 dJ7_fill_d0a16_14 rfl rfl ?_
      obtain ⟨μ5, hμ5, h⟩ := xbd_some h
      refine xv_last (xIsA_kd hp0) hp0.2 hμ5 dJ7_fill_d0a16_15 ?_
      obtain ⟨x6, hx6, h⟩ := xlt_some h
      refine ev_iinc (L' := [(3, .int x6), (0, .ref (E.2.2.2 + p0)), (1, .long p1), (4, .int x1)]) 2 dJ7_fill_d0a16_16 rfl ((by rfl : x2 + Int32.ofInt 1 = x2 + 1).trans hx6) (Nat.le_of_ble_eq_true rfl) rfl ?_
      refine ev_goto (tgt := 6) dJ7_fill_d0a16_19 (by decide) ?_
      cases h
      replace hk := xel_l hk
      exact ev_sub [1, 2, 0, 3] rfl (hk)
  · show Ev E (xcm E d 0 0 QQ) Y_J7_fill_d0a16 22 [] [] (xσ q7 R) n 0 0
    cases h
    exact ev_vret rfl (hQ) dJ7_fill_d0a16_22 (Nat.zero_le _) (Nat.zero_le _)
