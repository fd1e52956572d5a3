def fX7_nearestTaker_b8 (x1 : Int32) (x2 : Int32) (x3 : Int32) (μ : xm) : Option ((Int32 × Int32 × Int32) ⊕ (Int32)) := if 8 ≤ x3 then (some (.inr x1)) else (xbd (xgI μ iC_striking_balance 8 x3) fun v5 => if 0 ≤ v5 then (xlt (x3 + 1) fun x6 => some (.inl (x1, x2, x6))) else (xbd (xgI μ iC_striking_away 8 x3) fun v7 => if x2 ≤ v7 then (xlt (x3 + 1) fun x8 => some (.inl (x1, x2, x8))) else (xbd (xgI μ iC_striking_away 8 x3) fun v9 => xlt (x3 + 1) fun x10 => some (.inl (x3, v9, x10)))))
def fX7_nearestTaker (μ : xm) : Option (Int32) := xbd (xloop xfu (fun v => fX7_nearestTaker_b8 v.1 v.2.1 v.2.2 μ) ((-1), 1000, 0)) fun q11 => some q11
set_option maxHeartbeats 4000000 in
set_option maxRecDepth 100000 in
theorem kX7_nearestTaker {E : xE} {d : Nat} {QQ : xP} (hd : 0 ≤ d)  {μ : xm} {R : xr} {n : Nat} (hF : xFin R n)  {res : Int32} (h : fX7_nearestTaker μ = some res) (hQ : QQ (some (.int res)) (xσ μ R) n) : xCon E d Y_X7_nearestTaker 0 0 [.ref (E.2.2.2 + iC_striking)] (xσ μ R) n QQ := by
  refine xCon_of pn_RX7 (Nat.le_of_ble_eq_true rfl) (L0 := [(0, .ref (E.2.2.2 + iC_striking))]) rfl ?_
  unfold fX7_nearestTaker at h
  refine ev_iconst (v := (-1)) dX7_nearestTaker_0 (by decide) ?_
  refine xv_istore_n (L' := [(1, .int (-1)), (0, .ref (E.2.2.2 + iC_striking))]) rfl dX7_nearestTaker_1 rfl (Nat.le_of_ble_eq_true rfl) rfl ?_
  refine ev_sipush (v := 1000) dX7_nearestTaker_2 (by decide) ?_
  refine xv_istore_n (L' := [(2, .int 1000), (1, .int (-1)), (0, .ref (E.2.2.2 + iC_striking))]) rfl dX7_nearestTaker_5 rfl (Nat.le_of_ble_eq_true rfl) rfl ?_
  refine ev_iconst (v := 0) dX7_nearestTaker_6 (by decide) ?_
  refine xv_istore_n (L' := [(3, .int 0), (2, .int 1000), (1, .int (-1)), (0, .ref (E.2.2.2 + iC_striking))]) rfl dX7_nearestTaker_7 rfl (Nat.le_of_ble_eq_true rfl) rfl ?_
  obtain ⟨q11, hq11, h⟩ := xbd_some h
  refine ev_sub (L' := [(0, .ref (E.2.2.2 + iC_striking)), (1, .int (-1)), (2, .int 1000), (3, .int 0)]) [3, 2, 1, 0] rfl ?_
  refine xloop_run (fun v => Ev E (xcm E d 0 0 QQ) Y_X7_nearestTaker 8 [(0, .ref (E.2.2.2 + iC_striking)), (1, .int v.1), (2, .int v.2.1), (3, .int v.2.2)] [] (xσ μ R) n 0 0) (fun v => Ev E (xcm E d 0 0 QQ) Y_X7_nearestTaker 48 [(1, .int v)] [] (xσ μ R) n 0 0) ?_ _ _ _ hq11 ?_
  · rintro ⟨x1, x2, x3⟩ y4 h hk
    replace h : fX7_nearestTaker_b8 x1 x2 x3 μ = some y4 := h
    show Ev E (xcm E d 0 0 QQ) Y_X7_nearestTaker 8 [(0, .ref (E.2.2.2 + iC_striking)), (1, .int x1), (2, .int x2), (3, .int x3)] [] (xσ μ R) n 0 0
    unfold fX7_nearestTaker_b8 at h
    refine ev_iload_n 3 dX7_nearestTaker_8 rfl rfl ?_
    refine ev_bipush (v := 8) dX7_nearestTaker_9 (by decide) ?_
    refine ev_icmp_ge (tgt := 48) dX7_nearestTaker_11 (by decide) (fun c11 => ?_) (fun c11 => ?_)
    · replace h := xif_t c11 h
      cases h
      replace hk := xel_r hk
      exact ev_sub [1] rfl (hk)
    · replace h := xif_f c11 h
      refine ev_aload_n 0 dX7_nearestTaker_14 rfl rfl ?_
      refine xv_getF (a := iC_striking_balance) cl_7 lk_RX7_18 kd_35 (xl hF rfl) (fun _ => rfl) (fr_35_2 hF) dX7_nearestTaker_15 ?_
      refine ev_iload_n 3 dX7_nearestTaker_18 rfl rfl ?_
      obtain ⟨v5, hv5, h⟩ := xbd_some h
      refine xv_iald kd_38 (xl hF rfl) hv5 dX7_nearestTaker_19 ?_
      refine ev_if_ge (tgt := 42) dX7_nearestTaker_20 (by decide) (fun c20 => ?_) (fun c20 => ?_)
      · replace h := xif_t c20 h
        obtain ⟨x6, hx6, h⟩ := xlt_some h
        refine ev_iinc (L' := [(3, .int x6), (0, .ref (E.2.2.2 + iC_striking)), (1, .int x1), (2, .int x2)]) 3 dX7_nearestTaker_42 rfl ((by rfl : x3 + Int32.ofInt 1 = x3 + 1).trans hx6) (Nat.le_of_ble_eq_true rfl) rfl ?_
        refine ev_goto (tgt := 8) dX7_nearestTaker_45 (by decide) ?_
        cases h
        replace hk := xel_l hk
        exact ev_sub [1, 2, 3, 0] rfl (hk)
      · replace h := xif_f c20 h
        refine ev_aload_n 0 dX7_nearestTaker_23 rfl rfl ?_
        refine xv_getF (a := iC_striking_away) cl_7 lk_RX7_21 kd_35 (xl hF rfl) (fun _ => rfl) (fr_35_3 hF) dX7_nearestTaker_24 ?_
        refine ev_iload_n 3 dX7_nearestTaker_27 rfl rfl ?_
        obtain ⟨v7, hv7, h⟩ := xbd_some h
        refine xv_iald kd_39 (xl hF rfl) hv7 dX7_nearestTaker_28 ?_
        refine ev_iload_n 2 dX7_nearestTaker_29 rfl rfl ?_
        refine ev_icmp_ge (tgt := 42) dX7_nearestTaker_30 (by decide) (fun c30 => ?_) (fun c30 => ?_)
        · replace h := xif_t c30 h
          obtain ⟨x8, hx8, h⟩ := xlt_some h
          refine ev_iinc (L' := [(3, .int x8), (0, .ref (E.2.2.2 + iC_striking)), (1, .int x1), (2, .int x2)]) 3 dX7_nearestTaker_42 rfl ((by rfl : x3 + Int32.ofInt 1 = x3 + 1).trans hx8) (Nat.le_of_ble_eq_true rfl) rfl ?_
          refine ev_goto (tgt := 8) dX7_nearestTaker_45 (by decide) ?_
          cases h
          replace hk := xel_l hk
          exact ev_sub [1, 2, 3, 0] rfl (hk)
        · replace h := xif_f c30 h
          refine ev_iload_n 3 dX7_nearestTaker_33 rfl rfl ?_
          refine xv_istore_n (L' := [(1, .int x3), (0, .ref (E.2.2.2 + iC_striking)), (2, .int x2), (3, .int x3)]) rfl dX7_nearestTaker_34 rfl (Nat.le_of_ble_eq_true rfl) rfl ?_
          refine ev_aload_n 1 dX7_nearestTaker_35 rfl rfl ?_
          refine xv_getF (a := iC_striking_away) cl_7 lk_RX7_21 kd_35 (xl hF rfl) (fun _ => rfl) (fr_35_3 hF) dX7_nearestTaker_36 ?_
          refine ev_iload_n 3 dX7_nearestTaker_39 rfl rfl ?_
          obtain ⟨v9, hv9, h⟩ := xbd_some h
          refine xv_iald kd_39 (xl hF rfl) hv9 dX7_nearestTaker_40 ?_
          refine xv_istore_n (L' := [(2, .int v9), (1, .int x3), (0, .ref (E.2.2.2 + iC_striking)), (3, .int x3)]) rfl dX7_nearestTaker_41 rfl (Nat.le_of_ble_eq_true rfl) rfl ?_
          obtain ⟨x10, hx10, h⟩ := xlt_some h
          refine ev_iinc (L' := [(3, .int x10), (2, .int v9), (1, .int x3), (0, .ref (E.2.2.2 + iC_striking))]) 3 dX7_nearestTaker_42 rfl ((by rfl : x3 + Int32.ofInt 1 = x3 + 1).trans hx10) (Nat.le_of_ble_eq_true rfl) rfl ?_
          refine ev_goto (tgt := 8) dX7_nearestTaker_45 (by decide) ?_
          cases h
          replace hk := xel_l hk
          exact ev_sub [3, 2, 1, 0] rfl (hk)
  · show Ev E (xcm E d 0 0 QQ) Y_X7_nearestTaker 48 [(1, .int q11)] [] (xσ μ R) n 0 0
    refine ev_iload_n 0 dX7_nearestTaker_48 rfl rfl ?_
    cases h
    exact ev_iret rfl (hQ) dX7_nearestTaker_49 (Nat.zero_le _) (Nat.zero_le _)
def fX8_above_b5 (x1 : Int64) (x2 : Int32) (o : Nat) (p0 : Int32) (μ : xm) : Option ((Int64 × Int32) ⊕ (Int64)) := if (μ.1 o 2) ≤ x2 then (some (.inr x1)) else (if 21 ≤ x2 then (some (.inr x1)) else (xbd (xgI μ (o + 1) 21 x2) fun v4 => if v4 ≤ p0 then (xlt (x2 + 1) fun x5 => some (.inl (x1, x5))) else (xbd (xgJ μ (o + 2) 21 x2) fun v6 => xbd (xgI μ (o + 1) 21 x2) fun v7 => xlt (x1 + (v6 * ((v7 - p0).toInt64))) fun x8 => xlt (x2 + 1) fun x9 => some (.inl (x8, x9)))))
def fX8_above (o : Nat) (p0 : Int32) (μ : xm) : Option (Int64) := xbd (xloop xfu (fun v => fX8_above_b5 v.1 v.2 o p0 μ) (0, 0)) fun q10 => some q10
set_option maxHeartbeats 4000000 in
set_option maxRecDepth 100000 in
theorem kX8_above {E : xE} {d : Nat} {QQ : xP} (hd : 0 ≤ d) {o : Nat} {p0 : Int32} {μ : xm} {R : xr} {n : Nat} (hF : xFin R n) (hI : xIs 8 o n) {res : Int64} (h : fX8_above o p0 μ = some res) (hQ : QQ (some (.long res)) (xσ μ R) n) : xCon E d Y_X8_above 0 0 [.ref (E.2.2.2 + o), .int p0] (xσ μ R) n QQ := by
  refine xCon_of pn_RX8 (Nat.le_of_ble_eq_true rfl) (L0 := [(0, .ref (E.2.2.2 + o)), (1, .int p0)]) rfl ?_
  unfold fX8_above at h
  refine ev_lconst (v := 0) dX8_above_0 (by decide) ?_
  refine xv_lstore_n (L' := [(2, .long 0), (0, .ref (E.2.2.2 + o)), (1, .int p0)]) rfl dX8_above_1 rfl (Nat.le_of_ble_eq_true rfl) rfl ?_
  refine ev_iconst (v := 0) dX8_above_2 (by decide) ?_
  refine xv_istore (L' := [(4, .int 0), (2, .long 0), (0, .ref (E.2.2.2 + o)), (1, .int p0)]) rfl dX8_above_3 (Nat.le_of_ble_eq_true rfl) rfl ?_
  obtain ⟨q10, hq10, h⟩ := xbd_some h
  refine ev_sub (L' := [(0, .ref (E.2.2.2 + o)), (1, .int p0), (2, .long 0), (4, .int 0)]) [2, 3, 1, 0] rfl ?_
  refine xloop_run (fun v => Ev E (xcm E d 0 0 QQ) Y_X8_above 5 [(0, .ref (E.2.2.2 + o)), (1, .int p0), (2, .long v.1), (4, .int v.2)] [] (xσ μ R) n 0 0) (fun v => Ev E (xcm E d 0 0 QQ) Y_X8_above 59 [(2, .long v)] [] (xσ μ R) n 0 0) ?_ _ _ _ hq10 ?_
  · rintro ⟨x1, x2⟩ y3 h hk
    replace h : fX8_above_b5 x1 x2 o p0 μ = some y3 := h
    show Ev E (xcm E d 0 0 QQ) Y_X8_above 5 [(0, .ref (E.2.2.2 + o)), (1, .int p0), (2, .long x1), (4, .int x2)] [] (xσ μ R) n 0 0
    unfold fX8_above_b5 at h
    refine ev_iload 3 dX8_above_5 rfl ?_
    refine ev_aload_n 0 dX8_above_7 rfl rfl ?_
    refine xv_getI cl_8 lk_RX8_19 (xIs8_kd hI) (xIs8_lt hI) (fun _ => rfl) dX8_above_8 ?_
    refine ev_icmp_ge (tgt := 59) dX8_above_11 (by decide) (fun c11 => ?_) (fun c11 => ?_)
    · replace h := xif_t c11 h
      cases h
      replace hk := xel_r hk
      exact ev_sub [2] rfl (hk)
    · replace h := xif_f c11 h
      refine ev_iload 3 dX8_above_14 rfl ?_
      refine ev_bipush (v := 21) dX8_above_16 (by decide) ?_
      refine ev_icmp_ge (tgt := 59) dX8_above_18 (by decide) (fun c18 => ?_) (fun c18 => ?_)
      · replace h := xif_t c18 h
        cases h
        replace hk := xel_r hk
        exact ev_sub [2] rfl (hk)
      · replace h := xif_f c18 h
        refine ev_aload_n 0 dX8_above_21 rfl rfl ?_
        refine xv_getF (a := (o + 1)) cl_8 lk_RX8_11 (xIs8_kd hI) (xIs8_lt hI) (fun _ => rfl) (xIs8_fr0 hF hI) dX8_above_22 ?_
        refine ev_iload 3 dX8_above_25 rfl ?_
        obtain ⟨v4, hv4, h⟩ := xbd_some h
        refine xv_iald (xIs8_kd0 hI) (xIs8_lt0 hI) hv4 dX8_above_27 ?_
        refine ev_iload_n 1 dX8_above_28 rfl rfl ?_
        refine ev_icmp_le (tgt := 53) dX8_above_29 (by decide) (fun c29 => ?_) (fun c29 => ?_)
        · replace h := xif_t c29 h
          obtain ⟨x5, hx5, h⟩ := xlt_some h
          refine ev_iinc (L' := [(4, .int x5), (0, .ref (E.2.2.2 + o)), (1, .int p0), (2, .long x1)]) 3 dX8_above_53 rfl ((by rfl : x2 + Int32.ofInt 1 = x2 + 1).trans hx5) (Nat.le_of_ble_eq_true rfl) rfl ?_
          refine ev_goto (tgt := 5) dX8_above_56 (by decide) ?_
          cases h
          replace hk := xel_l hk
          exact ev_sub [1, 2, 3, 0] rfl (hk)
        · replace h := xif_f c29 h
          refine ev_lload_n 2 dX8_above_32 rfl rfl ?_
          refine ev_aload_n 0 dX8_above_33 rfl rfl ?_
          refine xv_getF (a := (o + 2)) cl_8 lk_RX8_15 (xIs8_kd hI) (xIs8_lt hI) (fun _ => rfl) (xIs8_fr1 hF hI) dX8_above_34 ?_
          refine ev_iload 3 dX8_above_37 rfl ?_
          obtain ⟨v6, hv6, h⟩ := xbd_some h
          refine xv_lald (xIs8_kd1 hI) (xIs8_lt1 hI) hv6 dX8_above_39 ?_
          refine ev_aload_n 0 dX8_above_40 rfl rfl ?_
          refine xv_getF (a := (o + 1)) cl_8 lk_RX8_11 (xIs8_kd hI) (xIs8_lt hI) (fun _ => rfl) (xIs8_fr0 hF hI) dX8_above_41 ?_
          refine ev_iload 3 dX8_above_44 rfl ?_
          obtain ⟨v7, hv7, h⟩ := xbd_some h
          refine xv_iald (xIs8_kd0 hI) (xIs8_lt0 hI) hv7 dX8_above_46 ?_
          refine ev_iload_n 1 dX8_above_47 rfl rfl ?_
          refine ev_isub dX8_above_48 ?_
          refine ev_i2l dX8_above_49 ?_
          refine ev_lmul dX8_above_50 ?_
          refine ev_ladd dX8_above_51 ?_
          obtain ⟨x8, hx8, h⟩ := xlt_some h
          refine xv_lstore_n (L' := [(2, .long x8), (0, .ref (E.2.2.2 + o)), (1, .int p0), (4, .int x2)]) hx8 dX8_above_52 rfl (Nat.le_of_ble_eq_true rfl) rfl ?_
          obtain ⟨x9, hx9, h⟩ := xlt_some h
          refine ev_iinc (L' := [(4, .int x9), (2, .long x8), (0, .ref (E.2.2.2 + o)), (1, .int p0)]) 3 dX8_above_53 rfl ((by rfl : x2 + Int32.ofInt 1 = x2 + 1).trans hx9) (Nat.le_of_ble_eq_true rfl) rfl ?_
          refine ev_goto (tgt := 5) dX8_above_56 (by decide) ?_
          cases h
          replace hk := xel_l hk
          exact ev_sub [2, 3, 1, 0] rfl (hk)
  · show Ev E (xcm E d 0 0 QQ) Y_X8_above 59 [(2, .long q10)] [] (xσ μ R) n 0 0
    refine ev_lload_n 0 dX8_above_59 rfl rfl ?_
    cases h
    exact ev_lret rfl (hQ) dX8_above_60 (Nat.zero_le _) (Nat.zero_le _)
def fX8_add_b3 (x1 : Int32) (o : Nat) (p0 : Int32) (p1 : Int64) (μ : xm) : Option ((Int32) ⊕ ((Unit) ⊕ (xm))) := if (μ.1 o 2) ≤ x1 then (some (.inr (.inl ()))) else (if 21 ≤ x1 then (some (.inr (.inl ()))) else (xbd (xgI μ (o + 1) 21 x1) fun v3 => if v3 = p0 then (xbd (xgJ μ (o + 2) 21 x1) fun v5 => xbd (xsJ μ (o + 2) 21 x1 (v5 + p1)) fun μ6 => some (.inr (.inr μ6))) else (xlt (x1 + 1) fun x4 => some (.inl x4))))
def fX8_add (o : Nat) (p0 : Int32) (p1 : Int64) (μ : xm) : Option (xm) := xbd (xloop xfu (fun v => fX8_add_b3 v o p0 p1 μ) 0) fun q7 => xsm q7 (fun q8 => if (μ.1 o 2) < 0 then (some μ) else (if (μ.1 o 2) < 21 then (xbd (xsI μ (o + 1) 21 (μ.1 o 2) p0) fun μ10 => xbd (xsJ μ10 (o + 2) 21 (μ10.1 o 2) p1) fun μ11 => xlt (xpI μ11 o 2 ((μ11.1 o 2) + 1)) fun μ12 => some μ12) else (some μ))) (fun q9 => some q9)
set_option maxHeartbeats 4000000 in
set_option maxRecDepth 100000 in
theorem kX8_add {E : xE} {d : Nat} {QQ : xP} (hd : 0 ≤ d) {o : Nat} {p0 : Int32} {p1 : Int64} {μ : xm} {R : xr} {n : Nat} (hF : xFin R n) (hI : xIs 8 o n) {res : xm} (h : fX8_add o p0 p1 μ = some res) (hQ : QQ none (xσ res R) n) : xCon E d Y_X8_add 0 0 [.ref (E.2.2.2 + o), .int p0, .long p1] (xσ μ R) n QQ := by
  refine xCon_of pn_RX8 (Nat.le_of_ble_eq_true rfl) (L0 := [(0, .ref (E.2.2.2 + o)), (1, .int p0), (2, .long p1)]) rfl ?_
  unfold fX8_add at h
  refine ev_iconst (v := 0) dX8_add_0 (by decide) ?_
  refine xv_istore (L' := [(4, .int 0), (0, .ref (E.2.2.2 + o)), (1, .int p0), (2, .long p1)]) rfl dX8_add_1 (Nat.le_of_ble_eq_true rfl) rfl ?_
  obtain ⟨q7, hq7, h⟩ := xbd_some h
  refine ev_sub (L' := [(0, .ref (E.2.2.2 + o)), (1, .int p0), (2, .long p1), (4, .int 0)]) [1, 2, 3, 0] rfl ?_
  refine xloop_run (fun v => Ev E (xcm E d 0 0 QQ) Y_X8_add 3 [(0, .ref (E.2.2.2 + o)), (1, .int p0), (2, .long p1), (4, .int v)] [] (xσ μ R) n 0 0) (xel (fun v => Ev E (xcm E d 0 0 QQ) Y_X8_add 48 [(0, .ref (E.2.2.2 + o)), (1, .int p0), (2, .long p1)] [] (xσ μ R) n 0 0) (fun v => QQ none (xσ v R) n)) ?_ _ _ _ hq7 ?_
  · rintro x1 y2 h hk
    replace h : fX8_add_b3 x1 o p0 p1 μ = some y2 := h
    show Ev E (xcm E d 0 0 QQ) Y_X8_add 3 [(0, .ref (E.2.2.2 + o)), (1, .int p0), (2, .long p1), (4, .int x1)] [] (xσ μ R) n 0 0
    unfold fX8_add_b3 at h
    refine ev_iload 3 dX8_add_3 rfl ?_
    refine ev_aload_n 0 dX8_add_5 rfl rfl ?_
    refine xv_getI cl_8 lk_RX8_19 (xIs8_kd hI) (xIs8_lt hI) (fun _ => rfl) dX8_add_6 ?_
    refine ev_icmp_ge (tgt := 48) dX8_add_9 (by decide) (fun c9 => ?_) (fun c9 => ?_)
    · replace h := xif_t c9 h
      cases h
      replace hk := xel_r hk
      replace hk := xel_l hk
      exact ev_sub [0, 1, 2] rfl (hk)
    · replace h := xif_f c9 h
      refine ev_iload 3 dX8_add_12 rfl ?_
      refine ev_bipush (v := 21) dX8_add_14 (by decide) ?_
      refine ev_icmp_ge (tgt := 48) dX8_add_16 (by decide) (fun c16 => ?_) (fun c16 => ?_)
      · replace h := xif_t c16 h
        cases h
        replace hk := xel_r hk
        replace hk := xel_l hk
        exact ev_sub [0, 1, 2] rfl (hk)
      · replace h := xif_f c16 h
        refine ev_aload_n 0 dX8_add_19 rfl rfl ?_
        refine xv_getF (a := (o + 1)) cl_8 lk_RX8_11 (xIs8_kd hI) (xIs8_lt hI) (fun _ => rfl) (xIs8_fr0 hF hI) dX8_add_20 ?_
        refine ev_iload 3 dX8_add_23 rfl ?_
        obtain ⟨v3, hv3, h⟩ := xbd_some h
        refine xv_iald (xIs8_kd0 hI) (xIs8_lt0 hI) hv3 dX8_add_25 ?_
        refine ev_iload_n 1 dX8_add_26 rfl rfl ?_
        refine ev_icmp_ne (tgt := 42) dX8_add_27 (by decide) (fun c27 => ?_) (fun c27 => ?_)
        · replace h := xif_f c27 h
          obtain ⟨x4, hx4, h⟩ := xlt_some h
          refine ev_iinc (L' := [(4, .int x4), (0, .ref (E.2.2.2 + o)), (1, .int p0), (2, .long p1)]) 3 dX8_add_42 rfl ((by rfl : x1 + Int32.ofInt 1 = x1 + 1).trans hx4) (Nat.le_of_ble_eq_true rfl) rfl ?_
          refine ev_goto (tgt := 3) dX8_add_45 (by decide) ?_
          cases h
          replace hk := xel_l hk
          exact ev_sub [1, 2, 3, 0] rfl (hk)
        · replace h := xif_t c27 h
          refine ev_aload_n 0 dX8_add_30 rfl rfl ?_
          refine xv_getF (a := (o + 2)) cl_8 lk_RX8_15 (xIs8_kd hI) (xIs8_lt hI) (fun _ => rfl) (xIs8_fr1 hF hI) dX8_add_31 ?_
          refine ev_iload 3 dX8_add_34 rfl ?_
          refine ev_dup2 dX8_add_36 rfl rfl ?_
          obtain ⟨v5, hv5, h⟩ := xbd_some h
          refine xv_lald (xIs8_kd1 hI) (xIs8_lt1 hI) hv5 dX8_add_37 ?_
          refine ev_lload_n 2 dX8_add_38 rfl rfl ?_
          refine ev_ladd dX8_add_39 ?_
          obtain ⟨μ6, hμ6, h⟩ := xbd_some h
          refine xv_last (xIs8_kd1 hI) (xIs8_lt1 hI) hμ6 dX8_add_40 ?_
          cases h
          replace hk := xel_r hk
          replace hk := xel_r hk
          exact ev_vret rfl (hk) dX8_add_41 (Nat.zero_le _) (Nat.zero_le _)
  · rcases q7 with q8 | q9
    · replace h := xsm_l h
      show Ev E (xcm E d 0 0 QQ) Y_X8_add 48 [(0, .ref (E.2.2.2 + o)), (1, .int p0), (2, .long p1)] [] (xσ μ R) n 0 0
      refine ev_aload_n 0 dX8_add_48 rfl rfl ?_
      refine xv_getI cl_8 lk_RX8_19 (xIs8_kd hI) (xIs8_lt hI) (fun _ => rfl) dX8_add_49 ?_
      refine ev_if_lt (tgt := 64) dX8_add_52 (by decide) (fun c52 => ?_) (fun c52 => ?_)
      · replace h := xif_t c52 h
        cases h
        exact ev_vret rfl (hQ) dX8_add_64 (Nat.zero_le _) (Nat.zero_le _)
      · replace h := xif_f c52 h
        refine ev_aload_n 0 dX8_add_55 rfl rfl ?_
        refine xv_getI cl_8 lk_RX8_19 (xIs8_kd hI) (xIs8_lt hI) (fun _ => rfl) dX8_add_56 ?_
        refine ev_bipush (v := 21) dX8_add_59 (by decide) ?_
        refine ev_icmp_lt (tgt := 65) dX8_add_61 (by decide) (fun c61 => ?_) (fun c61 => ?_)
        · replace h := xif_t c61 h
          refine ev_aload_n 0 dX8_add_65 rfl rfl ?_
          refine xv_getF (a := (o + 1)) cl_8 lk_RX8_11 (xIs8_kd hI) (xIs8_lt hI) (fun _ => rfl) (xIs8_fr0 hF hI) dX8_add_66 ?_
          refine ev_aload_n 0 dX8_add_69 rfl rfl ?_
          refine xv_getI cl_8 lk_RX8_19 (xIs8_kd hI) (xIs8_lt hI) (fun _ => rfl) dX8_add_70 ?_
          refine ev_iload_n 1 dX8_add_73 rfl rfl ?_
          obtain ⟨μ10, hμ10, h⟩ := xbd_some h
          refine xv_iast (xIs8_kd0 hI) (xIs8_lt0 hI) hμ10 dX8_add_74 ?_
          refine ev_aload_n 0 dX8_add_75 rfl rfl ?_
          refine xv_getF (a := (o + 2)) cl_8 lk_RX8_15 (xIs8_kd hI) (xIs8_lt hI) (fun _ => rfl) (xIs8_fr1 hF hI) dX8_add_76 ?_
          refine ev_aload_n 0 dX8_add_79 rfl rfl ?_
          refine xv_getI cl_8 lk_RX8_19 (xIs8_kd hI) (xIs8_lt hI) (fun _ => rfl) dX8_add_80 ?_
          refine ev_lload_n 2 dX8_add_83 rfl rfl ?_
          obtain ⟨μ11, hμ11, h⟩ := xbd_some h
          refine xv_last (xIs8_kd1 hI) (xIs8_lt1 hI) hμ11 dX8_add_84 ?_
          refine ev_aload_n 0 dX8_add_85 rfl rfl ?_
          refine ev_dup dX8_add_86 rfl ?_
          refine xv_getI cl_8 lk_RX8_19 (xIs8_kd hI) (xIs8_lt hI) (fun _ => rfl) dX8_add_87 ?_
          refine ev_iconst (v := 1) dX8_add_90 (by decide) ?_
          refine ev_iadd dX8_add_91 ?_
          obtain ⟨μ12, hμ12, h⟩ := xlt_some h
          refine xv_putI cl_8 lk_RX8_19 rfl (xIs8_kd hI) (xIs8_lt hI) rfl rfl (fun _ => rfl) hμ12 dX8_add_92 ?_
          cases h
          exact ev_vret rfl (hQ) dX8_add_95 (Nat.zero_le _) (Nat.zero_le _)
        · replace h := xif_f c61 h
          cases h
          exact ev_vret rfl (hQ) dX8_add_64 (Nat.zero_le _) (Nat.zero_le _)
    · replace h := xsm_r h
      cases h
      exact hQ
def fX8_below_b5 (x1 : Int64) (x2 : Int32) (o : Nat) (p0 : Int32) (μ : xm) : Option ((Int64 × Int32) ⊕ (Int64)) := if (μ.1 o 2) ≤ x2 then (some (.inr x1)) else (if 21 ≤ x2 then (some (.inr x1)) else (xbd (xgI μ (o + 1) 21 x2) fun v4 => if p0 ≤ v4 then (xlt (x2 + 1) fun x5 => some (.inl (x1, x5))) else (xbd (xgJ μ (o + 2) 21 x2) fun v6 => xbd (xgI μ (o + 1) 21 x2) fun v7 => xlt (x1 + (v6 * ((p0 - v7).toInt64))) fun x8 => xlt (x2 + 1) fun x9 => some (.inl (x8, x9)))))
def fX8_below (o : Nat) (p0 : Int32) (μ : xm) : Option (Int64) := xbd (xloop xfu (fun v => fX8_below_b5 v.1 v.2 o p0 μ) (0, 0)) fun q10 => some q10
set_option maxHeartbeats 4000000 in
set_option maxRecDepth 100000 in
theorem kX8_below {E : xE} {d : Nat} {QQ : xP} (hd : 0 ≤ d) {o : Nat} {p0 : Int32} {μ : xm} {R : xr} {n : Nat} (hF : xFin R n) (hI : xIs 8 o n) {res : Int64} (h : fX8_below o p0 μ = some res) (hQ : QQ (some (.long res)) (xσ μ R) n) : xCon E d Y_X8_below 0 0 [.ref (E.2.2.2 + o), .int p0] (xσ μ R) n QQ := by
  refine xCon_of pn_RX8 (Nat.le_of_ble_eq_true rfl) (L0 := [(0, .ref (E.2.2.2 + o)), (1, .int p0)]) rfl ?_
  unfold fX8_below at h
  refine ev_lconst (v := 0) dX8_below_0 (by decide) ?_
  refine xv_lstore_n (L' := [(2, .long 0), (0, .ref (E.2.2.2 + o)), (1, .int p0)]) rfl dX8_below_1 rfl (Nat.le_of_ble_eq_true rfl) rfl ?_
  refine ev_iconst (v := 0) dX8_below_2 (by decide) ?_
  refine xv_istore (L' := [(4, .int 0), (2, .long 0), (0, .ref (E.2.2.2 + o)), (1, .int p0)]) rfl dX8_below_3 (Nat.le_of_ble_eq_true rfl) rfl ?_
  obtain ⟨q10, hq10, h⟩ := xbd_some h
  refine ev_sub (L' := [(0, .ref (E.2.2.2 + o)), (1, .int p0), (2, .long 0), (4, .int 0)]) [2, 3, 1, 0] rfl ?_
  refine xloop_run (fun v => Ev E (xcm E d 0 0 QQ) Y_X8_below 5 [(0, .ref (E.2.2.2 + o)), (1, .int p0), (2, .long v.1), (4, .int v.2)] [] (xσ μ R) n 0 0) (fun v => Ev E (xcm E d 0 0 QQ) Y_X8_below 59 [(2, .long v)] [] (xσ μ R) n 0 0) ?_ _ _ _ hq10 ?_
  · rintro ⟨x1, x2⟩ y3 h hk
    replace h : fX8_below_b5 x1 x2 o p0 μ = some y3 := h
    show Ev E (xcm E d 0 0 QQ) Y_X8_below 5 [(0, .ref (E.2.2.2 + o)), (1, .int p0), (2, .long x1), (4, .int x2)] [] (xσ μ R) n 0 0
    unfold fX8_below_b5 at h
    refine ev_iload 3 dX8_below_5 rfl ?_
    refine ev_aload_n 0 dX8_below_7 rfl rfl ?_
    refine xv_getI cl_8 lk_RX8_19 (xIs8_kd hI) (xIs8_lt hI) (fun _ => rfl) dX8_below_8 ?_
    refine ev_icmp_ge (tgt := 59) dX8_below_11 (by decide) (fun c11 => ?_) (fun c11 => ?_)
    · replace h := xif_t c11 h
      cases h
      replace hk := xel_r hk
      exact ev_sub [2] rfl (hk)
    · replace h := xif_f c11 h
      refine ev_iload 3 dX8_below_14 rfl ?_
      refine ev_bipush (v := 21) dX8_below_16 (by decide) ?_
      refine ev_icmp_ge (tgt := 59) dX8_below_18 (by decide) (fun c18 => ?_) (fun c18 => ?_)
      · replace h := xif_t c18 h
        cases h
        replace hk := xel_r hk
        exact ev_sub [2] rfl (hk)
      · replace h := xif_f c18 h
        refine ev_aload_n 0 dX8_below_21 rfl rfl ?_
        refine xv_getF (a := (o + 1)) cl_8 lk_RX8_11 (xIs8_kd hI) (xIs8_lt hI) (fun _ => rfl) (xIs8_fr0 hF hI) dX8_below_22 ?_
        refine ev_iload 3 dX8_below_25 rfl ?_
        obtain ⟨v4, hv4, h⟩ := xbd_some h
        refine xv_iald (xIs8_kd0 hI) (xIs8_lt0 hI) hv4 dX8_below_27 ?_
        refine ev_iload_n 1 dX8_below_28 rfl rfl ?_
        refine ev_icmp_ge (tgt := 53) dX8_below_29 (by decide) (fun c29 => ?_) (fun c29 => ?_)
        · replace h := xif_t c29 h
          obtain ⟨x5, hx5, h⟩ := xlt_some h
          refine ev_iinc (L' := [(4, .int x5), (0, .ref (E.2.2.2 + o)), (1, .int p0), (2, .long x1)]) 3 dX8_below_53 rfl ((by rfl : x2 + Int32.ofInt 1 = x2 + 1).trans hx5) (Nat.le_of_ble_eq_true rfl) rfl ?_
          refine ev_goto (tgt := 5) dX8_below_56 (by decide) ?_
          cases h
          replace hk := xel_l hk
          exact ev_sub [1, 2, 3, 0] rfl (hk)
        · replace h := xif_f c29 h
          refine ev_lload_n 2 dX8_below_32 rfl rfl ?_
          refine ev_aload_n 0 dX8_below_33 rfl rfl ?_
          refine xv_getF (a := (o + 2)) cl_8 lk_RX8_15 (xIs8_kd hI) (xIs8_lt hI) (fun _ => rfl) (xIs8_fr1 hF hI) dX8_below_34 ?_
          refine ev_iload 3 dX8_below_37 rfl ?_
          obtain ⟨v6, hv6, h⟩ := xbd_some h
          refine xv_lald (xIs8_kd1 hI) (xIs8_lt1 hI) hv6 dX8_below_39 ?_
          refine ev_iload_n 1 dX8_below_40 rfl rfl ?_
          refine ev_aload_n 0 dX8_below_41 rfl rfl ?_
          refine xv_getF (a := (o + 1)) cl_8 lk_RX8_11 (xIs8_kd hI) (xIs8_lt hI) (fun _ => rfl) (xIs8_fr0 hF hI) dX8_below_42 ?_
          refine ev_iload 3 dX8_below_45 rfl ?_
          obtain ⟨v7, hv7, h⟩ := xbd_some h
          refine xv_iald (xIs8_kd0 hI) (xIs8_lt0 hI) hv7 dX8_below_47 ?_
          refine ev_isub dX8_below_48 ?_
          refine ev_i2l dX8_below_49 ?_
          refine ev_lmul dX8_below_50 ?_
          refine ev_ladd dX8_below_51 ?_
          obtain ⟨x8, hx8, h⟩ := xlt_some h
          refine xv_lstore_n (L' := [(2, .long x8), (0, .ref (E.2.2.2 + o)), (1, .int p0), (4, .int x2)]) hx8 dX8_below_52 rfl (Nat.le_of_ble_eq_true rfl) rfl ?_
          obtain ⟨x9, hx9, h⟩ := xlt_some h
          refine ev_iinc (L' := [(4, .int x9), (2, .long x8), (0, .ref (E.2.2.2 + o)), (1, .int p0)]) 3 dX8_below_53 rfl ((by rfl : x2 + Int32.ofInt 1 = x2 + 1).trans hx9) (Nat.le_of_ble_eq_true rfl) rfl ?_
          refine ev_goto (tgt := 5) dX8_below_56 (by decide) ?_
          cases h
          replace hk := xel_l hk
          exact ev_sub [2, 3, 1, 0] rfl (hk)
  · show Ev E (xcm E d 0 0 QQ) Y_X8_below 59 [(2, .long q10)] [] (xσ μ R) n 0 0
    refine ev_lload_n 0 dX8_below_59 rfl rfl ?_
    cases h
    exact ev_lret rfl (hQ) dX8_below_60 (Nat.zero_le _) (Nat.zero_le _)
def fX8_empty (o : Nat) (μ : xm) : Option (xm) := xlt (xpI μ o 2 0) fun μ1 => some μ1
set_option maxHeartbeats 4000000 in
set_option maxRecDepth 100000 in
theorem kX8_empty {E : xE} {d : Nat} {QQ : xP} (hd : 0 ≤ d) {o : Nat} {μ : xm} {R : xr} {n : Nat} (hF : xFin R n) (hI : xIs 8 o n) {res : xm} (h : fX8_empty o μ = some res) (hQ : QQ none (xσ res R) n) : xCon E d Y_X8_empty 0 0 [.ref (E.2.2.2 + o)] (xσ μ R) n QQ := by
  refine xCon_of pn_RX8 (Nat.le_of_ble_eq_true rfl) (L0 := [(0, .ref (E.2.2.2 + o))]) rfl ?_
  unfold fX8_empty at h
  refine ev_aload_n 0 dX8_empty_0 rfl rfl ?_
  refine ev_iconst (v := 0) dX8_empty_1 (by decide) ?_
  obtain ⟨μ1, hμ1, h⟩ := xlt_some h
  refine xv_putI cl_8 lk_RX8_19 rfl (xIs8_kd hI) (xIs8_lt hI) rfl rfl (fun _ => rfl) hμ1 dX8_empty_2 ?_
  cases h
  exact ev_vret rfl (hQ) dX8_empty_5 (Nat.zero_le _) (Nat.zero_le _)
def fX8_length (o : Nat) (μ : xm) : Option (Int32) := some (μ.1 o 2)
set_option maxHeartbeats 4000000 in
set_option maxRecDepth 100000 in
theorem kX8_length {E : xE} {d : Nat} {QQ : xP} (hd : 0 ≤ d) {o : Nat} {μ : xm} {R : xr} {n : Nat} (hF : xFin R n) (hI : xIs 8 o n) {res : Int32} (h : fX8_length o μ = some res) (hQ : QQ (some (.int res)) (xσ μ R) n) : xCon E d Y_X8_length 0 0 [.ref (E.2.2.2 + o)] (xσ μ R) n QQ := by
  refine xCon_of pn_RX8 (Nat.le_of_ble_eq_true rfl) (L0 := [(0, .ref (E.2.2.2 + o))]) rfl ?_
  unfold fX8_length at h
  refine ev_aload_n 0 dX8_length_0 rfl rfl ?_
  refine xv_getI cl_8 lk_RX8_19 (xIs8_kd hI) (xIs8_lt hI) (fun _ => rfl) dX8_length_1 ?_
  cases h
  exact ev_iret rfl (hQ) dX8_length_4 (Nat.zero_le _) (Nat.zero_le _)
def fX8_minuteAt (o : Nat) (p0 : Int32) (μ : xm) : Option (Int32) := if p0 < 0 then (some 0) else (if (μ.1 o 2) ≤ p0 then (some 0) else (if 21 ≤ p0 then (some 0) else (xbd (xgI μ (o + 1) 21 p0) fun v1 => some v1)))
set_option maxHeartbeats 4000000 in
set_option maxRecDepth 100000 in
theorem kX8_minuteAt {E : xE} {d : Nat} {QQ : xP} (hd : 0 ≤ d) {o : Nat} {p0 : Int32} {μ : xm} {R : xr} {n : Nat} (hF : xFin R n) (hI : xIs 8 o n) {res : Int32} (h : fX8_minuteAt o p0 μ = some res) (hQ : QQ (some (.int res)) (xσ μ R) n) : xCon E d Y_X8_minuteAt 0 0 [.ref (E.2.2.2 + o), .int p0] (xσ μ R) n QQ := by
  refine xCon_of pn_RX8 (Nat.le_of_ble_eq_true rfl) (L0 := [(0, .ref (E.2.2.2 + o)), (1, .int p0)]) rfl ?_
  unfold fX8_minuteAt at h
  refine ev_iload_n 1 dX8_minuteAt_0 rfl rfl ?_
  refine ev_if_lt (tgt := 27) dX8_minuteAt_1 (by decide) (fun c1 => ?_) (fun c1 => ?_)
  · replace h := xif_t c1 h
    refine ev_iconst (v := 0) dX8_minuteAt_27 (by decide) ?_
    cases h
    exact ev_iret rfl (hQ) dX8_minuteAt_28 (Nat.zero_le _) (Nat.zero_le _)
  · replace h := xif_f c1 h
    refine ev_iload_n 1 dX8_minuteAt_4 rfl rfl ?_
    refine ev_aload_n 0 dX8_minuteAt_5 rfl rfl ?_
    refine xv_getI cl_8 lk_RX8_19 (xIs8_kd hI) (xIs8_lt hI) (fun _ => rfl) dX8_minuteAt_6 ?_
    refine ev_icmp_ge (tgt := 27) dX8_minuteAt_9 (by decide) (fun c9 => ?_) (fun c9 => ?_)
    · replace h := xif_t c9 h
      refine ev_iconst (v := 0) dX8_minuteAt_27 (by decide) ?_
      cases h
      exact ev_iret rfl (hQ) dX8_minuteAt_28 (Nat.zero_le _) (Nat.zero_le _)
    · replace h := xif_f c9 h
      refine ev_iload_n 1 dX8_minuteAt_12 rfl rfl ?_
      refine ev_bipush (v := 21) dX8_minuteAt_13 (by decide) ?_
      refine ev_icmp_ge (tgt := 27) dX8_minuteAt_15 (by decide) (fun c15 => ?_) (fun c15 => ?_)
      · replace h := xif_t c15 h
        refine ev_iconst (v := 0) dX8_minuteAt_27 (by decide) ?_
        cases h
        exact ev_iret rfl (hQ) dX8_minuteAt_28 (Nat.zero_le _) (Nat.zero_le _)
      · replace h := xif_f c15 h
        refine ev_aload_n 0 dX8_minuteAt_18 rfl rfl ?_
        refine xv_getF (a := (o + 1)) cl_8 lk_RX8_11 (xIs8_kd hI) (xIs8_lt hI) (fun _ => rfl) (xIs8_fr0 hF hI) dX8_minuteAt_19 ?_
        refine ev_iload_n 1 dX8_minuteAt_22 rfl rfl ?_
        obtain ⟨v1, hv1, h⟩ := xbd_some h
        refine xv_iald (xIs8_kd0 hI) (xIs8_lt0 hI) hv1 dX8_minuteAt_23 ?_
        refine ev_goto (tgt := 28) dX8_minuteAt_24 (by decide) ?_
        cases h
        exact ev_iret rfl (hQ) dX8_minuteAt_28 (Nat.zero_le _) (Nat.zero_le _)
def fX8_weightAt (o : Nat) (p0 : Int32) (μ : xm) : Option (Int64) := if p0 < 0 then (some 0) else (if (μ.1 o 2) ≤ p0 then (some 0) else (if 21 ≤ p0 then (some 0) else (xbd (xgJ μ (o + 2) 21 p0) fun v1 => some v1)))
set_option maxHeartbeats 4000000 in
set_option maxRecDepth 100000 in
theorem kX8_weightAt {E : xE} {d : Nat} {QQ : xP} (hd : 0 ≤ d) {o : Nat} {p0 : Int32} {μ : xm} {R : xr} {n : Nat} (hF : xFin R n) (hI : xIs 8 o n) {res : Int64} (h : fX8_weightAt o p0 μ = some res) (hQ : QQ (some (.long res)) (xσ μ R) n) : xCon E d Y_X8_weightAt 0 0 [.ref (E.2.2.2 + o), .int p0] (xσ μ R) n QQ := by
  refine xCon_of pn_RX8 (Nat.le_of_ble_eq_true rfl) (L0 := [(0, .ref (E.2.2.2 + o)), (1, .int p0)]) rfl ?_
  unfold fX8_weightAt at h
  refine ev_iload_n 1 dX8_weightAt_0 rfl rfl ?_
  refine ev_if_lt (tgt := 27) dX8_weightAt_1 (by decide) (fun c1 => ?_) (fun c1 => ?_)
  · replace h := xif_t c1 h
    refine ev_lconst (v := 0) dX8_weightAt_27 (by decide) ?_
    cases h
    exact ev_lret rfl (hQ) dX8_weightAt_28 (Nat.zero_le _) (Nat.zero_le _)
  · replace h := xif_f c1 h
    refine ev_iload_n 1 dX8_weightAt_4 rfl rfl ?_
    refine ev_aload_n 0 dX8_weightAt_5 rfl rfl ?_
    refine xv_getI cl_8 lk_RX8_19 (xIs8_kd hI) (xIs8_lt hI) (fun _ => rfl) dX8_weightAt_6 ?_
    refine ev_icmp_ge (tgt := 27) dX8_weightAt_9 (by decide) (fun c9 => ?_) (fun c9 => ?_)
    · replace h := xif_t c9 h
      refine ev_lconst (v := 0) dX8_weightAt_27 (by decide) ?_
      cases h
      exact ev_lret rfl (hQ) dX8_weightAt_28 (Nat.zero_le _) (Nat.zero_le _)
    · replace h := xif_f c9 h
      refine ev_iload_n 1 dX8_weightAt_12 rfl rfl ?_
      refine ev_bipush (v := 21) dX8_weightAt_13 (by decide) ?_
      refine ev_icmp_ge (tgt := 27) dX8_weightAt_15 (by decide) (fun c15 => ?_) (fun c15 => ?_)
      · replace h := xif_t c15 h
        refine ev_lconst (v := 0) dX8_weightAt_27 (by decide) ?_
        cases h
        exact ev_lret rfl (hQ) dX8_weightAt_28 (Nat.zero_le _) (Nat.zero_le _)
      · replace h := xif_f c15 h
        refine ev_aload_n 0 dX8_weightAt_18 rfl rfl ?_
        refine xv_getF (a := (o + 2)) cl_8 lk_RX8_15 (xIs8_kd hI) (xIs8_lt hI) (fun _ => rfl) (xIs8_fr1 hF hI) dX8_weightAt_19 ?_
        refine ev_iload_n 1 dX8_weightAt_22 rfl rfl ?_
        obtain ⟨v1, hv1, h⟩ := xbd_some h
        refine xv_lald (xIs8_kd1 hI) (xIs8_lt1 hI) hv1 dX8_weightAt_23 ?_
        refine ev_goto (tgt := 28) dX8_weightAt_24 (by decide) ?_
        cases h
        exact ev_lret rfl (hQ) dX8_weightAt_28 (Nat.zero_le _) (Nat.zero_le _)
def fX9_byteAt (p0 : Int32) (μ : xm) : Option (Int32) := if p0 < 0 then (some (-1)) else (if (μ.1 iC_tape 1) ≤ p0 then (some (-1)) else (if 400 ≤ p0 then (some (-1)) else (xbd (xgI μ iC_tape_bytes 400 p0) fun v1 => some (v1 &&& 255))))
set_option maxHeartbeats 4000000 in
set_option maxRecDepth 100000 in
theorem kX9_byteAt {E : xE} {d : Nat} {QQ : xP} (hd : 0 ≤ d) {p0 : Int32} {μ : xm} {R : xr} {n : Nat} (hF : xFin R n)  {res : Int32} (h : fX9_byteAt p0 μ = some res) (hQ : QQ (some (.int res)) (xσ μ R) n) : xCon E d Y_X9_byteAt 0 0 [.ref (E.2.2.2 + iC_tape), .int p0] (xσ μ R) n QQ := by
  refine xCon_of pn_RX9 (Nat.le_of_ble_eq_true rfl) (L0 := [(0, .ref (E.2.2.2 + iC_tape)), (1, .int p0)]) rfl ?_
  unfold fX9_byteAt at h
  refine ev_iload_n 1 dX9_byteAt_0 rfl rfl ?_
  refine ev_if_lt (tgt := 34) dX9_byteAt_1 (by decide) (fun c1 => ?_) (fun c1 => ?_)
  · replace h := xif_t c1 h
    refine ev_iconst (v := (-1)) dX9_byteAt_34 (by decide) ?_
    cases h
    exact ev_iret rfl (hQ) dX9_byteAt_35 (Nat.zero_le _) (Nat.zero_le _)
  · replace h := xif_f c1 h
    refine ev_iload_n 1 dX9_byteAt_4 rfl rfl ?_
    refine ev_aload_n 0 dX9_byteAt_5 rfl rfl ?_
    refine xv_getI cl_9 lk_RX9_15 kd_1 (xl hF rfl) (fun _ => rfl) dX9_byteAt_6 ?_
    refine ev_icmp_ge (tgt := 34) dX9_byteAt_9 (by decide) (fun c9 => ?_) (fun c9 => ?_)
    · replace h := xif_t c9 h
      refine ev_iconst (v := (-1)) dX9_byteAt_34 (by decide) ?_
      cases h
      exact ev_iret rfl (hQ) dX9_byteAt_35 (Nat.zero_le _) (Nat.zero_le _)
    · replace h := xif_f c9 h
      refine ev_iload_n 1 dX9_byteAt_12 rfl rfl ?_
      refine ev_aload_n 0 dX9_byteAt_13 rfl rfl ?_
      refine xv_getF (a := iC_tape_bytes) cl_9 lk_RX9_9 kd_1 (xl hF rfl) (fun _ => rfl) (fr_1_0 hF) dX9_byteAt_14 ?_
      refine ev_alen (v := 400) 2 (by decide) kd_2 (xl hF rfl) rfl dX9_byteAt_17 ?_
      refine ev_icmp_ge (tgt := 34) dX9_byteAt_18 (by decide) (fun c18 => ?_) (fun c18 => ?_)
      · replace h := xif_t c18 h
        refine ev_iconst (v := (-1)) dX9_byteAt_34 (by decide) ?_
        cases h
        exact ev_iret rfl (hQ) dX9_byteAt_35 (Nat.zero_le _) (Nat.zero_le _)
      · replace h := xif_f c18 h
        refine ev_aload_n 0 dX9_byteAt_21 rfl rfl ?_
        refine xv_getF (a := iC_tape_bytes) cl_9 lk_RX9_9 kd_1 (xl hF rfl) (fun _ => rfl) (fr_1_0 hF) dX9_byteAt_22 ?_
        refine ev_iload_n 1 dX9_byteAt_25 rfl rfl ?_
        obtain ⟨v1, hv1, h⟩ := xbd_some h
        refine xv_bald kd_2 (xl hF rfl) hv1 dX9_byteAt_26 ?_
        refine ev_sipush (v := 255) dX9_byteAt_27 (by decide) ?_
        refine ev_iand dX9_byteAt_30 ?_
        refine ev_goto (tgt := 35) dX9_byteAt_31 (by decide) ?_
        cases h
        exact ev_iret rfl (hQ) dX9_byteAt_35 (Nat.zero_le _) (Nat.zero_le _)
def fX9_empty (μ : xm) : Option (xm) := xlt (xpI μ iC_tape 1 0) fun μ1 => some μ1
set_option maxHeartbeats 4000000 in
set_option maxRecDepth 100000 in
theorem kX9_empty {E : xE} {d : Nat} {QQ : xP} (hd : 0 ≤ d)  {μ : xm} {R : xr} {n : Nat} (hF : xFin R n)  {res : xm} (h : fX9_empty μ = some res) (hQ : QQ none (xσ res R) n) : xCon E d Y_X9_empty 0 0 [.ref (E.2.2.2 + iC_tape)] (xσ μ R) n QQ := by
  refine xCon_of pn_RX9 (Nat.le_of_ble_eq_true rfl) (L0 := [(0, .ref (E.2.2.2 + iC_tape))]) rfl ?_
  unfold fX9_empty at h
  refine ev_aload_n 0 dX9_empty_0 rfl rfl ?_
  refine ev_iconst (v := 0) dX9_empty_1 (by decide) ?_
  obtain ⟨μ1, hμ1, h⟩ := xlt_some h
  refine xv_putI cl_9 lk_RX9_15 rfl kd_1 (xl hF rfl) rfl rfl (fun _ => rfl) hμ1 dX9_empty_2 ?_
  cases h
  exact ev_vret rfl (hQ) dX9_empty_5 (Nat.zero_le _) (Nat.zero_le _)
def fX9_length (μ : xm) : Option (Int32) := some (μ.1 iC_tape 1)
set_option maxHeartbeats 4000000 in
set_option maxRecDepth 100000 in
theorem kX9_length {E : xE} {d : Nat} {QQ : xP} (hd : 0 ≤ d)  {μ : xm} {R : xr} {n : Nat} (hF : xFin R n)  {res : Int32} (h : fX9_length μ = some res) (hQ : QQ (some (.int res)) (xσ μ R) n) : xCon E d Y_X9_length 0 0 [.ref (E.2.2.2 + iC_tape)] (xσ μ R) n QQ := by
  refine xCon_of pn_RX9 (Nat.le_of_ble_eq_true rfl) (L0 := [(0, .ref (E.2.2.2 + iC_tape))]) rfl ?_
  unfold fX9_length at h
  refine ev_aload_n 0 dX9_length_0 rfl rfl ?_
  refine xv_getI cl_9 lk_RX9_15 kd_1 (xl hF rfl) (fun _ => rfl) dX9_length_1 ?_
  cases h
  exact ev_iret rfl (hQ) dX9_length_4 (Nat.zero_le _) (Nat.zero_le _)
def fX9_put_b3 (x1 : Int32) (μ2 : xm) (p0 : Int32) : Option ((Int32 × xm) ⊕ (xm)) := if x1 < 0 then (some (.inr μ2)) else (if (μ2.1 iC_tape 1) < 0 then (xlt (x1 + (-8)) fun x4 => some (.inl (x4, μ2))) else (if 400 ≤ (μ2.1 iC_tape 1) then (xlt (x1 + (-8)) fun x5 => some (.inl (x5, μ2))) else (xbd (xsB μ2 iC_tape_bytes 400 (μ2.1 iC_tape 1) ((p0 >>> (x1 &&& 31)).toInt8.toInt32)) fun μ6 => xlt (xpI μ6 iC_tape 1 ((μ6.1 iC_tape 1) + 1)) fun μ7 => xlt (x1 + (-8)) fun x8 => some (.inl (x8, μ7)))))
def fX9_put (p0 : Int32) (μ : xm) : Option (xm) := xbd (xloop xfu (fun v => fX9_put_b3 v.1 v.2 p0) (24, μ)) fun q9 => some q9
set_option maxHeartbeats 4000000 in
set_option maxRecDepth 100000 in
theorem kX9_put {E : xE} {d : Nat} {QQ : xP} (hd : 0 ≤ d) {p0 : Int32} {μ : xm} {R : xr} {n : Nat} (hF : xFin R n)  {res : xm} (h : fX9_put p0 μ = some res) (hQ : QQ none (xσ res R) n) : xCon E d Y_X9_put 0 0 [.ref (E.2.2.2 + iC_tape), .int p0] (xσ μ R) n QQ := by
  refine xCon_of pn_RX9 (Nat.le_of_ble_eq_true rfl) (L0 := [(0, .ref (E.2.2.2 + iC_tape)), (1, .int p0)]) rfl ?_
  unfold fX9_put at h
  refine ev_bipush (v := 24) dX9_put_0 (by decide) ?_
  refine xv_istore_n (L' := [(2, .int 24), (0, .ref (E.2.2.2 + iC_tape)), (1, .int p0)]) rfl dX9_put_2 rfl (Nat.le_of_ble_eq_true rfl) rfl ?_
  obtain ⟨q9, hq9, h⟩ := xbd_some h
  refine ev_sub (L' := [(0, .ref (E.2.2.2 + iC_tape)), (1, .int p0), (2, .int 24)]) [1, 2, 0] rfl ?_
  refine xloop_run (fun v => Ev E (xcm E d 0 0 QQ) Y_X9_put 3 [(0, .ref (E.2.2.2 + iC_tape)), (1, .int p0), (2, .int v.1)] [] (xσ v.2 R) n 0 0) (fun v => Ev E (xcm E d 0 0 QQ) Y_X9_put 55 [] [] (xσ v R) n 0 0) ?_ _ _ _ hq9 ?_
  · rintro ⟨x1, μ2⟩ y3 h hk
    replace h : fX9_put_b3 x1 μ2 p0 = some y3 := h
    show Ev E (xcm E d 0 0 QQ) Y_X9_put 3 [(0, .ref (E.2.2.2 + iC_tape)), (1, .int p0), (2, .int x1)] [] (xσ μ2 R) n 0 0
    unfold fX9_put_b3 at h
    refine ev_iload_n 2 dX9_put_3 rfl rfl ?_
    refine ev_if_lt (tgt := 55) dX9_put_4 (by decide) (fun c4 => ?_) (fun c4 => ?_)
    · replace h := xif_t c4 h
      cases h
      replace hk := xel_r hk
      exact ev_sub [] rfl (hk)
    · replace h := xif_f c4 h
      refine ev_aload_n 0 dX9_put_7 rfl rfl ?_
      refine xv_getI cl_9 lk_RX9_15 kd_1 (xl hF rfl) (fun _ => rfl) dX9_put_8 ?_
      refine ev_if_lt (tgt := 49) dX9_put_11 (by decide) (fun c11 => ?_) (fun c11 => ?_)
      · replace h := xif_t c11 h
        obtain ⟨x4, hx4, h⟩ := xlt_some h
        refine ev_iinc (L' := [(2, .int x4), (0, .ref (E.2.2.2 + iC_tape)), (1, .int p0)]) 2 dX9_put_49 rfl ((by rfl : x1 + Int32.ofInt (-8) = x1 + (-8)).trans hx4) (Nat.le_of_ble_eq_true rfl) rfl ?_
        refine ev_goto (tgt := 3) dX9_put_52 (by decide) ?_
        cases h
        replace hk := xel_l hk
        exact ev_sub [1, 2, 0] rfl (hk)
      · replace h := xif_f c11 h
        refine ev_aload_n 0 dX9_put_14 rfl rfl ?_
        refine xv_getI cl_9 lk_RX9_15 kd_1 (xl hF rfl) (fun _ => rfl) dX9_put_15 ?_
        refine ev_aload_n 0 dX9_put_18 rfl rfl ?_
        refine xv_getF (a := iC_tape_bytes) cl_9 lk_RX9_9 kd_1 (xl hF rfl) (fun _ => rfl) (fr_1_0 hF) dX9_put_19 ?_
        refine ev_alen (v := 400) 2 (by decide) kd_2 (xl hF rfl) rfl dX9_put_22 ?_
        refine ev_icmp_ge (tgt := 49) dX9_put_23 (by decide) (fun c23 => ?_) (fun c23 => ?_)
        · replace h := xif_t c23 h
          obtain ⟨x5, hx5, h⟩ := xlt_some h
          refine ev_iinc (L' := [(2, .int x5), (0, .ref (E.2.2.2 + iC_tape)), (1, .int p0)]) 2 dX9_put_49 rfl ((by rfl : x1 + Int32.ofInt (-8) = x1 + (-8)).trans hx5) (Nat.le_of_ble_eq_true rfl) rfl ?_
          refine ev_goto (tgt := 3) dX9_put_52 (by decide) ?_
          cases h
          replace hk := xel_l hk
          exact ev_sub [1, 2, 0] rfl (hk)
        · replace h := xif_f c23 h
          refine ev_aload_n 0 dX9_put_26 rfl rfl ?_
          refine xv_getF (a := iC_tape_bytes) cl_9 lk_RX9_9 kd_1 (xl hF rfl) (fun _ => rfl) (fr_1_0 hF) dX9_put_27 ?_
          refine ev_aload_n 0 dX9_put_30 rfl rfl ?_
          refine xv_getI cl_9 lk_RX9_15 kd_1 (xl hF rfl) (fun _ => rfl) dX9_put_31 ?_
          refine ev_iload_n 1 dX9_put_34 rfl rfl ?_
          refine ev_iload_n 2 dX9_put_35 rfl rfl ?_
          refine ev_ishr dX9_put_36 ?_
          refine ev_i2b dX9_put_37 ?_
          obtain ⟨μ6, hμ6, h⟩ := xbd_some h
          refine xv_bast kd_2 (xl hF rfl) hμ6 dX9_put_38 ?_
          refine ev_aload_n 0 dX9_put_39 rfl rfl ?_
          refine ev_dup dX9_put_40 rfl ?_
          refine xv_getI cl_9 lk_RX9_15 kd_1 (xl hF rfl) (fun _ => rfl) dX9_put_41 ?_
          refine ev_iconst (v := 1) dX9_put_44 (by decide) ?_
          refine ev_iadd dX9_put_45 ?_
          obtain ⟨μ7, hμ7, h⟩ := xlt_some h
          refine xv_putI cl_9 lk_RX9_15 rfl kd_1 (xl hF rfl) rfl rfl (fun _ => rfl) hμ7 dX9_put_46 ?_
          obtain ⟨x8, hx8, h⟩ := xlt_some h
          refine ev_iinc (L' := [(2, .int x8), (0, .ref (E.2.2.2 + iC_tape)), (1, .int p0)]) 2 dX9_put_49 rfl ((by rfl : x1 + Int32.ofInt (-8) = x1 + (-8)).trans hx8) (Nat.le_of_ble_eq_true rfl) rfl ?_
          refine ev_goto (tgt := 3) dX9_put_52 (by decide) ?_
          cases h
          replace hk := xel_l hk
          exact ev_sub [1, 2, 0] rfl (hk)
  · show Ev E (xcm E d 0 0 QQ) Y_X9_put 55 [] [] (xσ q9 R) n 0 0
    cases h
    exact ev_vret rfl (hQ) dX9_put_55 (Nat.zero_le _) (Nat.zero_le _)
def fX0_reckon_j140 (o : Nat) (x2 : Int32) (x3 : Int32) (μ4 : xm) (v6 : Int32) : Option ((Int32 × Int32 × xm) ⊕ (Int32 × xm)) := if x2 < 2 then (xlt (x3 + 1) fun x8 => some (.inl (x2, x8, μ4))) else (xlt (x2 + (-1)) fun x9 => xbd (xgJ μ4 (o + 6) 32 (x9 - 1)) fun v10 => xbd (xgJ μ4 (o + 6) 32 x9) fun v11 => xbd (fX0_join v6 v10 v11) fun q12 => xbd (xsJ μ4 (o + 6) 32 (x9 - 1) q12) fun μ13 => xlt (x3 + 1) fun x14 => some (.inl (x9, x14, μ13)))
def fX0_reckon_j103 (o : Nat) (x2 : Int32) (x3 : Int32) (μ4 : xm) (v6 : Int32) : Option ((Int32 × Int32 × xm) ⊕ (Int32 × xm)) := if v6 = 33 then (if x2 < 1 then (fX0_reckon_j140 o x2 x3 μ4 v6) else (xbd (xgJ μ4 (o + 6) 32 (x2 - 1)) fun v15 => xbd (fX0_not v15) fun q16 => xbd (xsJ μ4 (o + 6) 32 (x2 - 1) q16) fun μ17 => xlt (x3 + 1) fun x18 => some (.inl (x2, x18, μ17)))) else (fX0_reckon_j140 o x2 x3 μ4 v6)
def fX0_reckon_j53 (x7 : Int32) (o : Nat) (p2 : Nat) (x2 : Int32) (x3 : Int32) (μ4 : xm) (v6 : Int32) : Option ((Int32 × Int32 × xm) ⊕ (Int32 × xm)) := if x7 = 0 then (fX0_reckon_j103 o x2 x3 μ4 v6) else (if 32 ≤ x2 then (fX0_reckon_j103 o x2 x3 μ4 v6) else (if 0 ≤ v6 then (xbd (fX0_valueOf v6 p2 μ4) fun q19 => xbd (xsJ μ4 (o + 6) 32 x2 q19.toInt64) fun μ20 => xlt (x2 + 1) fun x21 => xlt (x3 + 1) fun x22 => some (.inl (x21, x22, μ20))) else (xbd (xsJ μ4 (o + 6) 32 x2 (((-1) - v6).toInt64)) fun μ23 => xlt (x2 + 1) fun x24 => xlt (x3 + 1) fun x25 => some (.inl (x24, x25, μ23)))))
def fX0_reckon_j48 (o : Nat) (p2 : Nat) (x2 : Int32) (x3 : Int32) (μ4 : xm) (v6 : Int32) : Option ((Int32 × Int32 × xm) ⊕ (Int32 × xm)) := fX0_reckon_j53 1 o p2 x2 x3 μ4 v6
def fX0_reckon_b10 (x2 : Int32) (x3 : Int32) (μ4 : xm) (o : Nat) (p1 : Int32) (p2 : Nat) : Option ((Int32 × Int32 × xm) ⊕ (Int32 × xm)) := if p1 ≤ x3 then (some (.inr (x2, μ4))) else (if 200 ≤ x3 then (some (.inr (x2, μ4))) else (xbd (xgI μ4 (o + 5) 200 x3) fun v6 => if v6 < 0 then (fX0_reckon_j48 o p2 x2 x3 μ4 v6) else (xbd (fX0_isFact v6) fun q26 => if q26 = 0 then (fX0_reckon_j53 0 o p2 x2 x3 μ4 v6) else (fX0_reckon_j48 o p2 x2 x3 μ4 v6))))
def fX0_reckon (o : Nat) (p0 : Int32) (p1 : Int32) (p2 : Nat) (μ : xm) : Option (Int64 × xm) := xlt (xmax p0 0) fun x1 => xbd (xloop xfu (fun v => fX0_reckon_b10 v.1 v.2.1 v.2.2 o p1 p2) (0, x1, μ)) fun q27 => if q27.1 = 1 then (xbd (xgJ q27.2 (o + 6) 32 0) fun v28 => some (v28, q27.2)) else (some (1099511627776, q27.2))
set_option maxHeartbeats 4000000 in
set_option maxRecDepth 100000 in
theorem kX0_reckon {E : xE} {d : Nat} {QQ : xP} (hd : 1 ≤ d) {o : Nat} {p0 : Int32} {p1 : Int32} {p2 : Nat} {μ : xm} {R : xr} {n : Nat} (hF : xFin R n) (hI : xIs 0 o n) (hp2 : xIsA 1 p2 n) {res : Int64 × xm} (h : fX0_reckon o p0 p1 p2 μ = some res) (hQ : QQ (some (.long res.1)) (xσ res.2 R) n) : xCon E d Y_X0_reckon 0 0 [.ref (E.2.2.2 + o), .int p0, .int p1, .ref (E.2.2.2 + p2)] (xσ μ R) n QQ := by
  refine xCon_of pn_RX0 (Nat.le_of_ble_eq_true rfl) (L0 := [(0, .ref (E.2.2.2 + o)), (1, .int p0), (2, .int p1), (3, .ref (E.2.2.2 + p2))]) rfl ?_
  unfold fX0_reckon at h
  refine ev_iconst (v := 0) dX0_reckon_0 (by decide) ?_
  refine xv_istore (L' := [(4, .int 0), (0, .ref (E.2.2.2 + o)), (1, .int p0), (2, .int p1), (3, .ref (E.2.2.2 + p2))]) rfl dX0_reckon_1 (Nat.le_of_ble_eq_true rfl) rfl ?_
  refine ev_iload_n 2 dX0_reckon_3 rfl rfl ?_
  refine ev_iconst (v := 0) dX0_reckon_4 (by decide) ?_
  refine ev_mmax ⟨m_718, m_534, m_124, m_535⟩ (Nat.le_trans (by decide) hd) (xlo2 (Nat.le_trans (by decide) hd)) (Nat.le_of_ble_eq_true rfl) (Nat.zero_le _) (Nat.zero_le _) dX0_reckon_5 ?_
  obtain ⟨x1, hx1, h⟩ := xlt_some h
  refine xv_istore (L' := [(5, .int x1), (4, .int 0), (0, .ref (E.2.2.2 + o)), (1, .int p0), (2, .int p1), (3, .ref (E.2.2.2 + p2))]) hx1 dX0_reckon_8 (Nat.le_of_ble_eq_true rfl) rfl ?_
  obtain ⟨q27, hq27, h⟩ := xbd_some h
  refine ev_sub (L' := [(0, .ref (E.2.2.2 + o)), (2, .int p1), (3, .ref (E.2.2.2 + p2)), (4, .int 0), (5, .int x1)]) [2, 4, 5, 1, 0] rfl ?_
  refine xloop_run (fun v => Ev E (xcm E d 0 0 QQ) Y_X0_reckon 10 [(0, .ref (E.2.2.2 + o)), (2, .int p1), (3, .ref (E.2.2.2 + p2)), (4, .int v.1), (5, .int v.2.1)] [] (xσ v.2.2 R) n 0 0) (fun v => Ev E (xcm E d 0 0 QQ) Y_X0_reckon 185 [(0, .ref (E.2.2.2 + o)), (4, .int v.1)] [] (xσ v.2 R) n 0 0) ?_ _ _ _ hq27 ?_
  · rintro ⟨x2, x3, μ4⟩ y5 h hk
    replace h : fX0_reckon_b10 x2 x3 μ4 o p1 p2 = some y5 := h
    show Ev E (xcm E d 0 0 QQ) Y_X0_reckon 10 [(0, .ref (E.2.2.2 + o)), (2, .int p1), (3, .ref (E.2.2.2 + p2)), (4, .int x2), (5, .int x3)] [] (xσ μ4 R) n 0 0
    unfold fX0_reckon_b10 at h
    refine ev_iload 4 dX0_reckon_10 rfl ?_
    refine ev_iload_n 1 dX0_reckon_12 rfl rfl ?_
    refine ev_icmp_ge (tgt := 185) dX0_reckon_13 (by decide) (fun c13 => ?_) (fun c13 => ?_)
    · replace h := xif_t c13 h
      cases h
      replace hk := xel_r hk
      exact ev_sub [0, 3] rfl (hk)
    · replace h := xif_f c13 h
      refine ev_iload 4 dX0_reckon_16 rfl ?_
      refine ev_aload_n 0 dX0_reckon_18 rfl rfl ?_
      refine xv_getF (a := (o + 5)) cl_0 lk_RX0_24 (xIs0_kd hI) (xIs0_lt hI) (fun _ => rfl) (xIs0_fr4 hF hI) dX0_reckon_19 ?_
      refine ev_alen (v := 200) 0 (by decide) (xIs0_kd4 hI) (xIs0_lt4 hI) rfl dX0_reckon_22 ?_
      refine ev_icmp_ge (tgt := 185) dX0_reckon_23 (by decide) (fun c23 => ?_) (fun c23 => ?_)
      · replace h := xif_t c23 h
        cases h
        replace hk := xel_r hk
        exact ev_sub [0, 3] rfl (hk)
      · replace h := xif_f c23 h
        refine ev_aload_n 0 dX0_reckon_26 rfl rfl ?_
        refine xv_getF (a := (o + 5)) cl_0 lk_RX0_24 (xIs0_kd hI) (xIs0_lt hI) (fun _ => rfl) (xIs0_fr4 hF hI) dX0_reckon_27 ?_
        refine ev_iload 4 dX0_reckon_30 rfl ?_
        obtain ⟨v6, hv6, h⟩ := xbd_some h
        refine xv_iald (xIs0_kd4 hI) (xIs0_lt4 hI) hv6 dX0_reckon_32 ?_
        refine xv_istore (L' := [(6, .int v6), (0, .ref (E.2.2.2 + o)), (2, .int p1), (3, .ref (E.2.2.2 + p2)), (4, .int x2), (5, .int x3)]) rfl dX0_reckon_33 (Nat.le_of_ble_eq_true rfl) rfl ?_
        refine ev_iload 0 dX0_reckon_35 rfl ?_
        have j53 : ∀ (x7 : Int32), fX0_reckon_j53 x7 o p2 x2 x3 μ4 v6 = some y5 → Ev E (xcm E d 0 0 QQ) Y_X0_reckon 53 [(0, .ref (E.2.2.2 + o)), (2, .int p1), (3, .ref (E.2.2.2 + p2)), (4, .int x2), (5, .int x3), (6, .int v6)] [.int x7] (xσ μ4 R) n 0 0 := by
          intro x7 h
          unfold fX0_reckon_j53 at h
          refine xv_istore (L' := [(7, .int x7), (0, .ref (E.2.2.2 + o)), (2, .int p1), (3, .ref (E.2.2.2 + p2)), (4, .int x2), (5, .int x3), (6, .int v6)]) rfl dX0_reckon_53 (Nat.le_of_ble_eq_true rfl) rfl ?_
          refine ev_iload 0 dX0_reckon_55 rfl ?_
          have j103 : fX0_reckon_j103 o x2 x3 μ4 v6 = some y5 → Ev E (xcm E d 0 0 QQ) Y_X0_reckon 103 [(0, .ref (E.2.2.2 + o)), (2, .int p1), (3, .ref (E.2.2.2 + p2)), (4, .int x2), (5, .int x3), (6, .int v6)] [] (xσ μ4 R) n 0 0 := by
            intro h
            unfold fX0_reckon_j103 at h
            refine ev_iload 5 dX0_reckon_103 rfl ?_
            refine ev_bipush (v := 33) dX0_reckon_105 (by decide) ?_
            have j140 : fX0_reckon_j140 o x2 x3 μ4 v6 = some y5 → Ev E (xcm E d 0 0 QQ) Y_X0_reckon 140 [(0, .ref (E.2.2.2 + o)), (2, .int p1), (3, .ref (E.2.2.2 + p2)), (4, .int x2), (5, .int x3), (6, .int v6)] [] (xσ μ4 R) n 0 0 := by
              intro h
              unfold fX0_reckon_j140 at h
              refine ev_iload 3 dX0_reckon_140 rfl ?_
              refine ev_iconst (v := 2) dX0_reckon_142 (by decide) ?_
              refine ev_icmp_lt (tgt := 179) dX0_reckon_143 (by decide) (fun c143 => ?_) (fun c143 => ?_)
              · replace h := xif_t c143 h
                obtain ⟨x8, hx8, h⟩ := xlt_some h
                refine ev_iinc (L' := [(5, .int x8), (0, .ref (E.2.2.2 + o)), (2, .int p1), (3, .ref (E.2.2.2 + p2)), (4, .int x2), (6, .int v6)]) 4 dX0_reckon_179 rfl ((by rfl : x3 + Int32.ofInt 1 = x3 + 1).trans hx8) (Nat.le_of_ble_eq_true rfl) rfl ?_
                refine ev_goto (tgt := 10) dX0_reckon_182 (by decide) ?_
                cases h
                replace hk := xel_l hk
                exact ev_sub [1, 2, 3, 4, 0] rfl (hk)
              · replace h := xif_f c143 h
                obtain ⟨x9, hx9, h⟩ := xlt_some h
                refine ev_iinc (L' := [(4, .int x9), (0, .ref (E.2.2.2 + o)), (2, .int p1), (3, .ref (E.2.2.2 + p2)), (5, .int x3), (6, .int v6)]) 3 dX0_reckon_146 rfl ((by rfl : x2 + Int32.ofInt (-1) = x2 + (-1)).trans hx9) (Nat.le_of_ble_eq_true rfl) rfl ?_
                refine ev_aload_n 1 dX0_reckon_149 rfl rfl ?_
                refine xv_getF (a := (o + 6)) cl_0 lk_RX0_27 (xIs0_kd hI) (xIs0_lt hI) (fun _ => rfl) (xIs0_fr5 hF hI) dX0_reckon_150 ?_
                refine ev_iload 0 dX0_reckon_153 rfl ?_
                refine ev_iconst (v := 1) dX0_reckon_155 (by decide) ?_
                refine ev_isub dX0_reckon_156 ?_
                refine ev_iload 5 dX0_reckon_157 rfl ?_
                refine ev_aload_n 1 dX0_reckon_159 rfl rfl ?_
                refine xv_getF (a := (o + 6)) cl_0 lk_RX0_27 (xIs0_kd hI) (xIs0_lt hI) (fun _ => rfl) (xIs0_fr5 hF hI) dX0_reckon_160 ?_
                refine ev_iload 0 dX0_reckon_163 rfl ?_
                refine ev_iconst (v := 1) dX0_reckon_165 (by decide) ?_
                refine ev_isub dX0_reckon_166 ?_
                obtain ⟨v10, hv10, h⟩ := xbd_some h
                refine xv_lald (xIs0_kd5 hI) (xIs0_lt5 hI) hv10 dX0_reckon_167 ?_
                refine ev_aload_n 1 dX0_reckon_168 rfl rfl ?_
                refine xv_getF (a := (o + 6)) cl_0 lk_RX0_27 (xIs0_kd hI) (xIs0_lt hI) (fun _ => rfl) (xIs0_fr5 hF hI) dX0_reckon_169 ?_
                refine ev_iload 0 dX0_reckon_172 rfl ?_
                obtain ⟨v11, hv11, h⟩ := xbd_some h
                refine xv_lald (xIs0_kd5 hI) (xIs0_lt5 hI) hv11 dX0_reckon_174 ?_
                obtain ⟨q12, hq12, h⟩ := xbd_some h
                refine ev_callS (As := [.int v6, .long v10, .long v11]) (rest := [.int (x9 - 1), .ref (E.2.2.2 + (o + 6))]) 3 (kX0_join (E := E) (d := 0) (QQ := (fun v τ n' => v = some (.long q12) ∧ τ = xσ μ4 R ∧ n = n')) (Nat.le_refl _)  hq12 (⟨rfl, rfl, rfl⟩)) my_X0_join ⟨m_727, m_728⟩ rfl rfl (Nat.le_of_ble_eq_true rfl) (Nat.le_trans (by decide) hd) (xlo (by decide) (Nat.le_trans (by decide) hd)) (Nat.zero_le _) (Nat.zero_le _) dX0_reckon_175 (fun v τ n' hv => ?_)
                obtain ⟨rfl, rfl, rfl⟩ := hv
                show Ev E (xcm E d 0 0 QQ) Y_X0_reckon 178 [(4, .int x9), (0, .ref (E.2.2.2 + o)), (2, .int p1), (3, .ref (E.2.2.2 + p2)), (5, .int x3), (6, .int v6)] [.long q12, .int (x9 - 1), .ref (E.2.2.2 + (o + 6))] (xσ μ4 R) n 0 0
                obtain ⟨μ13, hμ13, h⟩ := xbd_some h
                refine xv_last (xIs0_kd5 hI) (xIs0_lt5 hI) hμ13 dX0_reckon_178 ?_
                obtain ⟨x14, hx14, h⟩ := xlt_some h
                refine ev_iinc (L' := [(5, .int x14), (4, .int x9), (0, .ref (E.2.2.2 + o)), (2, .int p1), (3, .ref (E.2.2.2 + p2)), (6, .int v6)]) 4 dX0_reckon_179 rfl ((by rfl : x3 + Int32.ofInt 1 = x3 + 1).trans hx14) (Nat.le_of_ble_eq_true rfl) rfl ?_
                refine ev_goto (tgt := 10) dX0_reckon_182 (by decide) ?_
                cases h
                replace hk := xel_l hk
                exact ev_sub [2, 3, 4, 1, 0] rfl (hk)
            refine ev_icmp_ne (tgt := 140) dX0_reckon_107 (by decide) (fun c107 => ?_) (fun c107 => ?_)
            · replace h := xif_f c107 h
              exact ev_sub [0, 1, 2, 3, 4, 5] rfl (j140 h)
            · replace h := xif_t c107 h
              refine ev_iload 3 dX0_reckon_110 rfl ?_
              refine ev_iconst (v := 1) dX0_reckon_112 (by decide) ?_
              refine ev_icmp_lt (tgt := 140) dX0_reckon_113 (by decide) (fun c113 => ?_) (fun c113 => ?_)
              · replace h := xif_t c113 h
                exact ev_sub [0, 1, 2, 3, 4, 5] rfl (j140 h)
              · replace h := xif_f c113 h
                refine ev_aload_n 0 dX0_reckon_116 rfl rfl ?_
                refine xv_getF (a := (o + 6)) cl_0 lk_RX0_27 (xIs0_kd hI) (xIs0_lt hI) (fun _ => rfl) (xIs0_fr5 hF hI) dX0_reckon_117 ?_
                refine ev_iload 3 dX0_reckon_120 rfl ?_
                refine ev_iconst (v := 1) dX0_reckon_122 (by decide) ?_
                refine ev_isub dX0_reckon_123 ?_
                refine ev_aload_n 0 dX0_reckon_124 rfl rfl ?_
                refine xv_getF (a := (o + 6)) cl_0 lk_RX0_27 (xIs0_kd hI) (xIs0_lt hI) (fun _ => rfl) (xIs0_fr5 hF hI) dX0_reckon_125 ?_
                refine ev_iload 3 dX0_reckon_128 rfl ?_
                refine ev_iconst (v := 1) dX0_reckon_130 (by decide) ?_
                refine ev_isub dX0_reckon_131 ?_
                obtain ⟨v15, hv15, h⟩ := xbd_some h
                refine xv_lald (xIs0_kd5 hI) (xIs0_lt5 hI) hv15 dX0_reckon_132 ?_
                obtain ⟨q16, hq16, h⟩ := xbd_some h
                refine ev_callS (As := [.long v15]) (rest := [.int (x2 - 1), .ref (E.2.2.2 + (o + 6))]) 1 (kX0_not (E := E) (d := 0) (QQ := (fun v τ n' => v = some (.long q16) ∧ τ = xσ μ4 R ∧ n = n')) (Nat.le_refl _)  hq16 (⟨rfl, rfl, rfl⟩)) my_X0_not ⟨m_723, m_724⟩ rfl rfl (Nat.le_of_ble_eq_true rfl) (Nat.le_trans (by decide) hd) (xlo (by decide) (Nat.le_trans (by decide) hd)) (Nat.zero_le _) (Nat.zero_le _) dX0_reckon_133 (fun v τ n' hv => ?_)
                obtain ⟨rfl, rfl, rfl⟩ := hv
                show Ev E (xcm E d 0 0 QQ) Y_X0_reckon 136 [(0, .ref (E.2.2.2 + o)), (2, .int p1), (3, .ref (E.2.2.2 + p2)), (4, .int x2), (5, .int x3), (6, .int v6)] [.long q16, .int (x2 - 1), .ref (E.2.2.2 + (o + 6))] (xσ μ4 R) n 0 0
                obtain ⟨μ17, hμ17, h⟩ := xbd_some h
                refine xv_last (xIs0_kd5 hI) (xIs0_lt5 hI) hμ17 dX0_reckon_136 ?_
                refine ev_goto (tgt := 179) dX0_reckon_137 (by decide) ?_
                obtain ⟨x18, hx18, h⟩ := xlt_some h
                refine ev_iinc (L' := [(5, .int x18), (0, .ref (E.2.2.2 + o)), (2, .int p1), (3, .ref (E.2.2.2 + p2)), (4, .int x2), (6, .int v6)]) 4 dX0_reckon_179 rfl ((by rfl : x3 + Int32.ofInt 1 = x3 + 1).trans hx18) (Nat.le_of_ble_eq_true rfl) rfl ?_
                refine ev_goto (tgt := 10) dX0_reckon_182 (by decide) ?_
                cases h
                replace hk := xel_l hk
                exact ev_sub [1, 2, 3, 4, 0] rfl (hk)
          refine ev_if_eq (tgt := 103) dX0_reckon_57 (by decide) (fun c57 => ?_) (fun c57 => ?_)
          · replace h := xif_t c57 h
            exact ev_sub [1, 2, 3, 4, 5, 6] rfl (j103 h)
          · replace h := xif_f c57 h
            refine ev_iload 4 dX0_reckon_60 rfl ?_
            refine ev_aload_n 1 dX0_reckon_62 rfl rfl ?_
            refine xv_getF (a := (o + 6)) cl_0 lk_RX0_27 (xIs0_kd hI) (xIs0_lt hI) (fun _ => rfl) (xIs0_fr5 hF hI) dX0_reckon_63 ?_
            refine ev_alen (v := 32) 1 (by decide) (xIs0_kd5 hI) (xIs0_lt5 hI) rfl dX0_reckon_66 ?_
            refine ev_icmp_ge (tgt := 103) dX0_reckon_67 (by decide) (fun c67 => ?_) (fun c67 => ?_)
            · replace h := xif_t c67 h
              exact ev_sub [1, 2, 3, 4, 5, 6] rfl (j103 h)
            · replace h := xif_f c67 h
              refine ev_aload_n 1 dX0_reckon_70 rfl rfl ?_
              refine xv_getF (a := (o + 6)) cl_0 lk_RX0_27 (xIs0_kd hI) (xIs0_lt hI) (fun _ => rfl) (xIs0_fr5 hF hI) dX0_reckon_71 ?_
              refine ev_iload 4 dX0_reckon_74 rfl ?_
              refine ev_iload 6 dX0_reckon_76 rfl ?_
              refine ev_if_ge (tgt := 89) dX0_reckon_78 (by decide) (fun c78 => ?_) (fun c78 => ?_)
              · replace h := xif_t c78 h
                refine ev_iload 6 dX0_reckon_89 rfl ?_
                refine ev_aload_n 3 dX0_reckon_91 rfl rfl ?_
                obtain ⟨q19, hq19, h⟩ := xbd_some h
                refine ev_callS (As := [.int v6, .ref (E.2.2.2 + p2)]) (rest := [.int x2, .ref (E.2.2.2 + (o + 6))]) 2 (kX0_valueOf (E := E) (d := 0) (QQ := (fun v τ n' => v = some (.int q19) ∧ τ = xσ μ4 R ∧ n = n')) (Nat.le_refl _) hF hp2 hq19 (⟨rfl, rfl, rfl⟩)) my_X0_valueOf ⟨m_720, m_721⟩ rfl rfl (Nat.le_of_ble_eq_true rfl) (Nat.le_trans (by decide) hd) (xlo (by decide) (Nat.le_trans (by decide) hd)) (Nat.zero_le _) (Nat.zero_le _) dX0_reckon_92 (fun v τ n' hv => ?_)
                obtain ⟨rfl, rfl, rfl⟩ := hv
                show Ev E (xcm E d 0 0 QQ) Y_X0_reckon 95 [(7, .int x7), (0, .ref (E.2.2.2 + o)), (2, .int p1), (3, .ref (E.2.2.2 + p2)), (4, .int x2), (5, .int x3), (6, .int v6)] [.int q19, .int x2, .ref (E.2.2.2 + (o + 6))] (xσ μ4 R) n 0 0
                refine ev_i2l dX0_reckon_95 ?_
                obtain ⟨μ20, hμ20, h⟩ := xbd_some h
                refine xv_last (xIs0_kd5 hI) (xIs0_lt5 hI) hμ20 dX0_reckon_96 ?_
                obtain ⟨x21, hx21, h⟩ := xlt_some h
                refine ev_iinc (L' := [(4, .int x21), (7, .int x7), (0, .ref (E.2.2.2 + o)), (2, .int p1), (3, .ref (E.2.2.2 + p2)), (5, .int x3), (6, .int v6)]) 4 dX0_reckon_97 rfl ((by rfl : x2 + Int32.ofInt 1 = x2 + 1).trans hx21) (Nat.le_of_ble_eq_true rfl) rfl ?_
                refine ev_goto (tgt := 179) dX0_reckon_100 (by decide) ?_
                obtain ⟨x22, hx22, h⟩ := xlt_some h
                refine ev_iinc (L' := [(5, .int x22), (4, .int x21), (7, .int x7), (0, .ref (E.2.2.2 + o)), (2, .int p1), (3, .ref (E.2.2.2 + p2)), (6, .int v6)]) 5 dX0_reckon_179 rfl ((by rfl : x3 + Int32.ofInt 1 = x3 + 1).trans hx22) (Nat.le_of_ble_eq_true rfl) rfl ?_
                refine ev_goto (tgt := 10) dX0_reckon_182 (by decide) ?_
                cases h
                replace hk := xel_l hk
                exact ev_sub [3, 4, 5, 1, 0] rfl (hk)
              · replace h := xif_f c78 h
                refine ev_iconst (v := (-1)) dX0_reckon_81 (by decide) ?_
                refine ev_iload 6 dX0_reckon_82 rfl ?_
                refine ev_isub dX0_reckon_84 ?_
                refine ev_i2l dX0_reckon_85 ?_
                refine ev_goto (tgt := 96) dX0_reckon_86 (by decide) ?_
                obtain ⟨μ23, hμ23, h⟩ := xbd_some h
                refine xv_last (xIs0_kd5 hI) (xIs0_lt5 hI) hμ23 dX0_reckon_96 ?_
                obtain ⟨x24, hx24, h⟩ := xlt_some h
                refine ev_iinc (L' := [(4, .int x24), (7, .int x7), (0, .ref (E.2.2.2 + o)), (2, .int p1), (3, .ref (E.2.2.2 + p2)), (5, .int x3), (6, .int v6)]) 4 dX0_reckon_97 rfl ((by rfl : x2 + Int32.ofInt 1 = x2 + 1).trans hx24) (Nat.le_of_ble_eq_true rfl) rfl ?_
                refine ev_goto (tgt := 179) dX0_reckon_100 (by decide) ?_
                obtain ⟨x25, hx25, h⟩ := xlt_some h
                refine ev_iinc (L' := [(5, .int x25), (4, .int x24), (7, .int x7), (0, .ref (E.2.2.2 + o)), (2, .int p1), (3, .ref (E.2.2.2 + p2)), (6, .int v6)]) 5 dX0_reckon_179 rfl ((by rfl : x3 + Int32.ofInt 1 = x3 + 1).trans hx25) (Nat.le_of_ble_eq_true rfl) rfl ?_
                refine ev_goto (tgt := 10) dX0_reckon_182 (by decide) ?_
                cases h
                replace hk := xel_l hk
                exact ev_sub [3, 4, 5, 1, 0] rfl (hk)
        have j48 : fX0_reckon_j48 o p2 x2 x3 μ4 v6 = some y5 → Ev E (xcm E d 0 0 QQ) Y_X0_reckon 48 [(0, .ref (E.2.2.2 + o)), (2, .int p1), (3, .ref (E.2.2.2 + p2)), (4, .int x2), (5, .int x3), (6, .int v6)] [] (xσ μ4 R) n 0 0 := by
          intro h
          unfold fX0_reckon_j48 at h
          refine ev_iconst (v := 1) dX0_reckon_48 (by decide) ?_
          refine ev_goto (tgt := 53) dX0_reckon_49 (by decide) ?_
          exact ev_sub [0, 1, 2, 3, 4, 5] rfl (j53 _ h)
        refine ev_if_lt (tgt := 48) dX0_reckon_37 (by decide) (fun c37 => ?_) (fun c37 => ?_)
        · replace h := xif_t c37 h
          exact ev_sub [1, 2, 3, 4, 5, 0] rfl (j48 h)
        · replace h := xif_f c37 h
          refine ev_iload 0 dX0_reckon_40 rfl ?_
          obtain ⟨q26, hq26, h⟩ := xbd_some h
          refine ev_callS (As := [.int v6]) (rest := []) 1 (kX0_isFact (E := E) (d := 0) (QQ := (fun v τ n' => v = some (.int q26) ∧ τ = xσ μ4 R ∧ n = n')) (Nat.le_refl _)  hq26 (⟨rfl, rfl, rfl⟩)) my_X0_isFact ⟨m_719, m_588⟩ rfl rfl (Nat.le_of_ble_eq_true rfl) (Nat.le_trans (by decide) hd) (xlo (by decide) (Nat.le_trans (by decide) hd)) (Nat.zero_le _) (Nat.zero_le _) dX0_reckon_42 (fun v τ n' hv => ?_)
          obtain ⟨rfl, rfl, rfl⟩ := hv
          show Ev E (xcm E d 0 0 QQ) Y_X0_reckon 45 [(6, .int v6), (0, .ref (E.2.2.2 + o)), (2, .int p1), (3, .ref (E.2.2.2 + p2)), (4, .int x2), (5, .int x3)] [.int q26] (xσ μ4 R) n 0 0
          refine ev_if_eq (tgt := 52) dX0_reckon_45 (by decide) (fun c45 => ?_) (fun c45 => ?_)
          · replace h := xif_t c45 h
            refine ev_iconst (v := 0) dX0_reckon_52 (by decide) ?_
            exact ev_sub [1, 2, 3, 4, 5, 0] rfl (j53 _ h)
          · replace h := xif_f c45 h
            exact ev_sub [1, 2, 3, 4, 5, 0] rfl (j48 h)
  · show Ev E (xcm E d 0 0 QQ) Y_X0_reckon 185 [(0, .ref (E.2.2.2 + o)), (4, .int q27.1)] [] (xσ q27.2 R) n 0 0
    refine ev_iload 1 dX0_reckon_185 rfl ?_
    refine ev_iconst (v := 1) dX0_reckon_187 (by decide) ?_
    refine ev_icmp_ne (tgt := 200) dX0_reckon_188 (by decide) (fun c188 => ?_) (fun c188 => ?_)
    · replace h := xif_f c188 h
      refine ev_ldc2 (v := 1099511627776) m_726 dX0_reckon_200 ?_
      cases h
      exact ev_lret rfl (hQ) dX0_reckon_203 (Nat.zero_le _) (Nat.zero_le _)
    · replace h := xif_t c188 h
      refine ev_aload_n 0 dX0_reckon_191 rfl rfl ?_
      refine xv_getF (a := (o + 6)) cl_0 lk_RX0_27 (xIs0_kd hI) (xIs0_lt hI) (fun _ => rfl) (xIs0_fr5 hF hI) dX0_reckon_192 ?_
      refine ev_iconst (v := 0) dX0_reckon_195 (by decide) ?_
      obtain ⟨v28, hv28, h⟩ := xbd_some h
      refine xv_lald (xIs0_kd5 hI) (xIs0_lt5 hI) hv28 dX0_reckon_196 ?_
      refine ev_goto (tgt := 203) dX0_reckon_197 (by decide) ?_
      cases h
      exact ev_lret rfl (hQ) dX0_reckon_203 (Nat.zero_le _) (Nat.zero_le _)
def fX10_endsOf (p0 : Int32) (μ : xm) : Option (Int32) := xbd (fX11_isPerson p0) fun q1 => if q1 = 0 then (some 0) else (xbd (xgI μ iC_ways_told 8 p0) fun v2 => some (xmax 1 v2))
set_option maxHeartbeats 4000000 in
set_option maxRecDepth 100000 in
theorem kX10_endsOf {E : xE} {d : Nat} {QQ : xP} (hd : 1 ≤ d) {p0 : Int32} {μ : xm} {R : xr} {n : Nat} (hF : xFin R n)  {res : Int32} (h : fX10_endsOf p0 μ = some res) (hQ : QQ (some (.int res)) (xσ μ R) n) : xCon E d Y_X10_endsOf 0 0 [.ref (E.2.2.2 + iC_ways), .int p0] (xσ μ R) n QQ := by
  refine xCon_of pn_RX10 (Nat.le_of_ble_eq_true rfl) (L0 := [(0, .ref (E.2.2.2 + iC_ways)), (1, .int p0)]) rfl ?_
  unfold fX10_endsOf at h
  refine ev_iload_n 1 dX10_endsOf_0 rfl rfl ?_
  obtain ⟨q1, hq1, h⟩ := xbd_some h
  refine ev_callSN (As := [.int p0]) (rest := []) 1 (kX11_isPerson (E := E) (d := 0) (QQ := (fun v τ n' => v = some (.int q1) ∧ τ = xσ μ R ∧ n = n')) (Nat.le_refl _)  hq1 (⟨rfl, rfl, rfl⟩)) my_X11_isPerson ⟨⟨_, xnm_10⟩, m_436⟩ rfl rfl (Nat.le_of_ble_eq_true rfl) (Nat.le_trans (by decide) hd) (xlo (by decide) (Nat.le_trans (by decide) hd)) (Nat.zero_le _) (Nat.zero_le _) dX10_endsOf_1 (fun v τ n' hv => ?_)
  obtain ⟨rfl, rfl, rfl⟩ := hv
  show Ev E (xcm E d 0 0 QQ) Y_X10_endsOf 4 [(0, .ref (E.2.2.2 + iC_ways)), (1, .int p0)] [.int q1] (xσ μ R) n 0 0
  refine ev_if_eq (tgt := 20) dX10_endsOf_4 (by decide) (fun c4 => ?_) (fun c4 => ?_)
  · replace h := xif_t c4 h
    refine ev_iconst (v := 0) dX10_endsOf_20 (by decide) ?_
    cases h
    exact ev_iret rfl (hQ) dX10_endsOf_21 (Nat.zero_le _) (Nat.zero_le _)
  · replace h := xif_f c4 h
    refine ev_iconst (v := 1) dX10_endsOf_7 (by decide) ?_
    refine ev_aload_n 0 dX10_endsOf_8 rfl rfl ?_
    refine xv_getF (a := iC_ways_told) cl_10 lk_RX10_9 kd_42 (xl hF rfl) (fun _ => rfl) (fr_42_1 hF) dX10_endsOf_9 ?_
    refine ev_iload_n 1 dX10_endsOf_12 rfl rfl ?_
    obtain ⟨v2, hv2, h⟩ := xbd_some h
    refine xv_iald kd_43 (xl hF rfl) hv2 dX10_endsOf_13 ?_
    refine ev_mmax ⟨m_1003, m_534, m_124, m_535⟩ (Nat.le_trans (by decide) hd) (xlo2 (Nat.le_trans (by decide) hd)) (Nat.le_of_ble_eq_true rfl) (Nat.zero_le _) (Nat.zero_le _) dX10_endsOf_14 ?_
    refine ev_goto (tgt := 21) dX10_endsOf_17 (by decide) ?_
    cases h
    exact ev_iret rfl (hQ) dX10_endsOf_21 (Nat.zero_le _) (Nat.zero_le _)
def fX10_isCrossing (p0 : Int32) (μ : xm) : Option (Int32) := xbd (fX11_isPerson p0) fun q1 => if q1 = 0 then (some 0) else (xbd (xgI μ iC_ways_crossing 8 p0) fun v2 => if v2 = 0 then (some 0) else (some 1))
set_option maxHeartbeats 4000000 in
set_option maxRecDepth 100000 in
theorem kX10_isCrossing {E : xE} {d : Nat} {QQ : xP} (hd : 1 ≤ d) {p0 : Int32} {μ : xm} {R : xr} {n : Nat} (hF : xFin R n)  {res : Int32} (h : fX10_isCrossing p0 μ = some res) (hQ : QQ (some (.int res)) (xσ μ R) n) : xCon E d Y_X10_isCrossing 0 0 [.ref (E.2.2.2 + iC_ways), .int p0] (xσ μ R) n QQ := by
  refine xCon_of pn_RX10 (Nat.le_of_ble_eq_true rfl) (L0 := [(0, .ref (E.2.2.2 + iC_ways)), (1, .int p0)]) rfl ?_
  unfold fX10_isCrossing at h
  refine ev_iload_n 1 dX10_isCrossing_0 rfl rfl ?_
  obtain ⟨q1, hq1, h⟩ := xbd_some h
  refine ev_callSN (As := [.int p0]) (rest := []) 1 (kX11_isPerson (E := E) (d := 0) (QQ := (fun v τ n' => v = some (.int q1) ∧ τ = xσ μ R ∧ n = n')) (Nat.le_refl _)  hq1 (⟨rfl, rfl, rfl⟩)) my_X11_isPerson ⟨⟨_, xnm_10⟩, m_436⟩ rfl rfl (Nat.le_of_ble_eq_true rfl) (Nat.le_trans (by decide) hd) (xlo (by decide) (Nat.le_trans (by decide) hd)) (Nat.zero_le _) (Nat.zero_le _) dX10_isCrossing_1 (fun v τ n' hv => ?_)
  obtain ⟨rfl, rfl, rfl⟩ := hv
  show Ev E (xcm E d 0 0 QQ) Y_X10_isCrossing 4 [(0, .ref (E.2.2.2 + iC_ways)), (1, .int p0)] [.int q1] (xσ μ R) n 0 0
  refine ev_if_eq (tgt := 20) dX10_isCrossing_4 (by decide) (fun c4 => ?_) (fun c4 => ?_)
  · replace h := xif_t c4 h
    refine ev_iconst (v := 0) dX10_isCrossing_20 (by decide) ?_
    cases h
    exact ev_zret rfl (Or.inl rfl) (hQ) dX10_isCrossing_21 (Nat.zero_le _) (Nat.zero_le _)
  · replace h := xif_f c4 h
    refine ev_aload_n 0 dX10_isCrossing_7 rfl rfl ?_
    refine xv_getF (a := iC_ways_crossing) cl_10 lk_RX10_24 kd_42 (xl hF rfl) (fun _ => rfl) (fr_42_5 hF) dX10_isCrossing_8 ?_
    refine ev_iload_n 1 dX10_isCrossing_11 rfl rfl ?_
    obtain ⟨v2, hv2, h⟩ := xbd_some h
    refine xv_zald kd_47 (xl hF rfl) hv2 dX10_isCrossing_12 ?_
    refine ev_if_eq (tgt := 20) dX10_isCrossing_13 (by decide) (fun c13 => ?_) (fun c13 => ?_)
    · replace h := xif_t c13 h
      refine ev_iconst (v := 0) dX10_isCrossing_20 (by decide) ?_
      cases h
      exact ev_zret rfl (Or.inl rfl) (hQ) dX10_isCrossing_21 (Nat.zero_le _) (Nat.zero_le _)
    · replace h := xif_f c13 h
      refine ev_iconst (v := 1) dX10_isCrossing_16 (by decide) ?_
      refine ev_goto (tgt := 21) dX10_isCrossing_17 (by decide) ?_
      cases h
      exact ev_zret rfl (Or.inr rfl) (hQ) dX10_isCrossing_21 (Nat.zero_le _) (Nat.zero_le _)
def fX10_setCrossing (p0 : Int32) (p1 : Int32) (μ : xm) : Option (xm) := xbd (fX11_isPerson p0) fun q1 => if q1 = 0 then (some μ) else (xbd (xsZ μ iC_ways_crossing 8 p0 p1) fun μ2 => some μ2)
set_option maxHeartbeats 4000000 in
set_option maxRecDepth 100000 in
theorem kX10_setCrossing {E : xE} {d : Nat} {QQ : xP} (hd : 1 ≤ d) {p0 : Int32} {p1 : Int32} {μ : xm} {R : xr} {n : Nat} (hF : xFin R n)  {res : xm} (h : fX10_setCrossing p0 p1 μ = some res) (hQ : QQ none (xσ res R) n) : xCon E d Y_X10_setCrossing 0 0 [.ref (E.2.2.2 + iC_ways), .int p0, .int p1] (xσ μ R) n QQ := by
  refine xCon_of pn_RX10 (Nat.le_of_ble_eq_true rfl) (L0 := [(0, .ref (E.2.2.2 + iC_ways)), (1, .int p0), (2, .int p1)]) rfl ?_
  unfold fX10_setCrossing at h
  refine ev_iload_n 1 dX10_setCrossing_0 rfl rfl ?_
  obtain ⟨q1, hq1, h⟩ := xbd_some h
  refine ev_callSN (As := [.int p0]) (rest := []) 1 (kX11_isPerson (E := E) (d := 0) (QQ := (fun v τ n' => v = some (.int q1) ∧ τ = xσ μ R ∧ n = n')) (Nat.le_refl _)  hq1 (⟨rfl, rfl, rfl⟩)) my_X11_isPerson ⟨⟨_, xnm_10⟩, m_436⟩ rfl rfl (Nat.le_of_ble_eq_true rfl) (Nat.le_trans (by decide) hd) (xlo (by decide) (Nat.le_trans (by decide) hd)) (Nat.zero_le _) (Nat.zero_le _) dX10_setCrossing_1 (fun v τ n' hv => ?_)
  obtain ⟨rfl, rfl, rfl⟩ := hv
  show Ev E (xcm E d 0 0 QQ) Y_X10_setCrossing 4 [(0, .ref (E.2.2.2 + iC_ways)), (1, .int p0), (2, .int p1)] [.int q1] (xσ μ R) n 0 0
  refine ev_if_eq (tgt := 14) dX10_setCrossing_4 (by decide) (fun c4 => ?_) (fun c4 => ?_)
  · replace h := xif_t c4 h
    cases h
    exact ev_vret rfl (hQ) dX10_setCrossing_14 (Nat.zero_le _) (Nat.zero_le _)
  · replace h := xif_f c4 h
    refine ev_aload_n 0 dX10_setCrossing_7 rfl rfl ?_
    refine xv_getF (a := iC_ways_crossing) cl_10 lk_RX10_24 kd_42 (xl hF rfl) (fun _ => rfl) (fr_42_5 hF) dX10_setCrossing_8 ?_
    refine ev_iload_n 1 dX10_setCrossing_11 rfl rfl ?_
    refine ev_iload_n 2 dX10_setCrossing_12 rfl rfl ?_
    obtain ⟨μ2, hμ2, h⟩ := xbd_some h
    refine xv_zast kd_47 (xl hF rfl) hμ2 dX10_setCrossing_13 ?_
    cases h
    exact ev_vret rfl (hQ) dX10_setCrossing_14 (Nat.zero_le _) (Nat.zero_le _)
def fX10_takes (p0 : Int32) (p1 : Int32) (p2 : Int32) (μ : xm) : Option (Int32) := xbd (fX11_isPerson p0) fun q1 => if q1 = 0 then (some 0) else (xbd (fX11_within p1 0 4) fun q2 => if q2 = 0 then (some 0) else (xbd (xgI μ iC_ways_minutes 40 ((p0 * 5) + p1)) fun v3 => if p2 = 1 then (xbd (xgI μ iC_ways_crossing 8 p0) fun v4 => if v4 = 0 then (some (v3 + 0)) else (some (v3 + (μ.1 iC_ways 9)))) else (some (v3 + 0))))
set_option maxHeartbeats 4000000 in
set_option maxRecDepth 100000 in
theorem kX10_takes {E : xE} {d : Nat} {QQ : xP} (hd : 1 ≤ d) {p0 : Int32} {p1 : Int32} {p2 : Int32} {μ : xm} {R : xr} {n : Nat} (hF : xFin R n)  {res : Int32} (h : fX10_takes p0 p1 p2 μ = some res) (hQ : QQ (some (.int res)) (xσ μ R) n) : xCon E d Y_X10_takes 0 0 [.ref (E.2.2.2 + iC_ways), .int p0, .int p1, .int p2] (xσ μ R) n QQ := by
  refine xCon_of pn_RX10 (Nat.le_of_ble_eq_true rfl) (L0 := [(0, .ref (E.2.2.2 + iC_ways)), (1, .int p0), (2, .int p1), (3, .int p2)]) rfl ?_
  unfold fX10_takes at h
  refine ev_iload_n 1 dX10_takes_0 rfl rfl ?_
  obtain ⟨q1, hq1, h⟩ := xbd_some h
  refine ev_callSN (As := [.int p0]) (rest := []) 1 (kX11_isPerson (E := E) (d := 0) (QQ := (fun v τ n' => v = some (.int q1) ∧ τ = xσ μ R ∧ n = n')) (Nat.le_refl _)  hq1 (⟨rfl, rfl, rfl⟩)) my_X11_isPerson ⟨⟨_, xnm_10⟩, m_436⟩ rfl rfl (Nat.le_of_ble_eq_true rfl) (Nat.le_trans (by decide) hd) (xlo (by decide) (Nat.le_trans (by decide) hd)) (Nat.zero_le _) (Nat.zero_le _) dX10_takes_1 (fun v τ n' hv => ?_)
  obtain ⟨rfl, rfl, rfl⟩ := hv
  show Ev E (xcm E d 0 0 QQ) Y_X10_takes 4 [(0, .ref (E.2.2.2 + iC_ways)), (1, .int p0), (2, .int p1), (3, .int p2)] [.int q1] (xσ μ R) n 0 0
  refine ev_if_eq (tgt := 16) dX10_takes_4 (by decide) (fun c4 => ?_) (fun c4 => ?_)
  · replace h := xif_t c4 h
    refine ev_iconst (v := 0) dX10_takes_16 (by decide) ?_
    cases h
    exact ev_iret rfl (hQ) dX10_takes_17 (Nat.zero_le _) (Nat.zero_le _)
  · replace h := xif_f c4 h
    refine ev_iload_n 2 dX10_takes_7 rfl rfl ?_
    refine ev_iconst (v := 0) dX10_takes_8 (by decide) ?_
    refine ev_iconst (v := 4) dX10_takes_9 (by decide) ?_
    obtain ⟨q2, hq2, h⟩ := xbd_some h
    refine ev_callSN (As := [.int p1, .int 0, .int 4]) (rest := []) 3 (kX11_within (E := E) (d := 0) (QQ := (fun v τ n' => v = some (.int q2) ∧ τ = xσ μ R ∧ n = n')) (Nat.le_refl _)  hq2 (⟨rfl, rfl, rfl⟩)) my_X11_within ⟨⟨_, xnm_11⟩, m_425⟩ rfl rfl (Nat.le_of_ble_eq_true rfl) (Nat.le_trans (by decide) hd) (xlo (by decide) (Nat.le_trans (by decide) hd)) (Nat.zero_le _) (Nat.zero_le _) dX10_takes_10 (fun v τ n' hv => ?_)
    obtain ⟨rfl, rfl, rfl⟩ := hv
    show Ev E (xcm E d 0 0 QQ) Y_X10_takes 13 [(0, .ref (E.2.2.2 + iC_ways)), (1, .int p0), (2, .int p1), (3, .int p2)] [.int q2] (xσ μ R) n 0 0
    refine ev_if_ne (tgt := 18) dX10_takes_13 (by decide) (fun c13 => ?_) (fun c13 => ?_)
    · replace h := xif_f c13 h
      refine ev_aload_n 0 dX10_takes_18 rfl rfl ?_
      refine xv_getF (a := iC_ways_minutes) cl_10 lk_RX10_15 kd_42 (xl hF rfl) (fun _ => rfl) (fr_42_2 hF) dX10_takes_19 ?_
      refine ev_iload_n 1 dX10_takes_22 rfl rfl ?_
      refine ev_iconst (v := 5) dX10_takes_23 (by decide) ?_
      refine ev_imul dX10_takes_24 ?_
      refine ev_iload_n 2 dX10_takes_25 rfl rfl ?_
      refine ev_iadd dX10_takes_26 ?_
      obtain ⟨v3, hv3, h⟩ := xbd_some h
      refine xv_iald kd_44 (xl hF rfl) hv3 dX10_takes_27 ?_
      refine ev_iload_n 3 dX10_takes_28 rfl rfl ?_
      refine ev_iconst (v := 1) dX10_takes_29 (by decide) ?_
      refine ev_icmp_ne (tgt := 49) dX10_takes_30 (by decide) (fun c30 => ?_) (fun c30 => ?_)
      · replace h := xif_f c30 h
        refine ev_iconst (v := 0) dX10_takes_49 (by decide) ?_
        refine ev_iadd dX10_takes_50 ?_
        cases h
        exact ev_iret rfl (hQ) dX10_takes_51 (Nat.zero_le _) (Nat.zero_le _)
      · replace h := xif_t c30 h
        refine ev_aload_n 0 dX10_takes_33 rfl rfl ?_
        refine xv_getF (a := iC_ways_crossing) cl_10 lk_RX10_24 kd_42 (xl hF rfl) (fun _ => rfl) (fr_42_5 hF) dX10_takes_34 ?_
        refine ev_iload_n 1 dX10_takes_37 rfl rfl ?_
        obtain ⟨v4, hv4, h⟩ := xbd_some h
        refine xv_zald kd_47 (xl hF rfl) hv4 dX10_takes_38 ?_
        refine ev_if_eq (tgt := 49) dX10_takes_39 (by decide) (fun c39 => ?_) (fun c39 => ?_)
        · replace h := xif_t c39 h
          refine ev_iconst (v := 0) dX10_takes_49 (by decide) ?_
          refine ev_iadd dX10_takes_50 ?_
          cases h
          exact ev_iret rfl (hQ) dX10_takes_51 (Nat.zero_le _) (Nat.zero_le _)
        · replace h := xif_f c39 h
          refine ev_aload_n 0 dX10_takes_42 rfl rfl ?_
          refine xv_getI cl_10 lk_RX10_57 kd_42 (xl hF rfl) (fun _ => rfl) dX10_takes_43 ?_
          refine ev_goto (tgt := 50) dX10_takes_46 (by decide) ?_
          refine ev_iadd dX10_takes_50 ?_
          cases h
          exact ev_iret rfl (hQ) dX10_takes_51 (Nat.zero_le _) (Nat.zero_le _)
    · replace h := xif_t c13 h
      refine ev_iconst (v := 0) dX10_takes_16 (by decide) ?_
      cases h
      exact ev_iret rfl (hQ) dX10_takes_17 (Nat.zero_le _) (Nat.zero_le _)
def fX10_tell_j86 (x9 : Int32) (p0 : Int32) (μ7 : xm) : Option (Int32 × xm) := xbd (xsI μ7 iC_ways_allWeights 8 p0 x9) fun μ10 => xbd (xgI μ10 iC_ways_told 8 p0) fun v11 => xbd (xsI μ10 iC_ways_told 8 p0 (v11 + 1)) fun μ12 => xbd (xgI μ12 iC_ways_told 8 p0) fun v13 => some (v13, μ12)
def fX10_tell (p0 : Int32) (p1 : Int32) (p2 : Int32) (μ : xm) : Option (Int32 × xm) := xbd (fX11_isPerson p0) fun q1 => if q1 = 0 then (some ((-1), μ)) else (xbd (xgI μ iC_ways_told 8 p0) fun v2 => if v2 < 0 then (some ((-1), μ)) else (xbd (xgI μ iC_ways_told 8 p0) fun v3 => if v3 < 5 then (xbd (xgI μ iC_ways_told 8 p0) fun v4 => xbd (xsI μ iC_ways_minutes 40 ((p0 * 5) + v4) p1) fun μ5 => xbd (xgI μ5 iC_ways_told 8 p0) fun v6 => xbd (xsI μ5 iC_ways_weights 40 ((p0 * 5) + v6) p2) fun μ7 => xbd (xgI μ7 iC_ways_told 8 p0) fun v8 => if v8 = 0 then (fX10_tell_j86 p2 p0 μ7) else (xbd (xgI μ7 iC_ways_allWeights 8 p0) fun v14 => fX10_tell_j86 (v14 + p2) p0 μ7)) else (some ((-1), μ))))
set_option maxHeartbeats 4000000 in
set_option maxRecDepth 100000 in
theorem kX10_tell {E : xE} {d : Nat} {QQ : xP} (hd : 1 ≤ d) {p0 : Int32} {p1 : Int32} {p2 : Int32} {μ : xm} {R : xr} {n : Nat} (hF : xFin R n)  {res : Int32 × xm} (h : fX10_tell p0 p1 p2 μ = some res) (hQ : QQ (some (.int res.1)) (xσ res.2 R) n) : xCon E d Y_X10_tell 0 0 [.ref (E.2.2.2 + iC_ways), .int p0, .int p1, .int p2] (xσ μ R) n QQ := by
  refine xCon_of pn_RX10 (Nat.le_of_ble_eq_true rfl) (L0 := [(0, .ref (E.2.2.2 + iC_ways)), (1, .int p0), (2, .int p1), (3, .int p2)]) rfl ?_
  unfold fX10_tell at h
  refine ev_iload_n 1 dX10_tell_0 rfl rfl ?_
  obtain ⟨q1, hq1, h⟩ := xbd_some h
  refine ev_callSN (As := [.int p0]) (rest := []) 1 (kX11_isPerson (E := E) (d := 0) (QQ := (fun v τ n' => v = some (.int q1) ∧ τ = xσ μ R ∧ n = n')) (Nat.le_refl _)  hq1 (⟨rfl, rfl, rfl⟩)) my_X11_isPerson ⟨⟨_, xnm_10⟩, m_436⟩ rfl rfl (Nat.le_of_ble_eq_true rfl) (Nat.le_trans (by decide) hd) (xlo (by decide) (Nat.le_trans (by decide) hd)) (Nat.zero_le _) (Nat.zero_le _) dX10_tell_1 (fun v τ n' hv => ?_)
  obtain ⟨rfl, rfl, rfl⟩ := hv
  show Ev E (xcm E d 0 0 QQ) Y_X10_tell 4 [(0, .ref (E.2.2.2 + iC_ways)), (1, .int p0), (2, .int p1), (3, .int p2)] [.int q1] (xσ μ R) n 0 0
  refine ev_if_eq (tgt := 26) dX10_tell_4 (by decide) (fun c4 => ?_) (fun c4 => ?_)
  · replace h := xif_t c4 h
    refine ev_iconst (v := (-1)) dX10_tell_26 (by decide) ?_
    cases h
    exact ev_iret rfl (hQ) dX10_tell_27 (Nat.zero_le _) (Nat.zero_le _)
  · replace h := xif_f c4 h
    refine ev_aload_n 0 dX10_tell_7 rfl rfl ?_
    refine xv_getF (a := iC_ways_told) cl_10 lk_RX10_9 kd_42 (xl hF rfl) (fun _ => rfl) (fr_42_1 hF) dX10_tell_8 ?_
    refine ev_iload_n 1 dX10_tell_11 rfl rfl ?_
    obtain ⟨v2, hv2, h⟩ := xbd_some h
    refine xv_iald kd_43 (xl hF rfl) hv2 dX10_tell_12 ?_
    refine ev_if_lt (tgt := 26) dX10_tell_13 (by decide) (fun c13 => ?_) (fun c13 => ?_)
    · replace h := xif_t c13 h
      refine ev_iconst (v := (-1)) dX10_tell_26 (by decide) ?_
      cases h
      exact ev_iret rfl (hQ) dX10_tell_27 (Nat.zero_le _) (Nat.zero_le _)
    · replace h := xif_f c13 h
      refine ev_aload_n 0 dX10_tell_16 rfl rfl ?_
      refine xv_getF (a := iC_ways_told) cl_10 lk_RX10_9 kd_42 (xl hF rfl) (fun _ => rfl) (fr_42_1 hF) dX10_tell_17 ?_
      refine ev_iload_n 1 dX10_tell_20 rfl rfl ?_
      obtain ⟨v3, hv3, h⟩ := xbd_some h
      refine xv_iald kd_43 (xl hF rfl) hv3 dX10_tell_21 ?_
      refine ev_iconst (v := 5) dX10_tell_22 (by decide) ?_
      refine ev_icmp_lt (tgt := 28) dX10_tell_23 (by decide) (fun c23 => ?_) (fun c23 => ?_)
      · replace h := xif_t c23 h
        refine ev_aload_n 0 dX10_tell_28 rfl rfl ?_
        refine xv_getF (a := iC_ways_minutes) cl_10 lk_RX10_15 kd_42 (xl hF rfl) (fun _ => rfl) (fr_42_2 hF) dX10_tell_29 ?_
        refine ev_iload_n 1 dX10_tell_32 rfl rfl ?_
        refine ev_iconst (v := 5) dX10_tell_33 (by decide) ?_
        refine ev_imul dX10_tell_34 ?_
        refine ev_aload_n 0 dX10_tell_35 rfl rfl ?_
        refine xv_getF (a := iC_ways_told) cl_10 lk_RX10_9 kd_42 (xl hF rfl) (fun _ => rfl) (fr_42_1 hF) dX10_tell_36 ?_
        refine ev_iload_n 1 dX10_tell_39 rfl rfl ?_
        obtain ⟨v4, hv4, h⟩ := xbd_some h
        refine xv_iald kd_43 (xl hF rfl) hv4 dX10_tell_40 ?_
        refine ev_iadd dX10_tell_41 ?_
        refine ev_iload_n 2 dX10_tell_42 rfl rfl ?_
        obtain ⟨μ5, hμ5, h⟩ := xbd_some h
        refine xv_iast kd_44 (xl hF rfl) hμ5 dX10_tell_43 ?_
        refine ev_aload_n 0 dX10_tell_44 rfl rfl ?_
        refine xv_getF (a := iC_ways_weights) cl_10 lk_RX10_18 kd_42 (xl hF rfl) (fun _ => rfl) (fr_42_3 hF) dX10_tell_45 ?_
        refine ev_iload_n 1 dX10_tell_48 rfl rfl ?_
        refine ev_iconst (v := 5) dX10_tell_49 (by decide) ?_
        refine ev_imul dX10_tell_50 ?_
        refine ev_aload_n 0 dX10_tell_51 rfl rfl ?_
        refine xv_getF (a := iC_ways_told) cl_10 lk_RX10_9 kd_42 (xl hF rfl) (fun _ => rfl) (fr_42_1 hF) dX10_tell_52 ?_
        refine ev_iload_n 1 dX10_tell_55 rfl rfl ?_
        obtain ⟨v6, hv6, h⟩ := xbd_some h
        refine xv_iald kd_43 (xl hF rfl) hv6 dX10_tell_56 ?_
        refine ev_iadd dX10_tell_57 ?_
        refine ev_iload_n 3 dX10_tell_58 rfl rfl ?_
        obtain ⟨μ7, hμ7, h⟩ := xbd_some h
        refine xv_iast kd_45 (xl hF rfl) hμ7 dX10_tell_59 ?_
        refine ev_aload_n 0 dX10_tell_60 rfl rfl ?_
        refine xv_getF (a := iC_ways_allWeights) cl_10 lk_RX10_21 kd_42 (xl hF rfl) (fun _ => rfl) (fr_42_4 hF) dX10_tell_61 ?_
        refine ev_iload_n 1 dX10_tell_64 rfl rfl ?_
        refine ev_aload_n 0 dX10_tell_65 rfl rfl ?_
        refine xv_getF (a := iC_ways_told) cl_10 lk_RX10_9 kd_42 (xl hF rfl) (fun _ => rfl) (fr_42_1 hF) dX10_tell_66 ?_
        refine ev_iload_n 1 dX10_tell_69 rfl rfl ?_
        obtain ⟨v8, hv8, h⟩ := xbd_some h
        refine xv_iald kd_43 (xl hF rfl) hv8 dX10_tell_70 ?_
        have j86 : ∀ (x9 : Int32), fX10_tell_j86 x9 p0 μ7 = some res → Ev E (xcm E d 0 0 QQ) Y_X10_tell 86 [(0, .ref (E.2.2.2 + iC_ways)), (1, .int p0)] [.int x9, .int p0, .ref (E.2.2.2 + iC_ways_allWeights)] (xσ μ7 R) n 0 0 := by
          intro x9 h
          unfold fX10_tell_j86 at h
          obtain ⟨μ10, hμ10, h⟩ := xbd_some h
          refine xv_iast kd_46 (xl hF rfl) hμ10 dX10_tell_86 ?_
          refine ev_aload_n 0 dX10_tell_87 rfl rfl ?_
          refine xv_getF (a := iC_ways_told) cl_10 lk_RX10_9 kd_42 (xl hF rfl) (fun _ => rfl) (fr_42_1 hF) dX10_tell_88 ?_
          refine ev_iload_n 1 dX10_tell_91 rfl rfl ?_
          refine ev_dup2 dX10_tell_92 rfl rfl ?_
          obtain ⟨v11, hv11, h⟩ := xbd_some h
          refine xv_iald kd_43 (xl hF rfl) hv11 dX10_tell_93 ?_
          refine ev_iconst (v := 1) dX10_tell_94 (by decide) ?_
          refine ev_iadd dX10_tell_95 ?_
          obtain ⟨μ12, hμ12, h⟩ := xbd_some h
          refine xv_iast kd_43 (xl hF rfl) hμ12 dX10_tell_96 ?_
          refine ev_aload_n 0 dX10_tell_97 rfl rfl ?_
          refine xv_getF (a := iC_ways_told) cl_10 lk_RX10_9 kd_42 (xl hF rfl) (fun _ => rfl) (fr_42_1 hF) dX10_tell_98 ?_
          refine ev_iload_n 1 dX10_tell_101 rfl rfl ?_
          obtain ⟨v13, hv13, h⟩ := xbd_some h
          refine xv_iald kd_43 (xl hF rfl) hv13 dX10_tell_102 ?_
          cases h
          exact ev_iret rfl (hQ) dX10_tell_103 (Nat.zero_le _) (Nat.zero_le _)
        refine ev_if_ne (tgt := 78) dX10_tell_71 (by decide) (fun c71 => ?_) (fun c71 => ?_)
        · replace h := xif_f c71 h
          refine ev_aload_n 0 dX10_tell_78 rfl rfl ?_
          refine xv_getF (a := iC_ways_allWeights) cl_10 lk_RX10_21 kd_42 (xl hF rfl) (fun _ => rfl) (fr_42_4 hF) dX10_tell_79 ?_
          refine ev_iload_n 1 dX10_tell_82 rfl rfl ?_
          obtain ⟨v14, hv14, h⟩ := xbd_some h
          refine xv_iald kd_46 (xl hF rfl) hv14 dX10_tell_83 ?_
          refine ev_iload_n 3 dX10_tell_84 rfl rfl ?_
          refine ev_iadd dX10_tell_85 ?_
          exact ev_sub [0, 1] rfl (j86 _ h)
        · replace h := xif_t c71 h
          refine ev_iload_n 3 dX10_tell_74 rfl rfl ?_
          refine ev_goto (tgt := 86) dX10_tell_75 (by decide) ?_
          exact ev_sub [0, 1] rfl (j86 _ h)
      · replace h := xif_f c23 h
        refine ev_iconst (v := (-1)) dX10_tell_26 (by decide) ?_
        cases h
        exact ev_iret rfl (hQ) dX10_tell_27 (Nat.zero_le _) (Nat.zero_le _)
def fX10_toldBy (p0 : Int32) (μ : xm) : Option (Int32) := xbd (fX11_isPerson p0) fun q1 => if q1 = 0 then (some (-1)) else (xbd (xgI μ iC_ways_told 8 p0) fun v2 => some v2)
set_option maxHeartbeats 4000000 in
set_option maxRecDepth 100000 in
theorem kX10_toldBy {E : xE} {d : Nat} {QQ : xP} (hd : 1 ≤ d) {p0 : Int32} {μ : xm} {R : xr} {n : Nat} (hF : xFin R n)  {res : Int32} (h : fX10_toldBy p0 μ = some res) (hQ : QQ (some (.int res)) (xσ μ R) n) : xCon E d Y_X10_toldBy 0 0 [.ref (E.2.2.2 + iC_ways), .int p0] (xσ μ R) n QQ := by
  refine xCon_of pn_RX10 (Nat.le_of_ble_eq_true rfl) (L0 := [(0, .ref (E.2.2.2 + iC_ways)), (1, .int p0)]) rfl ?_
  unfold fX10_toldBy at h
  refine ev_iload_n 1 dX10_toldBy_0 rfl rfl ?_
  obtain ⟨q1, hq1, h⟩ := xbd_some h
  refine ev_callSN (As := [.int p0]) (rest := []) 1 (kX11_isPerson (E := E) (d := 0) (QQ := (fun v τ n' => v = some (.int q1) ∧ τ = xσ μ R ∧ n = n')) (Nat.le_refl _)  hq1 (⟨rfl, rfl, rfl⟩)) my_X11_isPerson ⟨⟨_, xnm_10⟩, m_436⟩ rfl rfl (Nat.le_of_ble_eq_true rfl) (Nat.le_trans (by decide) hd) (xlo (by decide) (Nat.le_trans (by decide) hd)) (Nat.zero_le _) (Nat.zero_le _) dX10_toldBy_1 (fun v τ n' hv => ?_)
  obtain ⟨rfl, rfl, rfl⟩ := hv
  show Ev E (xcm E d 0 0 QQ) Y_X10_toldBy 4 [(0, .ref (E.2.2.2 + iC_ways)), (1, .int p0)] [.int q1] (xσ μ R) n 0 0
  refine ev_if_eq (tgt := 16) dX10_toldBy_4 (by decide) (fun c4 => ?_) (fun c4 => ?_)
  · replace h := xif_t c4 h
    refine ev_iconst (v := (-1)) dX10_toldBy_16 (by decide) ?_
    cases h
    exact ev_iret rfl (hQ) dX10_toldBy_17 (Nat.zero_le _) (Nat.zero_le _)
  · replace h := xif_f c4 h
    refine ev_aload_n 0 dX10_toldBy_7 rfl rfl ?_
    refine xv_getF (a := iC_ways_told) cl_10 lk_RX10_9 kd_42 (xl hF rfl) (fun _ => rfl) (fr_42_1 hF) dX10_toldBy_8 ?_
    refine ev_iload_n 1 dX10_toldBy_11 rfl rfl ?_
    obtain ⟨v2, hv2, h⟩ := xbd_some h
    refine xv_iald kd_43 (xl hF rfl) hv2 dX10_toldBy_12 ?_
    refine ev_goto (tgt := 17) dX10_toldBy_13 (by decide) ?_
    cases h
    exact ev_iret rfl (hQ) dX10_toldBy_17 (Nat.zero_le _) (Nat.zero_le _)
def fX10_weightOf (p0 : Int32) (p1 : Int32) (μ : xm) : Option (Int32) := xbd (fX11_isPerson p0) fun q1 => if q1 = 0 then (some 0) else (xbd (fX11_within p1 0 4) fun q2 => if q2 = 0 then (some 0) else (xbd (xgI μ iC_ways_weights 40 ((p0 * 5) + p1)) fun v3 => some v3))
set_option maxHeartbeats 4000000 in
set_option maxRecDepth 100000 in
theorem kX10_weightOf {E : xE} {d : Nat} {QQ : xP} (hd : 1 ≤ d) {p0 : Int32} {p1 : Int32} {μ : xm} {R : xr} {n : Nat} (hF : xFin R n)  {res : Int32} (h : fX10_weightOf p0 p1 μ = some res) (hQ : QQ (some (.int res)) (xσ μ R) n) : xCon E d Y_X10_weightOf 0 0 [.ref (E.2.2.2 + iC_ways), .int p0, .int p1] (xσ μ R) n QQ := by
  refine xCon_of pn_RX10 (Nat.le_of_ble_eq_true rfl) (L0 := [(0, .ref (E.2.2.2 + iC_ways)), (1, .int p0), (2, .int p1)]) rfl ?_
  unfold fX10_weightOf at h
  refine ev_iload_n 1 dX10_weightOf_0 rfl rfl ?_
  obtain ⟨q1, hq1, h⟩ := xbd_some h
  refine ev_callSN (As := [.int p0]) (rest := []) 1 (kX11_isPerson (E := E) (d := 0) (QQ := (fun v τ n' => v = some (.int q1) ∧ τ = xσ μ R ∧ n = n')) (Nat.le_refl _)  hq1 (⟨rfl, rfl, rfl⟩)) my_X11_isPerson ⟨⟨_, xnm_10⟩, m_436⟩ rfl rfl (Nat.le_of_ble_eq_true rfl) (Nat.le_trans (by decide) hd) (xlo (by decide) (Nat.le_trans (by decide) hd)) (Nat.zero_le _) (Nat.zero_le _) dX10_weightOf_1 (fun v τ n' hv => ?_)
  obtain ⟨rfl, rfl, rfl⟩ := hv
  show Ev E (xcm E d 0 0 QQ) Y_X10_weightOf 4 [(0, .ref (E.2.2.2 + iC_ways)), (1, .int p0), (2, .int p1)] [.int q1] (xσ μ R) n 0 0
  refine ev_if_eq (tgt := 29) dX10_weightOf_4 (by decide) (fun c4 => ?_) (fun c4 => ?_)
  · replace h := xif_t c4 h
    refine ev_iconst (v := 0) dX10_weightOf_29 (by decide) ?_
    cases h
    exact ev_iret rfl (hQ) dX10_weightOf_30 (Nat.zero_le _) (Nat.zero_le _)
  · replace h := xif_f c4 h
    refine ev_iload_n 2 dX10_weightOf_7 rfl rfl ?_
    refine ev_iconst (v := 0) dX10_weightOf_8 (by decide) ?_
    refine ev_iconst (v := 4) dX10_weightOf_9 (by decide) ?_
    obtain ⟨q2, hq2, h⟩ := xbd_some h
    refine ev_callSN (As := [.int p1, .int 0, .int 4]) (rest := []) 3 (kX11_within (E := E) (d := 0) (QQ := (fun v τ n' => v = some (.int q2) ∧ τ = xσ μ R ∧ n = n')) (Nat.le_refl _)  hq2 (⟨rfl, rfl, rfl⟩)) my_X11_within ⟨⟨_, xnm_11⟩, m_425⟩ rfl rfl (Nat.le_of_ble_eq_true rfl) (Nat.le_trans (by decide) hd) (xlo (by decide) (Nat.le_trans (by decide) hd)) (Nat.zero_le _) (Nat.zero_le _) dX10_weightOf_10 (fun v τ n' hv => ?_)
    obtain ⟨rfl, rfl, rfl⟩ := hv
    show Ev E (xcm E d 0 0 QQ) Y_X10_weightOf 13 [(0, .ref (E.2.2.2 + iC_ways)), (1, .int p0), (2, .int p1)] [.int q2] (xσ μ R) n 0 0
    refine ev_if_eq (tgt := 29) dX10_weightOf_13 (by decide) (fun c13 => ?_) (fun c13 => ?_)
    · replace h := xif_t c13 h
      refine ev_iconst (v := 0) dX10_weightOf_29 (by decide) ?_
      cases h
      exact ev_iret rfl (hQ) dX10_weightOf_30 (Nat.zero_le _) (Nat.zero_le _)
    · replace h := xif_f c13 h
      refine ev_aload_n 0 dX10_weightOf_16 rfl rfl ?_
      refine xv_getF (a := iC_ways_weights) cl_10 lk_RX10_18 kd_42 (xl hF rfl) (fun _ => rfl) (fr_42_3 hF) dX10_weightOf_17 ?_
      refine ev_iload_n 1 dX10_weightOf_20 rfl rfl ?_
      refine ev_iconst (v := 5) dX10_weightOf_21 (by decide) ?_
      refine ev_imul dX10_weightOf_22 ?_
      refine ev_iload_n 2 dX10_weightOf_23 rfl rfl ?_
      refine ev_iadd dX10_weightOf_24 ?_
      obtain ⟨v3, hv3, h⟩ := xbd_some h
      refine xv_iald kd_45 (xl hF rfl) hv3 dX10_weightOf_25 ?_
      refine ev_goto (tgt := 30) dX10_weightOf_26 (by decide) ?_
      cases h
      exact ev_iret rfl (hQ) dX10_weightOf_30 (Nat.zero_le _) (Nat.zero_le _)
