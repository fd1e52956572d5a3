def fX12_chains_j65 (x10 : Int32) (x4 : Int32) (x5 : Int32) (μ7 : xm) (q9 : Int32) : Option ((Int32 × Int32 × Int32 × xm) ⊕ (xm)) := xbd (xsI μ7 iM_chainWho 24 (μ7.1 iM 34) x5) fun μ11 => xbd (xsI μ11 iM_chainMinutes 24 (μ11.1 iM 34) (x4 - x10)) fun μ12 => xlt (xpI μ12 iM 34 ((μ12.1 iM 34) + 1)) fun μ13 => if x10 ≤ 0 then (some (.inl (x10, (-1), q9, μ13))) else (xbd (fX12_keeperOf q9 μ13) fun q14 => some (.inl (x10, q14, q9, μ13)))
def fX12_chains_b31 (x4 : Int32) (x5 : Int32) (x6 : Int32) (μ7 : xm) (q1 : (Int32 × xm)) : Option ((Int32 × Int32 × Int32 × xm) ⊕ (xm)) := if x5 = (-1) then (some (.inr μ7)) else (xbd (fX12_keptBy x6 x5 μ7) fun q9 => if q9 = (-1) then (fX12_chains_j65 0 x4 x5 μ7 q9) else (fX12_chains_j65 ((x4 * q1.1) / 100) x4 x5 μ7 q9))
def fX12_chains (p0 : Int32) (p1 : Int32) (p2 : Int32) (μ : xm) : Option (xm) := xbd (fX12_owesBy p0 p1 p2 1 μ) fun q1 => xbd (fX12_owesBy p0 p1 p2 0 q1.2) fun q2 => xlt (xpI q2.2 iM 34 0) fun μ3 => xbd (xloop xfu (fun v => fX12_chains_b31 v.1 v.2.1 v.2.2.1 v.2.2.2 q1) (q2.1, p1, p0, μ3)) fun q15 => some q15
set_option maxHeartbeats 4000000 in
set_option maxRecDepth 100000 in
theorem kX12_chains {E : xE} {d : Nat} {QQ : xP} (hd : 7 ≤ d) {p0 : Int32} {p1 : Int32} {p2 : Int32} {μ : xm} {R : xr} {n : Nat} (hF : xFin R n)  {res : xm} (h : fX12_chains p0 p1 p2 μ = some res) (hQ : QQ none (xσ res R) n) : xCon E d Y_X12_chains 0 0 [.ref (E.2.2.2 + iM), .int p0, .int p1, .int p2] (xσ μ R) n QQ := by
  refine xCon_of pn_RX12 (Nat.le_of_ble_eq_true rfl) (L0 := [(0, .ref (E.2.2.2 + iM)), (1, .int p0), (2, .int p1), (3, .int p2)]) rfl ?_
  unfold fX12_chains at h
  refine ev_aload_n 0 dX12_chains_0 rfl rfl ?_
  refine ev_iload_n 1 dX12_chains_1 rfl rfl ?_
  refine ev_iload_n 2 dX12_chains_2 rfl rfl ?_
  refine ev_iload_n 3 dX12_chains_3 rfl rfl ?_
  refine ev_iconst (v := 1) dX12_chains_4 (by decide) ?_
  obtain ⟨q1, hq1, h⟩ := xbd_some h
  refine ev_callV (ci := 12) (rest := []) 4 (kX12_owesBy (E := E) (d := 6) (QQ := (fun v τ n' => v = some (.int q1.1) ∧ τ = xσ q1.2 R ∧ n = n')) (Nat.le_refl _) hF hq1 (⟨rfl, rfl, rfl⟩)) my_X12_owesBy ⟨m_1617, m_1619, m_69⟩ cl_12 kd_61 (xl hF rfl) rfl rfl (Nat.le_of_ble_eq_true rfl) (Nat.le_trans (by decide) hd) (xlo (by decide) (Nat.le_trans (by decide) hd)) (Nat.zero_le _) (Nat.zero_le _) dX12_chains_5 (fun v τ n' hv => ?_)
  obtain ⟨rfl, rfl, rfl⟩ := hv
  show Ev E (xcm E d 0 0 QQ) Y_X12_chains 8 [(0, .ref (E.2.2.2 + iM)), (1, .int p0), (2, .int p1), (3, .int p2)] [.int q1.1] (xσ q1.2 R) n 0 0
  refine xv_istore (L' := [(4, .int q1.1), (0, .ref (E.2.2.2 + iM)), (1, .int p0), (2, .int p1), (3, .int p2)]) rfl dX12_chains_8 (Nat.le_of_ble_eq_true rfl) rfl ?_
  refine ev_aload_n 1 dX12_chains_10 rfl rfl ?_
  refine ev_iload_n 2 dX12_chains_11 rfl rfl ?_
  refine ev_iload_n 3 dX12_chains_12 rfl rfl ?_
  refine ev_iload_n 4 dX12_chains_13 rfl rfl ?_
  refine ev_iconst (v := 0) dX12_chains_14 (by decide) ?_
  obtain ⟨q2, hq2, h⟩ := xbd_some h
  refine ev_callV (ci := 12) (rest := []) 4 (kX12_owesBy (E := E) (d := 6) (QQ := (fun v τ n' => v = some (.int q2.1) ∧ τ = xσ q2.2 R ∧ n = n')) (Nat.le_refl _) hF hq2 (⟨rfl, rfl, rfl⟩)) my_X12_owesBy ⟨m_1617, m_1619, m_69⟩ cl_12 kd_61 (xl hF rfl) rfl rfl (Nat.le_of_ble_eq_true rfl) (Nat.le_trans (by decide) hd) (xlo (by decide) (Nat.le_trans (by decide) hd)) (Nat.zero_le _) (Nat.zero_le _) dX12_chains_15 (fun v τ n' hv => ?_)
  obtain ⟨rfl, rfl, rfl⟩ := hv
  show Ev E (xcm E d 0 0 QQ) Y_X12_chains 18 [(4, .int q1.1), (0, .ref (E.2.2.2 + iM)), (1, .int p0), (2, .int p1), (3, .int p2)] [.int q2.1] (xσ q2.2 R) n 0 0
  refine xv_istore (L' := [(5, .int q2.1), (4, .int q1.1), (0, .ref (E.2.2.2 + iM)), (1, .int p0), (2, .int p1), (3, .int p2)]) rfl dX12_chains_18 (Nat.le_of_ble_eq_true rfl) rfl ?_
  refine ev_iload_n 4 dX12_chains_20 rfl rfl ?_
  refine xv_istore (L' := [(6, .int p1), (5, .int q2.1), (4, .int q1.1), (0, .ref (E.2.2.2 + iM)), (1, .int p0), (2, .int p1), (3, .int p2)]) rfl dX12_chains_21 (Nat.le_of_ble_eq_true rfl) rfl ?_
  refine ev_iload_n 4 dX12_chains_23 rfl rfl ?_
  refine xv_istore (L' := [(7, .int p0), (6, .int p1), (5, .int q2.1), (4, .int q1.1), (0, .ref (E.2.2.2 + iM)), (1, .int p0), (2, .int p1), (3, .int p2)]) rfl dX12_chains_24 (Nat.le_of_ble_eq_true rfl) rfl ?_
  refine ev_aload_n 4 dX12_chains_26 rfl rfl ?_
  refine ev_iconst (v := 0) dX12_chains_27 (by decide) ?_
  obtain ⟨μ3, hμ3, h⟩ := xlt_some h
  refine xv_putI cl_12 lk_RX12_322 rfl kd_61 (xl hF rfl) rfl rfl (fun _ => rfl) hμ3 dX12_chains_28 ?_
  obtain ⟨q15, hq15, h⟩ := xbd_some h
  refine ev_sub (L' := [(0, .ref (E.2.2.2 + iM)), (4, .int q1.1), (5, .int q2.1), (6, .int p1), (7, .int p0)]) [4, 3, 2, 1, 0] rfl ?_
  refine xloop_run (fun v => Ev E (xcm E d 0 0 QQ) Y_X12_chains 31 [(0, .ref (E.2.2.2 + iM)), (4, .int q1.1), (5, .int v.1), (6, .int v.2.1), (7, .int v.2.2.1)] [] (xσ v.2.2.2 R) n 0 0) (fun v => Ev E (xcm E d 0 0 QQ) Y_X12_chains 130 [] [] (xσ v R) n 0 0) ?_ _ _ _ hq15 ?_
  · rintro ⟨x4, x5, x6, μ7⟩ y8 h hk
    replace h : fX12_chains_b31 x4 x5 x6 μ7 q1 = some y8 := h
    show Ev E (xcm E d 0 0 QQ) Y_X12_chains 31 [(0, .ref (E.2.2.2 + iM)), (4, .int q1.1), (5, .int x4), (6, .int x5), (7, .int x6)] [] (xσ μ7 R) n 0 0
    unfold fX12_chains_b31 at h
    refine ev_iload 3 dX12_chains_31 rfl ?_
    refine ev_iconst (v := (-1)) dX12_chains_33 (by decide) ?_
    refine ev_icmp_eq (tgt := 130) dX12_chains_34 (by decide) (fun c34 => ?_) (fun c34 => ?_)
    · replace h := xif_t c34 h
      cases h
      replace hk := xel_r hk
      exact ev_sub [] rfl (hk)
    · replace h := xif_f c34 h
      refine ev_aload_n 0 dX12_chains_37 rfl rfl ?_
      refine ev_iload 4 dX12_chains_38 rfl ?_
      refine ev_iload 3 dX12_chains_40 rfl ?_
      obtain ⟨q9, hq9, h⟩ := xbd_some h
      refine ev_callV (ci := 12) (rest := []) 2 (kX12_keptBy (E := E) (d := 4) (QQ := (fun v τ n' => v = some (.int q9) ∧ τ = xσ μ7 R ∧ n = n')) (Nat.le_refl _) hF hq9 (⟨rfl, rfl, rfl⟩)) my_X12_keptBy ⟨m_1502, m_1504, m_45⟩ cl_12 kd_61 (xl hF rfl) rfl rfl (Nat.le_of_ble_eq_true rfl) (Nat.le_trans (by decide) hd) (xlo (by decide) (Nat.le_trans (by decide) hd)) (Nat.zero_le _) (Nat.zero_le _) dX12_chains_42 (fun v τ n' hv => ?_)
      obtain ⟨rfl, rfl, rfl⟩ := hv
      show Ev E (xcm E d 0 0 QQ) Y_X12_chains 45 [(0, .ref (E.2.2.2 + iM)), (4, .int q1.1), (5, .int x4), (6, .int x5), (7, .int x6)] [.int q9] (xσ μ7 R) n 0 0
      refine xv_istore (L' := [(8, .int q9), (0, .ref (E.2.2.2 + iM)), (4, .int q1.1), (5, .int x4), (6, .int x5), (7, .int x6)]) rfl dX12_chains_45 (Nat.le_of_ble_eq_true rfl) rfl ?_
      refine ev_iload 0 dX12_chains_47 rfl ?_
      refine ev_iconst (v := (-1)) dX12_chains_49 (by decide) ?_
      have j65 : ∀ (x10 : Int32), fX12_chains_j65 x10 x4 x5 μ7 q9 = some y8 → Ev E (xcm E d 0 0 QQ) Y_X12_chains 65 [(0, .ref (E.2.2.2 + iM)), (4, .int q1.1), (5, .int x4), (6, .int x5), (8, .int q9)] [.int x10] (xσ μ7 R) n 0 0 := by
        intro x10 h
        unfold fX12_chains_j65 at h
        refine xv_istore (L' := [(9, .int x10), (0, .ref (E.2.2.2 + iM)), (4, .int q1.1), (5, .int x4), (6, .int x5), (8, .int q9)]) rfl dX12_chains_65 (Nat.le_of_ble_eq_true rfl) rfl ?_
        refine ev_aload_n 1 dX12_chains_67 rfl rfl ?_
        refine xv_getF (a := iM_chainWho) cl_12 lk_RX12_72 kd_61 (xl hF rfl) (fun _ => rfl) (fr_61_35 hF) dX12_chains_68 ?_
        refine ev_aload_n 1 dX12_chains_71 rfl rfl ?_
        refine xv_getI cl_12 lk_RX12_322 kd_61 (xl hF rfl) (fun _ => rfl) dX12_chains_72 ?_
        refine ev_iload 4 dX12_chains_75 rfl ?_
        obtain ⟨μ11, hμ11, h⟩ := xbd_some h
        refine xv_iast kd_82 (xl hF rfl) hμ11 dX12_chains_77 ?_
        refine ev_aload_n 1 dX12_chains_78 rfl rfl ?_
        refine xv_getF (a := iM_chainMinutes) cl_12 lk_RX12_75 kd_61 (xl hF rfl) (fun _ => rfl) (fr_61_36 hF) dX12_chains_79 ?_
        refine ev_aload_n 1 dX12_chains_82 rfl rfl ?_
        refine xv_getI cl_12 lk_RX12_322 kd_61 (xl hF rfl) (fun _ => rfl) dX12_chains_83 ?_
        refine ev_iload 3 dX12_chains_86 rfl ?_
        refine ev_iload 0 dX12_chains_88 rfl ?_
        refine ev_isub dX12_chains_90 ?_
        obtain ⟨μ12, hμ12, h⟩ := xbd_some h
        refine xv_iast kd_83 (xl hF rfl) hμ12 dX12_chains_91 ?_
        refine ev_aload_n 1 dX12_chains_92 rfl rfl ?_
        refine ev_aload_n 1 dX12_chains_93 rfl rfl ?_
        refine xv_getI cl_12 lk_RX12_322 kd_61 (xl hF rfl) (fun _ => rfl) dX12_chains_94 ?_
        refine ev_iconst (v := 1) dX12_chains_97 (by decide) ?_
        refine ev_iadd dX12_chains_98 ?_
        obtain ⟨μ13, hμ13, h⟩ := xlt_some h
        refine xv_putI cl_12 lk_RX12_322 rfl kd_61 (xl hF rfl) rfl rfl (fun _ => rfl) hμ13 dX12_chains_99 ?_
        refine ev_iload 0 dX12_chains_102 rfl ?_
        refine ev_if_le (tgt := 116) dX12_chains_104 (by decide) (fun c104 => ?_) (fun c104 => ?_)
        · replace h := xif_t c104 h
          refine ev_iconst (v := (-1)) dX12_chains_116 (by decide) ?_
          refine xv_istore (L' := [(6, .int (-1)), (9, .int x10), (0, .ref (E.2.2.2 + iM)), (4, .int q1.1), (5, .int x4), (8, .int q9)]) rfl dX12_chains_117 (Nat.le_of_ble_eq_true rfl) rfl ?_
          refine ev_iload 5 dX12_chains_119 rfl ?_
          refine xv_istore (L' := [(7, .int q9), (6, .int (-1)), (9, .int x10), (0, .ref (E.2.2.2 + iM)), (4, .int q1.1), (5, .int x4), (8, .int q9)]) rfl dX12_chains_121 (Nat.le_of_ble_eq_true rfl) rfl ?_
          refine ev_iload 2 dX12_chains_123 rfl ?_
          refine xv_istore (L' := [(5, .int x10), (7, .int q9), (6, .int (-1)), (9, .int x10), (0, .ref (E.2.2.2 + iM)), (4, .int q1.1), (8, .int q9)]) rfl dX12_chains_125 (Nat.le_of_ble_eq_true rfl) rfl ?_
          refine ev_goto (tgt := 31) dX12_chains_127 (by decide) ?_
          cases h
          replace hk := xel_l hk
          exact ev_sub [4, 5, 0, 2, 1] rfl (hk)
        · replace h := xif_f c104 h
          refine ev_aload_n 1 dX12_chains_107 rfl rfl ?_
          refine ev_iload 5 dX12_chains_108 rfl ?_
          obtain ⟨q14, hq14, h⟩ := xbd_some h
          refine ev_callV (ci := 12) (rest := []) 1 (kX12_keeperOf (E := E) (d := 2) (QQ := (fun v τ n' => v = some (.int q14) ∧ τ = xσ μ13 R ∧ n = n')) (Nat.le_refl _) hF hq14 (⟨rfl, rfl, rfl⟩)) my_X12_keeperOf ⟨m_1514, m_1516, m_48⟩ cl_12 kd_61 (xl hF rfl) rfl rfl (Nat.le_of_ble_eq_true rfl) (Nat.le_trans (by decide) hd) (xlo (by decide) (Nat.le_trans (by decide) hd)) (Nat.zero_le _) (Nat.zero_le _) dX12_chains_110 (fun v τ n' hv => ?_)
          obtain ⟨rfl, rfl, rfl⟩ := hv
          show Ev E (xcm E d 0 0 QQ) Y_X12_chains 113 [(9, .int x10), (0, .ref (E.2.2.2 + iM)), (4, .int q1.1), (5, .int x4), (6, .int x5), (8, .int q9)] [.int q14] (xσ μ13 R) n 0 0
          refine ev_goto (tgt := 117) dX12_chains_113 (by decide) ?_
          refine xv_istore (L' := [(6, .int q14), (9, .int x10), (0, .ref (E.2.2.2 + iM)), (4, .int q1.1), (5, .int x4), (8, .int q9)]) rfl dX12_chains_117 (Nat.le_of_ble_eq_true rfl) rfl ?_
          refine ev_iload 5 dX12_chains_119 rfl ?_
          refine xv_istore (L' := [(7, .int q9), (6, .int q14), (9, .int x10), (0, .ref (E.2.2.2 + iM)), (4, .int q1.1), (5, .int x4), (8, .int q9)]) rfl dX12_chains_121 (Nat.le_of_ble_eq_true rfl) rfl ?_
          refine ev_iload 2 dX12_chains_123 rfl ?_
          refine xv_istore (L' := [(5, .int x10), (7, .int q9), (6, .int q14), (9, .int x10), (0, .ref (E.2.2.2 + iM)), (4, .int q1.1), (8, .int q9)]) rfl dX12_chains_125 (Nat.le_of_ble_eq_true rfl) rfl ?_
          refine ev_goto (tgt := 31) dX12_chains_127 (by decide) ?_
          cases h
          replace hk := xel_l hk
          exact ev_sub [4, 5, 0, 2, 1] rfl (hk)
      refine ev_icmp_ne (tgt := 57) dX12_chains_50 (by decide) (fun c50 => ?_) (fun c50 => ?_)
      · replace h := xif_f c50 h
        refine ev_iload 3 dX12_chains_57 rfl ?_
        refine ev_iload 2 dX12_chains_59 rfl ?_
        refine ev_imul dX12_chains_61 ?_
        refine ev_bipush (v := 100) dX12_chains_62 (by decide) ?_
        refine ev_idiv dX12_chains_64 (by decide) ?_
        exact ev_sub [1, 2, 3, 4, 0] rfl (j65 _ h)
      · replace h := xif_t c50 h
        refine ev_iconst (v := 0) dX12_chains_53 (by decide) ?_
        refine ev_goto (tgt := 65) dX12_chains_54 (by decide) ?_
        exact ev_sub [1, 2, 3, 4, 0] rfl (j65 _ h)
  · show Ev E (xcm E d 0 0 QQ) Y_X12_chains 130 [] [] (xσ q15 R) n 0 0
    cases h
    exact ev_vret rfl (hQ) dX12_chains_130 (Nat.zero_le _) (Nat.zero_le _)
def fX12_owes (p0 : Int32) (p1 : Int32) (p2 : Int32) (p3 : Int32) (μ : xm) : Option (Int32 × xm) := xbd (fX12_areTwo p0 p1 p2 μ) fun q1 => if q1 = 0 then (some ((-1), μ)) else (xbd (fX12_in p3 0 2) fun q2 => if q2 = 0 then (some ((-1), μ)) else (xbd (fX12_owesBy p0 p1 p2 p3 μ) fun q3 => some (q3.1, q3.2)))
set_option maxHeartbeats 4000000 in
set_option maxRecDepth 100000 in
theorem kX12_owes {E : xE} {d : Nat} {QQ : xP} (hd : 7 ≤ d) {p0 : Int32} {p1 : Int32} {p2 : Int32} {p3 : Int32} {μ : xm} {R : xr} {n : Nat} (hF : xFin R n)  {res : Int32 × xm} (h : fX12_owes p0 p1 p2 p3 μ = some res) (hQ : QQ (some (.int res.1)) (xσ res.2 R) n) : xCon E d Y_X12_owes 0 0 [.ref (E.2.2.2 + iM), .int p0, .int p1, .int p2, .int p3] (xσ μ R) n QQ := by
  refine xCon_of pn_RX12 (Nat.le_of_ble_eq_true rfl) (L0 := [(0, .ref (E.2.2.2 + iM)), (1, .int p0), (2, .int p1), (3, .int p2), (4, .int p3)]) rfl ?_
  unfold fX12_owes at h
  refine ev_aload_n 0 dX12_owes_0 rfl rfl ?_
  refine ev_iload_n 1 dX12_owes_1 rfl rfl ?_
  refine ev_iload_n 2 dX12_owes_2 rfl rfl ?_
  refine ev_iload_n 3 dX12_owes_3 rfl rfl ?_
  obtain ⟨q1, hq1, h⟩ := xbd_some h
  refine ev_callV (ci := 12) (rest := []) 3 (kX12_areTwo (E := E) (d := 3) (QQ := (fun v τ n' => v = some (.int q1) ∧ τ = xσ μ R ∧ n = n')) (Nat.le_refl _) hF hq1 (⟨rfl, rfl, rfl⟩)) my_X12_areTwo ⟨m_1613, m_1615, m_68⟩ cl_12 kd_61 (xl hF rfl) rfl rfl (Nat.le_of_ble_eq_true rfl) (Nat.le_trans (by decide) hd) (xlo (by decide) (Nat.le_trans (by decide) hd)) (Nat.zero_le _) (Nat.zero_le _) dX12_owes_4 (fun v τ n' hv => ?_)
  obtain ⟨rfl, rfl, rfl⟩ := hv
  show Ev E (xcm E d 0 0 QQ) Y_X12_owes 7 [(0, .ref (E.2.2.2 + iM)), (1, .int p0), (2, .int p1), (3, .int p2), (4, .int p3)] [.int q1] (xσ μ R) n 0 0
  refine ev_if_eq (tgt := 32) dX12_owes_7 (by decide) (fun c7 => ?_) (fun c7 => ?_)
  · replace h := xif_t c7 h
    refine ev_iconst (v := (-1)) dX12_owes_32 (by decide) ?_
    cases h
    exact ev_iret rfl (hQ) dX12_owes_33 (Nat.zero_le _) (Nat.zero_le _)
  · replace h := xif_f c7 h
    refine ev_iload 4 dX12_owes_10 rfl ?_
    refine ev_iconst (v := 0) dX12_owes_12 (by decide) ?_
    refine ev_iconst (v := 2) dX12_owes_13 (by decide) ?_
    obtain ⟨q2, hq2, h⟩ := xbd_some h
    refine ev_callS (As := [.int p3, .int 0, .int 2]) (rest := []) 3 (kX12_in (E := E) (d := 0) (QQ := (fun v τ n' => v = some (.int q2) ∧ τ = xσ μ R ∧ n = n')) (Nat.le_refl _)  hq2 (⟨rfl, rfl, rfl⟩)) my_X12_in ⟨m_1449, m_1450⟩ rfl rfl (Nat.le_of_ble_eq_true rfl) (Nat.le_trans (by decide) hd) (xlo (by decide) (Nat.le_trans (by decide) hd)) (Nat.zero_le _) (Nat.zero_le _) dX12_owes_14 (fun v τ n' hv => ?_)
    obtain ⟨rfl, rfl, rfl⟩ := hv
    show Ev E (xcm E d 0 0 QQ) Y_X12_owes 17 [(0, .ref (E.2.2.2 + iM)), (1, .int p0), (2, .int p1), (3, .int p2), (4, .int p3)] [.int q2] (xσ μ R) n 0 0
    refine ev_if_eq (tgt := 32) dX12_owes_17 (by decide) (fun c17 => ?_) (fun c17 => ?_)
    · replace h := xif_t c17 h
      refine ev_iconst (v := (-1)) dX12_owes_32 (by decide) ?_
      cases h
      exact ev_iret rfl (hQ) dX12_owes_33 (Nat.zero_le _) (Nat.zero_le _)
    · replace h := xif_f c17 h
      refine ev_aload_n 0 dX12_owes_20 rfl rfl ?_
      refine ev_iload_n 1 dX12_owes_21 rfl rfl ?_
      refine ev_iload_n 2 dX12_owes_22 rfl rfl ?_
      refine ev_iload_n 3 dX12_owes_23 rfl rfl ?_
      refine ev_iload 4 dX12_owes_24 rfl ?_
      obtain ⟨q3, hq3, h⟩ := xbd_some h
      refine ev_callV (ci := 12) (rest := []) 4 (kX12_owesBy (E := E) (d := 6) (QQ := (fun v τ n' => v = some (.int q3.1) ∧ τ = xσ q3.2 R ∧ n = n')) (Nat.le_refl _) hF hq3 (⟨rfl, rfl, rfl⟩)) my_X12_owesBy ⟨m_1617, m_1619, m_69⟩ cl_12 kd_61 (xl hF rfl) rfl rfl (Nat.le_of_ble_eq_true rfl) (Nat.le_trans (by decide) hd) (xlo (by decide) (Nat.le_trans (by decide) hd)) (Nat.zero_le _) (Nat.zero_le _) dX12_owes_26 (fun v τ n' hv => ?_)
      obtain ⟨rfl, rfl, rfl⟩ := hv
      show Ev E (xcm E d 0 0 QQ) Y_X12_owes 29 [(0, .ref (E.2.2.2 + iM)), (1, .int p0), (2, .int p1), (3, .int p2), (4, .int p3)] [.int q3.1] (xσ q3.2 R) n 0 0
      refine ev_goto (tgt := 33) dX12_owes_29 (by decide) ?_
      cases h
      exact ev_iret rfl (hQ) dX12_owes_33 (Nat.zero_le _) (Nat.zero_le _)
def fX12_readsClause_j33 (μ : xm) (q1 : Int32) : Option (Int32 × xm) := if (μ.1 iM 18) = 14 then (xbd (fX12_wrongAt 4 (μ.1 iM 12) μ) fun q12 => xbd (xz q12.1) fun z13 => some (z13, q12.2)) else (xbd (xsI μ iM_saidLetter 14 (μ.1 iM 18) q1) fun μ2 => xlt (xpI μ2 iM 12 ((μ2.1 iM 12) + 1)) fun μ3 => xbd (xsI μ3 iM_saidFrom 14 (μ3.1 iM 18) (μ3.1 iM 16)) fun μ4 => xlt (xpI μ4 iM 15 0) fun μ5 => xlt (xpI μ5 iM 17 0) fun μ6 => xbd (fX12_readsSum μ6) fun q7 => if q7.1 = 0 then (some (0, q7.2)) else (xbd (xsI q7.2 iM_saidHalf 14 (q7.2.1 iM 18) (q7.2.1 iM 16)) fun μ8 => xbd (fX12_readsCondition μ8) fun q9 => if q9.1 = 0 then (some (0, q9.2)) else (xbd (xsI q9.2 iM_saidTo 14 (q9.2.1 iM 18) (q9.2.1 iM 16)) fun μ10 => xlt (xpI μ10 iM 18 ((μ10.1 iM 18) + 1)) fun μ11 => some (1, μ11))))
def fX12_readsClause (μ : xm) : Option (Int32 × xm) := xbd (fX12_here μ) fun q1 => if q1 = 111 then (fX12_readsClause_j33 μ q1) else (if q1 = 112 then (fX12_readsClause_j33 μ q1) else (if q1 = 108 then (fX12_readsClause_j33 μ q1) else (xbd (fX12_wrongAt 1 (μ.1 iM 12) μ) fun q14 => xbd (xz q14.1) fun z15 => some (z15, q14.2))))
set_option maxHeartbeats 4000000 in
set_option maxRecDepth 100000 in
theorem kX12_readsClause {E : xE} {d : Nat} {QQ : xP} (hd : 7 ≤ d)  {μ : xm} {R : xr} {n : Nat} (hF : xFin R n)  {res : Int32 × xm} (h : fX12_readsClause μ = some res) (hQ : QQ (some (.int res.1)) (xσ res.2 R) n) : xCon E d Y_X12_readsClause 0 0 [.ref (E.2.2.2 + iM)] (xσ μ R) n QQ := by
  refine xCon_of pn_RX12 (Nat.le_of_ble_eq_true rfl) (L0 := [(0, .ref (E.2.2.2 + iM))]) rfl ?_
  unfold fX12_readsClause at h
  refine ev_aload_n 0 dX12_readsClause_0 rfl rfl ?_
  obtain ⟨q1, hq1, h⟩ := xbd_some h
  refine ev_callV (ci := 12) (rest := []) 0 (kX12_here (E := E) (d := 0) (QQ := (fun v τ n' => v = some (.int q1) ∧ τ = xσ μ R ∧ n = n')) (Nat.le_refl _) hF hq1 (⟨rfl, rfl, rfl⟩)) my_X12_here ⟨m_1534, m_1536, m_51⟩ cl_12 kd_61 (xl hF rfl) rfl rfl (Nat.le_of_ble_eq_true rfl) (Nat.le_trans (by decide) hd) (xlo (by decide) (Nat.le_trans (by decide) hd)) (Nat.zero_le _) (Nat.zero_le _) dX12_readsClause_1 (fun v τ n' hv => ?_)
  obtain ⟨rfl, rfl, rfl⟩ := hv
  show Ev E (xcm E d 0 0 QQ) Y_X12_readsClause 4 [(0, .ref (E.2.2.2 + iM))] [.int q1] (xσ μ R) n 0 0
  refine xv_istore_n (L' := [(1, .int q1), (0, .ref (E.2.2.2 + iM))]) rfl dX12_readsClause_4 rfl (Nat.le_of_ble_eq_true rfl) rfl ?_
  refine ev_iload_n 0 dX12_readsClause_5 rfl rfl ?_
  refine ev_bipush (v := 111) dX12_readsClause_6 (by decide) ?_
  have j33 : fX12_readsClause_j33 μ q1 = some res → Ev E (xcm E d 0 0 QQ) Y_X12_readsClause 33 [(0, .ref (E.2.2.2 + iM)), (1, .int q1)] [] (xσ μ R) n 0 0 := by
    intro h
    unfold fX12_readsClause_j33 at h
    refine ev_aload_n 0 dX12_readsClause_33 rfl rfl ?_
    refine xv_getI cl_12 lk_RX12_287 kd_61 (xl hF rfl) (fun _ => rfl) dX12_readsClause_34 ?_
    refine ev_bipush (v := 14) dX12_readsClause_37 (by decide) ?_
    refine ev_icmp_ne (tgt := 52) dX12_readsClause_39 (by decide) (fun c39 => ?_) (fun c39 => ?_)
    · replace h := xif_f c39 h
      refine ev_aload_n 0 dX12_readsClause_52 rfl rfl ?_
      refine xv_getF (a := iM_saidLetter) cl_12 lk_RX12_39 kd_61 (xl hF rfl) (fun _ => rfl) (fr_61_23 hF) dX12_readsClause_53 ?_
      refine ev_aload_n 0 dX12_readsClause_56 rfl rfl ?_
      refine xv_getI cl_12 lk_RX12_287 kd_61 (xl hF rfl) (fun _ => rfl) dX12_readsClause_57 ?_
      refine ev_iload_n 1 dX12_readsClause_60 rfl rfl ?_
      obtain ⟨μ2, hμ2, h⟩ := xbd_some h
      refine xv_iast kd_71 (xl hF rfl) hμ2 dX12_readsClause_61 ?_
      refine ev_aload_n 0 dX12_readsClause_62 rfl rfl ?_
      refine ev_aload_n 0 dX12_readsClause_63 rfl rfl ?_
      refine xv_getI cl_12 lk_RX12_210 kd_61 (xl hF rfl) (fun _ => rfl) dX12_readsClause_64 ?_
      refine ev_iconst (v := 1) dX12_readsClause_67 (by decide) ?_
      refine ev_iadd dX12_readsClause_68 ?_
      obtain ⟨μ3, hμ3, h⟩ := xlt_some h
      refine xv_putI cl_12 lk_RX12_210 rfl kd_61 (xl hF rfl) rfl rfl (fun _ => rfl) hμ3 dX12_readsClause_69 ?_
      refine ev_aload_n 0 dX12_readsClause_72 rfl rfl ?_
      refine xv_getF (a := iM_saidFrom) cl_12 lk_RX12_42 kd_61 (xl hF rfl) (fun _ => rfl) (fr_61_24 hF) dX12_readsClause_73 ?_
      refine ev_aload_n 0 dX12_readsClause_76 rfl rfl ?_
      refine xv_getI cl_12 lk_RX12_287 kd_61 (xl hF rfl) (fun _ => rfl) dX12_readsClause_77 ?_
      refine ev_aload_n 0 dX12_readsClause_80 rfl rfl ?_
      refine xv_getI cl_12 lk_RX12_233 kd_61 (xl hF rfl) (fun _ => rfl) dX12_readsClause_81 ?_
      obtain ⟨μ4, hμ4, h⟩ := xbd_some h
      refine xv_iast kd_72 (xl hF rfl) hμ4 dX12_readsClause_84 ?_
      refine ev_aload_n 0 dX12_readsClause_85 rfl rfl ?_
      refine ev_iconst (v := 0) dX12_readsClause_86 (by decide) ?_
      obtain ⟨μ5, hμ5, h⟩ := xlt_some h
      refine xv_putI cl_12 lk_RX12_237 rfl kd_61 (xl hF rfl) rfl rfl (fun _ => rfl) hμ5 dX12_readsClause_87 ?_
      refine ev_aload_n 0 dX12_readsClause_90 rfl rfl ?_
      refine ev_iconst (v := 0) dX12_readsClause_91 (by decide) ?_
      obtain ⟨μ6, hμ6, h⟩ := xlt_some h
      refine xv_putI cl_12 lk_RX12_240 rfl kd_61 (xl hF rfl) rfl rfl (fun _ => rfl) hμ6 dX12_readsClause_92 ?_
      refine ev_aload_n 0 dX12_readsClause_95 rfl rfl ?_
      obtain ⟨q7, hq7, h⟩ := xbd_some h
      refine ev_callV (ci := 12) (rest := []) 0 (kX12_readsSum (E := E) (d := 4) (QQ := (fun v τ n' => v = some (.int q7.1) ∧ τ = xσ q7.2 R ∧ n = n')) (Nat.le_refl _) hF hq7 (⟨rfl, rfl, rfl⟩)) my_X12_readsSum ⟨m_1542, m_1544, m_53⟩ cl_12 kd_61 (xl hF rfl) rfl rfl (Nat.le_of_ble_eq_true rfl) (Nat.le_trans (by decide) hd) (xlo (by decide) (Nat.le_trans (by decide) hd)) (Nat.zero_le _) (Nat.zero_le _) dX12_readsClause_96 (fun v τ n' hv => ?_)
      obtain ⟨rfl, rfl, rfl⟩ := hv
      show Ev E (xcm E d 0 0 QQ) Y_X12_readsClause 99 [(0, .ref (E.2.2.2 + iM)), (1, .int q1)] [.int q7.1] (xσ q7.2 R) n 0 0
      refine ev_if_ne (tgt := 104) dX12_readsClause_99 (by decide) (fun c99 => ?_) (fun c99 => ?_)
      · replace h := xif_f c99 h
        refine ev_aload_n 0 dX12_readsClause_104 rfl rfl ?_
        refine xv_getF (a := iM_saidHalf) cl_12 lk_RX12_45 kd_61 (xl hF rfl) (fun _ => rfl) (fr_61_25 hF) dX12_readsClause_105 ?_
        refine ev_aload_n 0 dX12_readsClause_108 rfl rfl ?_
        refine xv_getI cl_12 lk_RX12_287 kd_61 (xl hF rfl) (fun _ => rfl) dX12_readsClause_109 ?_
        refine ev_aload_n 0 dX12_readsClause_112 rfl rfl ?_
        refine xv_getI cl_12 lk_RX12_233 kd_61 (xl hF rfl) (fun _ => rfl) dX12_readsClause_113 ?_
        obtain ⟨μ8, hμ8, h⟩ := xbd_some h
        refine xv_iast kd_73 (xl hF rfl) hμ8 dX12_readsClause_116 ?_
        refine ev_aload_n 0 dX12_readsClause_117 rfl rfl ?_
        obtain ⟨q9, hq9, h⟩ := xbd_some h
        refine ev_callV (ci := 12) (rest := []) 0 (kX12_readsCondition (E := E) (d := 6) (QQ := (fun v τ n' => v = some (.int q9.1) ∧ τ = xσ q9.2 R ∧ n = n')) (Nat.le_refl _) hF hq9 (⟨rfl, rfl, rfl⟩)) my_X12_readsCondition ⟨m_1585, m_1587, m_62⟩ cl_12 kd_61 (xl hF rfl) rfl rfl (Nat.le_of_ble_eq_true rfl) (Nat.le_trans (by decide) hd) (xlo (by decide) (Nat.le_trans (by decide) hd)) (Nat.zero_le _) (Nat.zero_le _) dX12_readsClause_118 (fun v τ n' hv => ?_)
        obtain ⟨rfl, rfl, rfl⟩ := hv
        show Ev E (xcm E d 0 0 QQ) Y_X12_readsClause 121 [(0, .ref (E.2.2.2 + iM)), (1, .int q1)] [.int q9.1] (xσ q9.2 R) n 0 0
        refine ev_if_ne (tgt := 126) dX12_readsClause_121 (by decide) (fun c121 => ?_) (fun c121 => ?_)
        · replace h := xif_f c121 h
          refine ev_aload_n 0 dX12_readsClause_126 rfl rfl ?_
          refine xv_getF (a := iM_saidTo) cl_12 lk_RX12_48 kd_61 (xl hF rfl) (fun _ => rfl) (fr_61_26 hF) dX12_readsClause_127 ?_
          refine ev_aload_n 0 dX12_readsClause_130 rfl rfl ?_
          refine xv_getI cl_12 lk_RX12_287 kd_61 (xl hF rfl) (fun _ => rfl) dX12_readsClause_131 ?_
          refine ev_aload_n 0 dX12_readsClause_134 rfl rfl ?_
          refine xv_getI cl_12 lk_RX12_233 kd_61 (xl hF rfl) (fun _ => rfl) dX12_readsClause_135 ?_
          obtain ⟨μ10, hμ10, h⟩ := xbd_some h
          refine xv_iast kd_74 (xl hF rfl) hμ10 dX12_readsClause_138 ?_
          refine ev_aload_n 0 dX12_readsClause_139 rfl rfl ?_
          refine ev_aload_n 0 dX12_readsClause_140 rfl rfl ?_
          refine xv_getI cl_12 lk_RX12_287 kd_61 (xl hF rfl) (fun _ => rfl) dX12_readsClause_141 ?_
          refine ev_iconst (v := 1) dX12_readsClause_144 (by decide) ?_
          refine ev_iadd dX12_readsClause_145 ?_
          obtain ⟨μ11, hμ11, h⟩ := xlt_some h
          refine xv_putI cl_12 lk_RX12_287 rfl kd_61 (xl hF rfl) rfl rfl (fun _ => rfl) hμ11 dX12_readsClause_146 ?_
          refine ev_iconst (v := 1) dX12_readsClause_149 (by decide) ?_
          cases h
          exact ev_zret rfl (Or.inr rfl) (hQ) dX12_readsClause_150 (Nat.zero_le _) (Nat.zero_le _)
        · replace h := xif_t c121 h
          refine ev_iconst (v := 0) dX12_readsClause_124 (by decide) ?_
          cases h
          exact ev_zret rfl (Or.inl rfl) (hQ) dX12_readsClause_125 (Nat.zero_le _) (Nat.zero_le _)
      · replace h := xif_t c99 h
        refine ev_iconst (v := 0) dX12_readsClause_102 (by decide) ?_
        cases h
        exact ev_zret rfl (Or.inl rfl) (hQ) dX12_readsClause_103 (Nat.zero_le _) (Nat.zero_le _)
    · replace h := xif_t c39 h
      refine ev_aload_n 0 dX12_readsClause_42 rfl rfl ?_
      refine ev_iconst (v := 4) dX12_readsClause_43 (by decide) ?_
      refine ev_aload_n 0 dX12_readsClause_44 rfl rfl ?_
      refine xv_getI cl_12 lk_RX12_210 kd_61 (xl hF rfl) (fun _ => rfl) dX12_readsClause_45 ?_
      obtain ⟨q12, hq12, h⟩ := xbd_some h
      refine ev_callV (ci := 12) (rest := []) 2 (kX12_wrongAt (E := E) (d := 0) (QQ := (fun v τ n' => v = some (.int q12.1) ∧ τ = xσ q12.2 R ∧ n = n')) (Nat.le_refl _) hF hq12 (⟨rfl, rfl, rfl⟩)) my_X12_wrongAt ⟨m_1538, m_1540, m_52⟩ cl_12 kd_61 (xl hF rfl) rfl rfl (Nat.le_of_ble_eq_true rfl) (Nat.le_trans (by decide) hd) (xlo (by decide) (Nat.le_trans (by decide) hd)) (Nat.zero_le _) (Nat.zero_le _) dX12_readsClause_48 (fun v τ n' hv => ?_)
      obtain ⟨rfl, rfl, rfl⟩ := hv
      show Ev E (xcm E d 0 0 QQ) Y_X12_readsClause 51 [(0, .ref (E.2.2.2 + iM)), (1, .int q1)] [.int q12.1] (xσ q12.2 R) n 0 0
      obtain ⟨z13, hz13, h⟩ := xbd_some h
      obtain ⟨hzz13, hez13⟩ := xz_some hz13
      rw [hez13]
      cases h
      exact ev_zret rfl hzz13 (hQ) dX12_readsClause_51 (Nat.zero_le _) (Nat.zero_le _)
  refine ev_icmp_eq (tgt := 33) dX12_readsClause_8 (by decide) (fun c8 => ?_) (fun c8 => ?_)
  · replace h := xif_t c8 h
    exact ev_sub [1, 0] rfl (j33 h)
  · replace h := xif_f c8 h
    refine ev_iload_n 0 dX12_readsClause_11 rfl rfl ?_
    refine ev_bipush (v := 112) dX12_readsClause_12 (by decide) ?_
    refine ev_icmp_eq (tgt := 33) dX12_readsClause_14 (by decide) (fun c14 => ?_) (fun c14 => ?_)
    · replace h := xif_t c14 h
      exact ev_sub [1, 0] rfl (j33 h)
    · replace h := xif_f c14 h
      refine ev_iload_n 0 dX12_readsClause_17 rfl rfl ?_
      refine ev_bipush (v := 108) dX12_readsClause_18 (by decide) ?_
      refine ev_icmp_eq (tgt := 33) dX12_readsClause_20 (by decide) (fun c20 => ?_) (fun c20 => ?_)
      · replace h := xif_t c20 h
        exact ev_sub [1, 0] rfl (j33 h)
      · replace h := xif_f c20 h
        refine ev_aload_n 1 dX12_readsClause_23 rfl rfl ?_
        refine ev_iconst (v := 1) dX12_readsClause_24 (by decide) ?_
        refine ev_aload_n 1 dX12_readsClause_25 rfl rfl ?_
        refine xv_getI cl_12 lk_RX12_210 kd_61 (xl hF rfl) (fun _ => rfl) dX12_readsClause_26 ?_
        obtain ⟨q14, hq14, h⟩ := xbd_some h
        refine ev_callV (ci := 12) (rest := []) 2 (kX12_wrongAt (E := E) (d := 0) (QQ := (fun v τ n' => v = some (.int q14.1) ∧ τ = xσ q14.2 R ∧ n = n')) (Nat.le_refl _) hF hq14 (⟨rfl, rfl, rfl⟩)) my_X12_wrongAt ⟨m_1538, m_1540, m_52⟩ cl_12 kd_61 (xl hF rfl) rfl rfl (Nat.le_of_ble_eq_true rfl) (Nat.le_trans (by decide) hd) (xlo (by decide) (Nat.le_trans (by decide) hd)) (Nat.zero_le _) (Nat.zero_le _) dX12_readsClause_29 (fun v τ n' hv => ?_)
        obtain ⟨rfl, rfl, rfl⟩ := hv
        show Ev E (xcm E d 0 0 QQ) Y_X12_readsClause 32 [(1, .int q1), (0, .ref (E.2.2.2 + iM))] [.int q14.1] (xσ q14.2 R) n 0 0
        obtain ⟨z15, hz15, h⟩ := xbd_some h
        obtain ⟨hzz15, hez15⟩ := xz_some hz15
        rw [hez15]
        cases h
        exact ev_zret rfl hzz15 (hQ) dX12_readsClause_32 (Nat.zero_le _) (Nat.zero_le _)
def fX12_chain (p0 : Int32) (p1 : Int32) (p2 : Int32) (p3 : Int32) (μ : xm) : Option (Int32 × xm) := xbd (fX12_areTwo p0 p1 p2 μ) fun q1 => if q1 = 0 then (some ((-1), μ)) else (xbd (fX12_chains p0 p1 p2 μ) fun q2 => if p3 = 0 then (some (q2.1 iM 34, q2)) else (xbd (fX12_in p3 10 19) fun q3 => if q3 = 0 then (xbd (fX12_in p3 20 (19 + (q2.1 iM 34))) fun q4 => if q4 = 0 then (some ((-1), q2)) else (xbd (xgI q2 iM_chainMinutes 24 (p3 - 20)) fun v5 => some (v5, q2))) else (if (q2.1 iM 34) ≤ (p3 - 10) then (some ((-1), q2)) else (xbd (xgI q2 iM_chainWho 24 (p3 - 10)) fun v6 => some (v6, q2)))))
set_option maxHeartbeats 4000000 in
set_option maxRecDepth 100000 in
theorem kX12_chain {E : xE} {d : Nat} {QQ : xP} (hd : 8 ≤ d) {p0 : Int32} {p1 : Int32} {p2 : Int32} {p3 : Int32} {μ : xm} {R : xr} {n : Nat} (hF : xFin R n)  {res : Int32 × xm} (h : fX12_chain p0 p1 p2 p3 μ = some res) (hQ : QQ (some (.int res.1)) (xσ res.2 R) n) : xCon E d Y_X12_chain 0 0 [.ref (E.2.2.2 + iM), .int p0, .int p1, .int p2, .int p3] (xσ μ R) n QQ := by
  refine xCon_of pn_RX12 (Nat.le_of_ble_eq_true rfl) (L0 := [(0, .ref (E.2.2.2 + iM)), (1, .int p0), (2, .int p1), (3, .int p2), (4, .int p3)]) rfl ?_
  unfold fX12_chain at h
  refine ev_aload_n 0 dX12_chain_0 rfl rfl ?_
  refine ev_iload_n 1 dX12_chain_1 rfl rfl ?_
  refine ev_iload_n 2 dX12_chain_2 rfl rfl ?_
  refine ev_iload_n 3 dX12_chain_3 rfl rfl ?_
  obtain ⟨q1, hq1, h⟩ := xbd_some h
  refine ev_callV (ci := 12) (rest := []) 3 (kX12_areTwo (E := E) (d := 3) (QQ := (fun v τ n' => v = some (.int q1) ∧ τ = xσ μ R ∧ n = n')) (Nat.le_refl _) hF hq1 (⟨rfl, rfl, rfl⟩)) my_X12_areTwo ⟨m_1613, m_1615, m_68⟩ cl_12 kd_61 (xl hF rfl) rfl rfl (Nat.le_of_ble_eq_true rfl) (Nat.le_trans (by decide) hd) (xlo (by decide) (Nat.le_trans (by decide) hd)) (Nat.zero_le _) (Nat.zero_le _) dX12_chain_4 (fun v τ n' hv => ?_)
  obtain ⟨rfl, rfl, rfl⟩ := hv
  show Ev E (xcm E d 0 0 QQ) Y_X12_chain 7 [(0, .ref (E.2.2.2 + iM)), (1, .int p0), (2, .int p1), (3, .int p2), (4, .int p3)] [.int q1] (xσ μ R) n 0 0
  refine ev_if_ne (tgt := 12) dX12_chain_7 (by decide) (fun c7 => ?_) (fun c7 => ?_)
  · replace h := xif_f c7 h
    refine ev_aload_n 0 dX12_chain_12 rfl rfl ?_
    refine ev_iload_n 1 dX12_chain_13 rfl rfl ?_
    refine ev_iload_n 2 dX12_chain_14 rfl rfl ?_
    refine ev_iload_n 3 dX12_chain_15 rfl rfl ?_
    obtain ⟨q2, hq2, h⟩ := xbd_some h
    refine ev_callV (ci := 12) (rest := []) 3 (kX12_chains (E := E) (d := 7) (QQ := (fun v τ n' => v = none ∧ τ = xσ q2 R ∧ n = n')) (Nat.le_refl _) hF hq2 (⟨rfl, rfl, rfl⟩)) my_X12_chains ⟨m_1640, m_1642, m_73⟩ cl_12 kd_61 (xl hF rfl) rfl rfl (Nat.le_of_ble_eq_true rfl) (Nat.le_trans (by decide) hd) (xlo (by decide) (Nat.le_trans (by decide) hd)) (Nat.zero_le _) (Nat.zero_le _) dX12_chain_16 (fun v τ n' hv => ?_)
    obtain ⟨rfl, rfl, rfl⟩ := hv
    show Ev E (xcm E d 0 0 QQ) Y_X12_chain 19 [(0, .ref (E.2.2.2 + iM)), (1, .int p0), (2, .int p1), (3, .int p2), (4, .int p3)] [] (xσ q2 R) n 0 0
    refine ev_iload 4 dX12_chain_19 rfl ?_
    refine ev_if_ne (tgt := 29) dX12_chain_21 (by decide) (fun c21 => ?_) (fun c21 => ?_)
    · replace h := xif_f c21 h
      refine ev_iload 4 dX12_chain_29 rfl ?_
      refine ev_bipush (v := 10) dX12_chain_31 (by decide) ?_
      refine ev_bipush (v := 19) dX12_chain_33 (by decide) ?_
      obtain ⟨q3, hq3, h⟩ := xbd_some h
      refine ev_callS (As := [.int p3, .int 10, .int 19]) (rest := []) 3 (kX12_in (E := E) (d := 0) (QQ := (fun v τ n' => v = some (.int q3) ∧ τ = xσ q2 R ∧ n = n')) (Nat.le_refl _)  hq3 (⟨rfl, rfl, rfl⟩)) my_X12_in ⟨m_1449, m_1450⟩ rfl rfl (Nat.le_of_ble_eq_true rfl) (Nat.le_trans (by decide) hd) (xlo (by decide) (Nat.le_trans (by decide) hd)) (Nat.zero_le _) (Nat.zero_le _) dX12_chain_35 (fun v τ n' hv => ?_)
      obtain ⟨rfl, rfl, rfl⟩ := hv
      show Ev E (xcm E d 0 0 QQ) Y_X12_chain 38 [(0, .ref (E.2.2.2 + iM)), (1, .int p0), (2, .int p1), (3, .int p2), (4, .int p3)] [.int q3] (xσ q2 R) n 0 0
      refine ev_if_eq (tgt := 68) dX12_chain_38 (by decide) (fun c38 => ?_) (fun c38 => ?_)
      · replace h := xif_t c38 h
        refine ev_iload 4 dX12_chain_68 rfl ?_
        refine ev_bipush (v := 20) dX12_chain_70 (by decide) ?_
        refine ev_bipush (v := 19) dX12_chain_72 (by decide) ?_
        refine ev_aload_n 0 dX12_chain_74 rfl rfl ?_
        refine xv_getI cl_12 lk_RX12_322 kd_61 (xl hF rfl) (fun _ => rfl) dX12_chain_75 ?_
        refine ev_iadd dX12_chain_78 ?_
        obtain ⟨q4, hq4, h⟩ := xbd_some h
        refine ev_callS (As := [.int p3, .int 20, .int (19 + (q2.1 iM 34))]) (rest := []) 3 (kX12_in (E := E) (d := 0) (QQ := (fun v τ n' => v = some (.int q4) ∧ τ = xσ q2 R ∧ n = n')) (Nat.le_refl _)  hq4 (⟨rfl, rfl, rfl⟩)) my_X12_in ⟨m_1449, m_1450⟩ rfl rfl (Nat.le_of_ble_eq_true rfl) (Nat.le_trans (by decide) hd) (xlo (by decide) (Nat.le_trans (by decide) hd)) (Nat.zero_le _) (Nat.zero_le _) dX12_chain_79 (fun v τ n' hv => ?_)
        obtain ⟨rfl, rfl, rfl⟩ := hv
        show Ev E (xcm E d 0 0 QQ) Y_X12_chain 82 [(0, .ref (E.2.2.2 + iM)), (1, .int p0), (2, .int p1), (3, .int p2), (4, .int p3)] [.int q4] (xσ q2 R) n 0 0
        refine ev_if_eq (tgt := 98) dX12_chain_82 (by decide) (fun c82 => ?_) (fun c82 => ?_)
        · replace h := xif_t c82 h
          refine ev_iconst (v := (-1)) dX12_chain_98 (by decide) ?_
          cases h
          exact ev_iret rfl (hQ) dX12_chain_99 (Nat.zero_le _) (Nat.zero_le _)
        · replace h := xif_f c82 h
          refine ev_aload_n 0 dX12_chain_85 rfl rfl ?_
          refine xv_getF (a := iM_chainMinutes) cl_12 lk_RX12_75 kd_61 (xl hF rfl) (fun _ => rfl) (fr_61_36 hF) dX12_chain_86 ?_
          refine ev_iload 4 dX12_chain_89 rfl ?_
          refine ev_bipush (v := 20) dX12_chain_91 (by decide) ?_
          refine ev_isub dX12_chain_93 ?_
          obtain ⟨v5, hv5, h⟩ := xbd_some h
          refine xv_iald kd_83 (xl hF rfl) hv5 dX12_chain_94 ?_
          refine ev_goto (tgt := 99) dX12_chain_95 (by decide) ?_
          cases h
          exact ev_iret rfl (hQ) dX12_chain_99 (Nat.zero_le _) (Nat.zero_le _)
      · replace h := xif_f c38 h
        refine ev_iload 4 dX12_chain_41 rfl ?_
        refine ev_bipush (v := 10) dX12_chain_43 (by decide) ?_
        refine ev_isub dX12_chain_45 ?_
        refine ev_aload_n 0 dX12_chain_46 rfl rfl ?_
        refine xv_getI cl_12 lk_RX12_322 kd_61 (xl hF rfl) (fun _ => rfl) dX12_chain_47 ?_
        refine ev_icmp_ge (tgt := 66) dX12_chain_50 (by decide) (fun c50 => ?_) (fun c50 => ?_)
        · replace h := xif_t c50 h
          refine ev_iconst (v := (-1)) dX12_chain_66 (by decide) ?_
          cases h
          exact ev_iret rfl (hQ) dX12_chain_67 (Nat.zero_le _) (Nat.zero_le _)
        · replace h := xif_f c50 h
          refine ev_aload_n 0 dX12_chain_53 rfl rfl ?_
          refine xv_getF (a := iM_chainWho) cl_12 lk_RX12_72 kd_61 (xl hF rfl) (fun _ => rfl) (fr_61_35 hF) dX12_chain_54 ?_
          refine ev_iload 4 dX12_chain_57 rfl ?_
          refine ev_bipush (v := 10) dX12_chain_59 (by decide) ?_
          refine ev_isub dX12_chain_61 ?_
          obtain ⟨v6, hv6, h⟩ := xbd_some h
          refine xv_iald kd_82 (xl hF rfl) hv6 dX12_chain_62 ?_
          refine ev_goto (tgt := 67) dX12_chain_63 (by decide) ?_
          cases h
          exact ev_iret rfl (hQ) dX12_chain_67 (Nat.zero_le _) (Nat.zero_le _)
    · replace h := xif_t c21 h
      refine ev_aload_n 0 dX12_chain_24 rfl rfl ?_
      refine xv_getI cl_12 lk_RX12_322 kd_61 (xl hF rfl) (fun _ => rfl) dX12_chain_25 ?_
      cases h
      exact ev_iret rfl (hQ) dX12_chain_28 (Nat.zero_le _) (Nat.zero_le _)
  · replace h := xif_t c7 h
    refine ev_iconst (v := (-1)) dX12_chain_10 (by decide) ?_
    cases h
    exact ev_iret rfl (hQ) dX12_chain_11 (Nat.zero_le _) (Nat.zero_le _)
def fX12_goesOver_b61 (x12 : Int32) (x13 : Int32) (μ14 : xm) (p1 : Int32) (x6 : Int32) (q10 : (Int32 × xm)) : Option ((Int32 × Int32 × xm) ⊕ (Int32 × xm)) := if (μ14.1 iM 34) ≤ x13 then (some (.inr (x12, μ14))) else (xbd (xgI μ14 iM_chainMinutes 24 x13) fun v16 => if v16 = 0 then (xlt (x13 + 1) fun x17 => some (.inl (x12, x17, μ14))) else (xbd (xgI μ14 iM_chainWho 24 x13) fun v18 => if v18 = x6 then (xlt (x13 + 1) fun x27 => some (.inl (x12, x27, μ14))) else (xlt (x12 + 1) fun x19 => if p1 = 0 then (xlt (x13 + 1) fun x20 => some (.inl (x19, x20, μ14))) else (xbd (xgI μ14 iM_chainWho 24 x13) fun v21 => xbd (xgI μ14 iM_chainMinutes 24 x13) fun v22 => if q10.1 = 0 then (xbd (fX12_makes v21 x6 v22 (μ14.1 iM 0) (-1) μ14) fun q25 => xlt (x13 + 1) fun x26 => some (.inl (x19, x26, q25))) else (xbd (fX12_makes v21 x6 v22 (μ14.1 iM 0) ((μ14.1 iM 0) + q10.1) μ14) fun q23 => xlt (x13 + 1) fun x24 => some (.inl (x19, x24, q23)))))))
def fX12_goesOver_b15 (x5 : Int32) (x6 : Int32) (μ7 : xm) (p0 : Int32) (p1 : Int32) (x2 : Int32) : Option ((Int32 × Int32 × xm) ⊕ (Int32 × xm)) := if 8 ≤ x6 then (some (.inr (x5, μ7))) else (xbd (fX12_areTwo p0 x2 x6 μ7) fun q9 => if q9 = 0 then (xlt (x6 + 1) fun x30 => some (.inl (x5, x30, μ7))) else (xbd (fX12_owesBy p0 x2 x6 2 μ7) fun q10 => xbd (fX12_chains p0 x2 x6 q10.2) fun q11 => xbd (xloop xfu (fun v => fX12_goesOver_b61 v.1 v.2.1 v.2.2 p1 x6 q10) (x5, 0, q11)) fun q28 => xlt (x6 + 1) fun x29 => some (.inl (q28.1, x29, q28.2))))
def fX12_goesOver_b5 (x1 : Int32) (x2 : Int32) (μ3 : xm) (p0 : Int32) (p1 : Int32) : Option ((Int32 × Int32 × xm) ⊕ (Int32 × xm)) := if 8 ≤ x2 then (some (.inr (x1, μ3))) else (xbd (xloop xfu (fun v => fX12_goesOver_b15 v.1 v.2.1 v.2.2 p0 p1 x2) (x1, 0, μ3)) fun q31 => xlt (x2 + 1) fun x32 => some (.inl (q31.1, x32, q31.2)))
def fX12_goesOver (p0 : Int32) (p1 : Int32) (μ : xm) : Option (Int32 × xm) := xbd (xloop xfu (fun v => fX12_goesOver_b5 v.1 v.2.1 v.2.2 p0 p1) (0, 0, μ)) fun q33 => some (q33.1, q33.2)
set_option maxHeartbeats 4000000 in
set_option maxRecDepth 100000 in
theorem kX12_goesOver {E : xE} {d : Nat} {QQ : xP} (hd : 8 ≤ d) {p0 : Int32} {p1 : Int32} {μ : xm} {R : xr} {n : Nat} (hF : xFin R n)  {res : Int32 × xm} (h : fX12_goesOver p0 p1 μ = some res) (hQ : QQ (some (.int res.1)) (xσ res.2 R) n) : xCon E d Y_X12_goesOver 0 0 [.ref (E.2.2.2 + iM), .int p0, .int p1] (xσ μ R) n QQ := by
  refine xCon_of pn_RX12 (Nat.le_of_ble_eq_true rfl) (L0 := [(0, .ref (E.2.2.2 + iM)), (1, .int p0), (2, .int p1)]) rfl ?_
  unfold fX12_goesOver at h
  refine ev_iconst (v := 0) dX12_goesOver_0 (by decide) ?_
  refine xv_istore_n (L' := [(3, .int 0), (0, .ref (E.2.2.2 + iM)), (1, .int p0), (2, .int p1)]) rfl dX12_goesOver_1 rfl (Nat.le_of_ble_eq_true rfl) rfl ?_
  refine ev_iconst (v := 0) dX12_goesOver_2 (by decide) ?_
  refine xv_istore (L' := [(4, .int 0), (3, .int 0), (0, .ref (E.2.2.2 + iM)), (1, .int p0), (2, .int p1)]) rfl dX12_goesOver_3 (Nat.le_of_ble_eq_true rfl) rfl ?_
  obtain ⟨q33, hq33, h⟩ := xbd_some h
  refine ev_sub (L' := [(0, .ref (E.2.2.2 + iM)), (1, .int p0), (2, .int p1), (3, .int 0), (4, .int 0)]) [2, 3, 4, 1, 0] rfl ?_
  refine xloop_run (fun v => Ev E (xcm E d 0 0 QQ) Y_X12_goesOver 5 [(0, .ref (E.2.2.2 + iM)), (1, .int p0), (2, .int p1), (3, .int v.1), (4, .int v.2.1)] [] (xσ v.2.2 R) n 0 0) (fun v => Ev E (xcm E d 0 0 QQ) Y_X12_goesOver 161 [(3, .int v.1)] [] (xσ v.2 R) n 0 0) ?_ _ _ _ hq33 ?_
  · rintro ⟨x1, x2, μ3⟩ y4 h hk
    replace h : fX12_goesOver_b5 x1 x2 μ3 p0 p1 = some y4 := h
    show Ev E (xcm E d 0 0 QQ) Y_X12_goesOver 5 [(0, .ref (E.2.2.2 + iM)), (1, .int p0), (2, .int p1), (3, .int x1), (4, .int x2)] [] (xσ μ3 R) n 0 0
    unfold fX12_goesOver_b5 at h
    refine ev_iload 4 dX12_goesOver_5 rfl ?_
    refine ev_bipush (v := 8) dX12_goesOver_7 (by decide) ?_
    refine ev_icmp_ge (tgt := 161) dX12_goesOver_9 (by decide) (fun c9 => ?_) (fun c9 => ?_)
    · replace h := xif_t c9 h
      cases h
      replace hk := xel_r hk
      exact ev_sub [3] rfl (hk)
    · replace h := xif_f c9 h
      refine ev_iconst (v := 0) dX12_goesOver_12 (by decide) ?_
      refine xv_istore (L' := [(5, .int 0), (0, .ref (E.2.2.2 + iM)), (1, .int p0), (2, .int p1), (3, .int x1), (4, .int x2)]) rfl dX12_goesOver_13 (Nat.le_of_ble_eq_true rfl) rfl ?_
      obtain ⟨q31, hq31, h⟩ := xbd_some h
      refine ev_sub (L' := [(0, .ref (E.2.2.2 + iM)), (1, .int p0), (2, .int p1), (3, .int x1), (4, .int x2), (5, .int 0)]) [1, 2, 3, 4, 5, 0] rfl ?_
      refine xloop_run (fun v => Ev E (xcm E d 0 0 QQ) Y_X12_goesOver 15 [(0, .ref (E.2.2.2 + iM)), (1, .int p0), (2, .int p1), (3, .int v.1), (4, .int x2), (5, .int v.2.1)] [] (xσ v.2.2 R) n 0 0) (fun v => Ev E (xcm E d 0 0 QQ) Y_X12_goesOver 155 [(0, .ref (E.2.2.2 + iM)), (1, .int p0), (2, .int p1), (3, .int v.1), (4, .int x2)] [] (xσ v.2 R) n 0 0) ?_ _ _ _ hq31 ?_
      · rintro ⟨x5, x6, μ7⟩ y8 h hk
        replace h : fX12_goesOver_b15 x5 x6 μ7 p0 p1 x2 = some y8 := h
        show Ev E (xcm E d 0 0 QQ) Y_X12_goesOver 15 [(0, .ref (E.2.2.2 + iM)), (1, .int p0), (2, .int p1), (3, .int x5), (4, .int x2), (5, .int x6)] [] (xσ μ7 R) n 0 0
        unfold fX12_goesOver_b15 at h
        refine ev_iload 5 dX12_goesOver_15 rfl ?_
        refine ev_bipush (v := 8) dX12_goesOver_17 (by decide) ?_
        refine ev_icmp_ge (tgt := 155) dX12_goesOver_19 (by decide) (fun c19 => ?_) (fun c19 => ?_)
        · replace h := xif_t c19 h
          cases h
          replace hk := xel_r hk
          exact ev_sub [0, 1, 2, 3, 4] rfl (hk)
        · replace h := xif_f c19 h
          refine ev_aload_n 0 dX12_goesOver_22 rfl rfl ?_
          refine ev_iload_n 1 dX12_goesOver_23 rfl rfl ?_
          refine ev_iload 4 dX12_goesOver_24 rfl ?_
          refine ev_iload 5 dX12_goesOver_26 rfl ?_
          obtain ⟨q9, hq9, h⟩ := xbd_some h
          refine ev_callV (ci := 12) (rest := []) 3 (kX12_areTwo (E := E) (d := 3) (QQ := (fun v τ n' => v = some (.int q9) ∧ τ = xσ μ7 R ∧ n = n')) (Nat.le_refl _) hF hq9 (⟨rfl, rfl, rfl⟩)) my_X12_areTwo ⟨m_1613, m_1615, m_68⟩ cl_12 kd_61 (xl hF rfl) rfl rfl (Nat.le_of_ble_eq_true rfl) (Nat.le_trans (by decide) hd) (xlo (by decide) (Nat.le_trans (by decide) hd)) (Nat.zero_le _) (Nat.zero_le _) dX12_goesOver_28 (fun v τ n' hv => ?_)
          obtain ⟨rfl, rfl, rfl⟩ := hv
          show Ev E (xcm E d 0 0 QQ) Y_X12_goesOver 31 [(0, .ref (E.2.2.2 + iM)), (1, .int p0), (2, .int p1), (3, .int x5), (4, .int x2), (5, .int x6)] [.int q9] (xσ μ7 R) n 0 0
          refine ev_if_ne (tgt := 37) dX12_goesOver_31 (by decide) (fun c31 => ?_) (fun c31 => ?_)
          · replace h := xif_f c31 h
            refine ev_aload_n 0 dX12_goesOver_37 rfl rfl ?_
            refine ev_iload_n 1 dX12_goesOver_38 rfl rfl ?_
            refine ev_iload 4 dX12_goesOver_39 rfl ?_
            refine ev_iload 5 dX12_goesOver_41 rfl ?_
            refine ev_iconst (v := 2) dX12_goesOver_43 (by decide) ?_
            obtain ⟨q10, hq10, h⟩ := xbd_some h
            refine ev_callV (ci := 12) (rest := []) 4 (kX12_owesBy (E := E) (d := 6) (QQ := (fun v τ n' => v = some (.int q10.1) ∧ τ = xσ q10.2 R ∧ n = n')) (Nat.le_refl _) hF hq10 (⟨rfl, rfl, rfl⟩)) my_X12_owesBy ⟨m_1617, m_1619, m_69⟩ cl_12 kd_61 (xl hF rfl) rfl rfl (Nat.le_of_ble_eq_true rfl) (Nat.le_trans (by decide) hd) (xlo (by decide) (Nat.le_trans (by decide) hd)) (Nat.zero_le _) (Nat.zero_le _) dX12_goesOver_44 (fun v τ n' hv => ?_)
            obtain ⟨rfl, rfl, rfl⟩ := hv
            show Ev E (xcm E d 0 0 QQ) Y_X12_goesOver 47 [(0, .ref (E.2.2.2 + iM)), (1, .int p0), (2, .int p1), (3, .int x5), (4, .int x2), (5, .int x6)] [.int q10.1] (xσ q10.2 R) n 0 0
            refine xv_istore (L' := [(6, .int q10.1), (0, .ref (E.2.2.2 + iM)), (1, .int p0), (2, .int p1), (3, .int x5), (4, .int x2), (5, .int x6)]) rfl dX12_goesOver_47 (Nat.le_of_ble_eq_true rfl) rfl ?_
            refine ev_aload_n 1 dX12_goesOver_49 rfl rfl ?_
            refine ev_iload_n 2 dX12_goesOver_50 rfl rfl ?_
            refine ev_iload 5 dX12_goesOver_51 rfl ?_
            refine ev_iload 6 dX12_goesOver_53 rfl ?_
            obtain ⟨q11, hq11, h⟩ := xbd_some h
            refine ev_callV (ci := 12) (rest := []) 3 (kX12_chains (E := E) (d := 7) (QQ := (fun v τ n' => v = none ∧ τ = xσ q11 R ∧ n = n')) (Nat.le_refl _) hF hq11 (⟨rfl, rfl, rfl⟩)) my_X12_chains ⟨m_1640, m_1642, m_73⟩ cl_12 kd_61 (xl hF rfl) rfl rfl (Nat.le_of_ble_eq_true rfl) (Nat.le_trans (by decide) hd) (xlo (by decide) (Nat.le_trans (by decide) hd)) (Nat.zero_le _) (Nat.zero_le _) dX12_goesOver_55 (fun v τ n' hv => ?_)
            obtain ⟨rfl, rfl, rfl⟩ := hv
            show Ev E (xcm E d 0 0 QQ) Y_X12_goesOver 58 [(6, .int q10.1), (0, .ref (E.2.2.2 + iM)), (1, .int p0), (2, .int p1), (3, .int x5), (4, .int x2), (5, .int x6)] [] (xσ q11 R) n 0 0
            refine ev_iconst (v := 0) dX12_goesOver_58 (by decide) ?_
            refine xv_istore (L' := [(7, .int 0), (6, .int q10.1), (0, .ref (E.2.2.2 + iM)), (1, .int p0), (2, .int p1), (3, .int x5), (4, .int x2), (5, .int x6)]) rfl dX12_goesOver_59 (Nat.le_of_ble_eq_true rfl) rfl ?_
            obtain ⟨q28, hq28, h⟩ := xbd_some h
            refine ev_sub (L' := [(0, .ref (E.2.2.2 + iM)), (1, .int p0), (2, .int p1), (3, .int x5), (4, .int x2), (5, .int x6), (6, .int q10.1), (7, .int 0)]) [2, 3, 4, 5, 6, 7, 1, 0] rfl ?_
            refine xloop_run (fun v => Ev E (xcm E d 0 0 QQ) Y_X12_goesOver 61 [(0, .ref (E.2.2.2 + iM)), (1, .int p0), (2, .int p1), (3, .int v.1), (4, .int x2), (5, .int x6), (6, .int q10.1), (7, .int v.2.1)] [] (xσ v.2.2 R) n 0 0) (fun v => Ev E (xcm E d 0 0 QQ) Y_X12_goesOver 149 [(0, .ref (E.2.2.2 + iM)), (1, .int p0), (2, .int p1), (3, .int v.1), (4, .int x2), (5, .int x6)] [] (xσ v.2 R) n 0 0) ?_ _ _ _ hq28 ?_
            · rintro ⟨x12, x13, μ14⟩ y15 h hk
              replace h : fX12_goesOver_b61 x12 x13 μ14 p1 x6 q10 = some y15 := h
              show Ev E (xcm E d 0 0 QQ) Y_X12_goesOver 61 [(0, .ref (E.2.2.2 + iM)), (1, .int p0), (2, .int p1), (3, .int x12), (4, .int x2), (5, .int x6), (6, .int q10.1), (7, .int x13)] [] (xσ μ14 R) n 0 0
              unfold fX12_goesOver_b61 at h
              refine ev_iload 7 dX12_goesOver_61 rfl ?_
              refine ev_aload_n 0 dX12_goesOver_63 rfl rfl ?_
              refine xv_getI cl_12 lk_RX12_322 kd_61 (xl hF rfl) (fun _ => rfl) dX12_goesOver_64 ?_
              refine ev_icmp_ge (tgt := 149) dX12_goesOver_67 (by decide) (fun c67 => ?_) (fun c67 => ?_)
              · replace h := xif_t c67 h
                cases h
                replace hk := xel_r hk
                exact ev_sub [0, 1, 2, 3, 4, 5] rfl (hk)
              · replace h := xif_f c67 h
                refine ev_aload_n 0 dX12_goesOver_70 rfl rfl ?_
                refine xv_getF (a := iM_chainMinutes) cl_12 lk_RX12_75 kd_61 (xl hF rfl) (fun _ => rfl) (fr_61_36 hF) dX12_goesOver_71 ?_
                refine ev_iload 7 dX12_goesOver_74 rfl ?_
                obtain ⟨v16, hv16, h⟩ := xbd_some h
                refine xv_iald kd_83 (xl hF rfl) hv16 dX12_goesOver_76 ?_
                refine ev_if_eq (tgt := 143) dX12_goesOver_77 (by decide) (fun c77 => ?_) (fun c77 => ?_)
                · replace h := xif_t c77 h
                  obtain ⟨x17, hx17, h⟩ := xlt_some h
                  refine ev_iinc (L' := [(7, .int x17), (0, .ref (E.2.2.2 + iM)), (1, .int p0), (2, .int p1), (3, .int x12), (4, .int x2), (5, .int x6), (6, .int q10.1)]) 7 dX12_goesOver_143 rfl ((by rfl : x13 + Int32.ofInt 1 = x13 + 1).trans hx17) (Nat.le_of_ble_eq_true rfl) rfl ?_
                  refine ev_goto (tgt := 61) dX12_goesOver_146 (by decide) ?_
                  cases h
                  replace hk := xel_l hk
                  exact ev_sub [1, 2, 3, 4, 5, 6, 7, 0] rfl (hk)
                · replace h := xif_f c77 h
                  refine ev_aload_n 0 dX12_goesOver_80 rfl rfl ?_
                  refine xv_getF (a := iM_chainWho) cl_12 lk_RX12_72 kd_61 (xl hF rfl) (fun _ => rfl) (fr_61_35 hF) dX12_goesOver_81 ?_
                  refine ev_iload 7 dX12_goesOver_84 rfl ?_
                  obtain ⟨v18, hv18, h⟩ := xbd_some h
                  refine xv_iald kd_82 (xl hF rfl) hv18 dX12_goesOver_86 ?_
                  refine ev_iload 5 dX12_goesOver_87 rfl ?_
                  refine ev_icmp_ne (tgt := 95) dX12_goesOver_89 (by decide) (fun c89 => ?_) (fun c89 => ?_)
                  · replace h := xif_f c89 h
                    refine ev_iload_n 3 dX12_goesOver_95 rfl rfl ?_
                    refine ev_iconst (v := 1) dX12_goesOver_96 (by decide) ?_
                    refine ev_iadd dX12_goesOver_97 ?_
                    obtain ⟨x19, hx19, h⟩ := xlt_some h
                    refine xv_istore_n (L' := [(3, .int x19), (0, .ref (E.2.2.2 + iM)), (1, .int p0), (2, .int p1), (4, .int x2), (5, .int x6), (6, .int q10.1), (7, .int x13)]) hx19 dX12_goesOver_98 rfl (Nat.le_of_ble_eq_true rfl) rfl ?_
                    refine ev_iload_n 3 dX12_goesOver_99 rfl rfl ?_
                    refine ev_if_eq (tgt := 143) dX12_goesOver_100 (by decide) (fun c100 => ?_) (fun c100 => ?_)
                    · replace h := xif_t c100 h
                      obtain ⟨x20, hx20, h⟩ := xlt_some h
                      refine ev_iinc (L' := [(7, .int x20), (3, .int x19), (0, .ref (E.2.2.2 + iM)), (1, .int p0), (2, .int p1), (4, .int x2), (5, .int x6), (6, .int q10.1)]) 7 dX12_goesOver_143 rfl ((by rfl : x13 + Int32.ofInt 1 = x13 + 1).trans hx20) (Nat.le_of_ble_eq_true rfl) rfl ?_
                      refine ev_goto (tgt := 61) dX12_goesOver_146 (by decide) ?_
                      cases h
                      replace hk := xel_l hk
                      exact ev_sub [2, 3, 4, 1, 5, 6, 7, 0] rfl (hk)
                    · replace h := xif_f c100 h
                      refine ev_aload_n 1 dX12_goesOver_103 rfl rfl ?_
                      refine ev_aload_n 1 dX12_goesOver_104 rfl rfl ?_
                      refine xv_getF (a := iM_chainWho) cl_12 lk_RX12_72 kd_61 (xl hF rfl) (fun _ => rfl) (fr_61_35 hF) dX12_goesOver_105 ?_
                      refine ev_iload 7 dX12_goesOver_108 rfl ?_
                      obtain ⟨v21, hv21, h⟩ := xbd_some h
                      refine xv_iald kd_82 (xl hF rfl) hv21 dX12_goesOver_110 ?_
                      refine ev_iload 5 dX12_goesOver_111 rfl ?_
                      refine ev_aload_n 1 dX12_goesOver_113 rfl rfl ?_
                      refine xv_getF (a := iM_chainMinutes) cl_12 lk_RX12_75 kd_61 (xl hF rfl) (fun _ => rfl) (fr_61_36 hF) dX12_goesOver_114 ?_
                      refine ev_iload 7 dX12_goesOver_117 rfl ?_
                      obtain ⟨v22, hv22, h⟩ := xbd_some h
                      refine xv_iald kd_83 (xl hF rfl) hv22 dX12_goesOver_119 ?_
                      refine ev_aload_n 1 dX12_goesOver_120 rfl rfl ?_
                      refine xv_getI cl_12 lk_RX12_165 kd_61 (xl hF rfl) (fun _ => rfl) dX12_goesOver_121 ?_
                      refine ev_iload 6 dX12_goesOver_124 rfl ?_
                      refine ev_if_ne (tgt := 133) dX12_goesOver_126 (by decide) (fun c126 => ?_) (fun c126 => ?_)
                      · replace h := xif_f c126 h
                        refine ev_aload_n 1 dX12_goesOver_133 rfl rfl ?_
                        refine xv_getI cl_12 lk_RX12_165 kd_61 (xl hF rfl) (fun _ => rfl) dX12_goesOver_134 ?_
                        refine ev_iload 6 dX12_goesOver_137 rfl ?_
                        refine ev_iadd dX12_goesOver_139 ?_
                        obtain ⟨q23, hq23, h⟩ := xbd_some h
                        refine ev_callV (ci := 12) (rest := []) 5 (kX12_makes (E := E) (d := 0) (QQ := (fun v τ n' => v = none ∧ τ = xσ q23 R ∧ n = n')) (Nat.le_refl _) hF hq23 (⟨rfl, rfl, rfl⟩)) my_X12_makes ⟨m_1652, m_1654, m_75⟩ cl_12 kd_61 (xl hF rfl) rfl rfl (Nat.le_of_ble_eq_true rfl) (Nat.le_trans (by decide) hd) (xlo (by decide) (Nat.le_trans (by decide) hd)) (Nat.zero_le _) (Nat.zero_le _) dX12_goesOver_140 (fun v τ n' hv => ?_)
                        obtain ⟨rfl, rfl, rfl⟩ := hv
                        show Ev E (xcm E d 0 0 QQ) Y_X12_goesOver 143 [(3, .int x19), (0, .ref (E.2.2.2 + iM)), (1, .int p0), (2, .int p1), (4, .int x2), (5, .int x6), (6, .int q10.1), (7, .int x13)] [] (xσ q23 R) n 0 0
                        obtain ⟨x24, hx24, h⟩ := xlt_some h
                        refine ev_iinc (L' := [(7, .int x24), (3, .int x19), (0, .ref (E.2.2.2 + iM)), (1, .int p0), (2, .int p1), (4, .int x2), (5, .int x6), (6, .int q10.1)]) 7 dX12_goesOver_143 rfl ((by rfl : x13 + Int32.ofInt 1 = x13 + 1).trans hx24) (Nat.le_of_ble_eq_true rfl) rfl ?_
                        refine ev_goto (tgt := 61) dX12_goesOver_146 (by decide) ?_
                        cases h
                        replace hk := xel_l hk
                        exact ev_sub [2, 3, 4, 1, 5, 6, 7, 0] rfl (hk)
                      · replace h := xif_t c126 h
                        refine ev_iconst (v := (-1)) dX12_goesOver_129 (by decide) ?_
                        refine ev_goto (tgt := 140) dX12_goesOver_130 (by decide) ?_
                        obtain ⟨q25, hq25, h⟩ := xbd_some h
                        refine ev_callV (ci := 12) (rest := []) 5 (kX12_makes (E := E) (d := 0) (QQ := (fun v τ n' => v = none ∧ τ = xσ q25 R ∧ n = n')) (Nat.le_refl _) hF hq25 (⟨rfl, rfl, rfl⟩)) my_X12_makes ⟨m_1652, m_1654, m_75⟩ cl_12 kd_61 (xl hF rfl) rfl rfl (Nat.le_of_ble_eq_true rfl) (Nat.le_trans (by decide) hd) (xlo (by decide) (Nat.le_trans (by decide) hd)) (Nat.zero_le _) (Nat.zero_le _) dX12_goesOver_140 (fun v τ n' hv => ?_)
                        obtain ⟨rfl, rfl, rfl⟩ := hv
                        show Ev E (xcm E d 0 0 QQ) Y_X12_goesOver 143 [(3, .int x19), (0, .ref (E.2.2.2 + iM)), (1, .int p0), (2, .int p1), (4, .int x2), (5, .int x6), (6, .int q10.1), (7, .int x13)] [] (xσ q25 R) n 0 0
                        obtain ⟨x26, hx26, h⟩ := xlt_some h
                        refine ev_iinc (L' := [(7, .int x26), (3, .int x19), (0, .ref (E.2.2.2 + iM)), (1, .int p0), (2, .int p1), (4, .int x2), (5, .int x6), (6, .int q10.1)]) 7 dX12_goesOver_143 rfl ((by rfl : x13 + Int32.ofInt 1 = x13 + 1).trans hx26) (Nat.le_of_ble_eq_true rfl) rfl ?_
                        refine ev_goto (tgt := 61) dX12_goesOver_146 (by decide) ?_
                        cases h
                        replace hk := xel_l hk
                        exact ev_sub [2, 3, 4, 1, 5, 6, 7, 0] rfl (hk)
                  · replace h := xif_t c89 h
                    refine ev_goto (tgt := 143) dX12_goesOver_92 (by decide) ?_
                    obtain ⟨x27, hx27, h⟩ := xlt_some h
                    refine ev_iinc (L' := [(7, .int x27), (0, .ref (E.2.2.2 + iM)), (1, .int p0), (2, .int p1), (3, .int x12), (4, .int x2), (5, .int x6), (6, .int q10.1)]) 7 dX12_goesOver_143 rfl ((by rfl : x13 + Int32.ofInt 1 = x13 + 1).trans hx27) (Nat.le_of_ble_eq_true rfl) rfl ?_
                    refine ev_goto (tgt := 61) dX12_goesOver_146 (by decide) ?_
                    cases h
                    replace hk := xel_l hk
                    exact ev_sub [1, 2, 3, 4, 5, 6, 7, 0] rfl (hk)
            · show Ev E (xcm E d 0 0 QQ) Y_X12_goesOver 149 [(0, .ref (E.2.2.2 + iM)), (1, .int p0), (2, .int p1), (3, .int q28.1), (4, .int x2), (5, .int x6)] [] (xσ q28.2 R) n 0 0
              obtain ⟨x29, hx29, h⟩ := xlt_some h
              refine ev_iinc (L' := [(5, .int x29), (0, .ref (E.2.2.2 + iM)), (1, .int p0), (2, .int p1), (3, .int q28.1), (4, .int x2)]) 5 dX12_goesOver_149 rfl ((by rfl : x6 + Int32.ofInt 1 = x6 + 1).trans hx29) (Nat.le_of_ble_eq_true rfl) rfl ?_
              refine ev_goto (tgt := 15) dX12_goesOver_152 (by decide) ?_
              cases h
              replace hk := xel_l hk
              exact ev_sub [1, 2, 3, 4, 5, 0] rfl (hk)
          · replace h := xif_t c31 h
            refine ev_goto (tgt := 149) dX12_goesOver_34 (by decide) ?_
            obtain ⟨x30, hx30, h⟩ := xlt_some h
            refine ev_iinc (L' := [(5, .int x30), (0, .ref (E.2.2.2 + iM)), (1, .int p0), (2, .int p1), (3, .int x5), (4, .int x2)]) 5 dX12_goesOver_149 rfl ((by rfl : x6 + Int32.ofInt 1 = x6 + 1).trans hx30) (Nat.le_of_ble_eq_true rfl) rfl ?_
            refine ev_goto (tgt := 15) dX12_goesOver_152 (by decide) ?_
            cases h
            replace hk := xel_l hk
            exact ev_sub [1, 2, 3, 4, 5, 0] rfl (hk)
      · show Ev E (xcm E d 0 0 QQ) Y_X12_goesOver 155 [(0, .ref (E.2.2.2 + iM)), (1, .int p0), (2, .int p1), (3, .int q31.1), (4, .int x2)] [] (xσ q31.2 R) n 0 0
        obtain ⟨x32, hx32, h⟩ := xlt_some h
        refine ev_iinc (L' := [(4, .int x32), (0, .ref (E.2.2.2 + iM)), (1, .int p0), (2, .int p1), (3, .int q31.1)]) 4 dX12_goesOver_155 rfl ((by rfl : x2 + Int32.ofInt 1 = x2 + 1).trans hx32) (Nat.le_of_ble_eq_true rfl) rfl ?_
        refine ev_goto (tgt := 5) dX12_goesOver_158 (by decide) ?_
        cases h
        replace hk := xel_l hk
        exact ev_sub [1, 2, 3, 4, 0] rfl (hk)
  · show Ev E (xcm E d 0 0 QQ) Y_X12_goesOver 161 [(3, .int q33.1)] [] (xσ q33.2 R) n 0 0
    refine ev_iload_n 0 dX12_goesOver_161 rfl rfl ?_
    cases h
    exact ev_iret rfl (hQ) dX12_goesOver_162 (Nat.zero_le _) (Nat.zero_le _)
def fX12_law_b46 (x7 : Int32) (μ8 : xm) : Option ((Int32 × xm) ⊕ (Int32 × xm)) := if x7 = 0 then (some (.inr (x7, μ8))) else (if (μ8.1 iM 13) ≤ (μ8.1 iM 12) then (some (.inr (x7, μ8))) else (xbd (fX12_takes 59 μ8) fun q10 => if q10.1 = 0 then (some (.inl (0, q10.2))) else (xbd (fX12_readsClause q10.2) fun q11 => if q11.1 = 0 then (some (.inl (0, q11.2))) else (some (.inl (1, q11.2))))))
def fX12_law_b110 (x15 : Int32) (μ16 : xm) : Option ((Int32 × xm) ⊕ (xm)) := if (μ16.1 iM 16) ≤ x15 then (some (.inr μ16)) else (xbd (xgI μ16 iM_said 220 x15) fun v18 => xbd (xsI μ16 iM_codes 220 x15 v18) fun μ19 => xlt (x15 + 1) fun x20 => some (.inl (x20, μ19)))
def fX12_law_b138 (x22 : Int32) (μ23 : xm) : Option ((Int32 × xm) ⊕ (xm)) := if (μ23.1 iM 18) ≤ x22 then (some (.inr μ23)) else (xbd (xgI μ23 iM_saidLetter 14 x22) fun v25 => xbd (xsI μ23 iM_letterOf 14 x22 v25) fun μ26 => xbd (xgI μ26 iM_saidFrom 14 x22) fun v27 => xbd (xsI μ26 iM_codeFrom 14 x22 v27) fun μ28 => xbd (xgI μ28 iM_saidHalf 14 x22) fun v29 => xbd (xsI μ28 iM_codeHalf 14 x22 v29) fun μ30 => xbd (xgI μ30 iM_saidTo 14 x22) fun v31 => xbd (xsI μ30 iM_codeTo 14 x22 v31) fun μ32 => xlt (x22 + 1) fun x33 => some (.inl (x33, μ32)))
def fX12_law (p0 : Int32) (μ : xm) : Option (Int32 × xm) := xbd (fX12_in p0 1 200) fun q1 => if q1 = 0 then (some ((-1), μ)) else (if p0 ≤ (μ.1 iM 11) then (xlt (xpI μ iM 12 0) fun μ2 => xlt (xpI μ2 iM 13 p0) fun μ3 => xlt (xpI μ3 iM 16 0) fun μ4 => xlt (xpI μ4 iM 18 0) fun μ5 => xbd (fX12_readsClause μ5) fun q6 => xbd (xloop xfu (fun v => fX12_law_b46 v.1 v.2) (q6.1, q6.2)) fun q12 => xlt (xpI q12.2 iM 11 0) fun μ13 => if q12.1 = 0 then (some (μ13.1 iM 14, μ13)) else (xlt (xpI μ13 iM 20 (μ13.1 iM 18)) fun μ14 => xbd (xloop xfu (fun v => fX12_law_b110 v.1 v.2) (0, μ14)) fun q21 => xbd (xloop xfu (fun v => fX12_law_b138 v.1 v.2) (0, q21)) fun q34 => some (q34.1 iM 18, q34))) else (some ((-1), μ)))
set_option maxHeartbeats 4000000 in
set_option maxRecDepth 100000 in
theorem kX12_law {E : xE} {d : Nat} {QQ : xP} (hd : 8 ≤ d) {p0 : Int32} {μ : xm} {R : xr} {n : Nat} (hF : xFin R n)  {res : Int32 × xm} (h : fX12_law p0 μ = some res) (hQ : QQ (some (.int res.1)) (xσ res.2 R) n) : xCon E d Y_X12_law 0 0 [.ref (E.2.2.2 + iM), .int p0] (xσ μ R) n QQ := by
  refine xCon_of pn_RX12 (Nat.le_of_ble_eq_true rfl) (L0 := [(0, .ref (E.2.2.2 + iM)), (1, .int p0)]) rfl ?_
  unfold fX12_law at h
  refine ev_iload_n 1 dX12_law_0 rfl rfl ?_
  refine ev_iconst (v := 1) dX12_law_1 (by decide) ?_
  refine ev_sipush (v := 200) dX12_law_2 (by decide) ?_
  obtain ⟨q1, hq1, h⟩ := xbd_some h
  refine ev_callS (As := [.int p0, .int 1, .int 200]) (rest := []) 3 (kX12_in (E := E) (d := 0) (QQ := (fun v τ n' => v = some (.int q1) ∧ τ = xσ μ R ∧ n = n')) (Nat.le_refl _)  hq1 (⟨rfl, rfl, rfl⟩)) my_X12_in ⟨m_1449, m_1450⟩ rfl rfl (Nat.le_of_ble_eq_true rfl) (Nat.le_trans (by decide) hd) (xlo (by decide) (Nat.le_trans (by decide) hd)) (Nat.zero_le _) (Nat.zero_le _) dX12_law_5 (fun v τ n' hv => ?_)
  obtain ⟨rfl, rfl, rfl⟩ := hv
  show Ev E (xcm E d 0 0 QQ) Y_X12_law 8 [(0, .ref (E.2.2.2 + iM)), (1, .int p0)] [.int q1] (xσ μ R) n 0 0
  refine ev_if_eq (tgt := 19) dX12_law_8 (by decide) (fun c8 => ?_) (fun c8 => ?_)
  · replace h := xif_t c8 h
    refine ev_iconst (v := (-1)) dX12_law_19 (by decide) ?_
    cases h
    exact ev_iret rfl (hQ) dX12_law_20 (Nat.zero_le _) (Nat.zero_le _)
  · replace h := xif_f c8 h
    refine ev_iload_n 1 dX12_law_11 rfl rfl ?_
    refine ev_aload_n 0 dX12_law_12 rfl rfl ?_
    refine xv_getI cl_12 lk_RX12_203 kd_61 (xl hF rfl) (fun _ => rfl) dX12_law_13 ?_
    refine ev_icmp_le (tgt := 21) dX12_law_16 (by decide) (fun c16 => ?_) (fun c16 => ?_)
    · replace h := xif_t c16 h
      refine ev_aload_n 0 dX12_law_21 rfl rfl ?_
      refine ev_iconst (v := 0) dX12_law_22 (by decide) ?_
      obtain ⟨μ2, hμ2, h⟩ := xlt_some h
      refine xv_putI cl_12 lk_RX12_210 rfl kd_61 (xl hF rfl) rfl rfl (fun _ => rfl) hμ2 dX12_law_23 ?_
      refine ev_aload_n 0 dX12_law_26 rfl rfl ?_
      refine ev_iload_n 1 dX12_law_27 rfl rfl ?_
      obtain ⟨μ3, hμ3, h⟩ := xlt_some h
      refine xv_putI cl_12 lk_RX12_213 rfl kd_61 (xl hF rfl) rfl rfl (fun _ => rfl) hμ3 dX12_law_28 ?_
      refine ev_aload_n 0 dX12_law_31 rfl rfl ?_
      refine ev_iconst (v := 0) dX12_law_32 (by decide) ?_
      obtain ⟨μ4, hμ4, h⟩ := xlt_some h
      refine xv_putI cl_12 lk_RX12_233 rfl kd_61 (xl hF rfl) rfl rfl (fun _ => rfl) hμ4 dX12_law_33 ?_
      refine ev_aload_n 0 dX12_law_36 rfl rfl ?_
      refine ev_iconst (v := 0) dX12_law_37 (by decide) ?_
      obtain ⟨μ5, hμ5, h⟩ := xlt_some h
      refine xv_putI cl_12 lk_RX12_287 rfl kd_61 (xl hF rfl) rfl rfl (fun _ => rfl) hμ5 dX12_law_38 ?_
      refine ev_aload_n 0 dX12_law_41 rfl rfl ?_
      obtain ⟨q6, hq6, h⟩ := xbd_some h
      refine ev_callV (ci := 12) (rest := []) 0 (kX12_readsClause (E := E) (d := 7) (QQ := (fun v τ n' => v = some (.int q6.1) ∧ τ = xσ q6.2 R ∧ n = n')) (Nat.le_refl _) hF hq6 (⟨rfl, rfl, rfl⟩)) my_X12_readsClause ⟨m_1530, m_1532, m_50⟩ cl_12 kd_61 (xl hF rfl) rfl rfl (Nat.le_of_ble_eq_true rfl) (Nat.le_trans (by decide) hd) (xlo (by decide) (Nat.le_trans (by decide) hd)) (Nat.zero_le _) (Nat.zero_le _) dX12_law_42 (fun v τ n' hv => ?_)
      obtain ⟨rfl, rfl, rfl⟩ := hv
      show Ev E (xcm E d 0 0 QQ) Y_X12_law 45 [(0, .ref (E.2.2.2 + iM)), (1, .int p0)] [.int q6.1] (xσ q6.2 R) n 0 0
      refine xv_istore_n (L' := [(2, .int q6.1), (0, .ref (E.2.2.2 + iM)), (1, .int p0)]) rfl dX12_law_45 rfl (Nat.le_of_ble_eq_true rfl) rfl ?_
      obtain ⟨q12, hq12, h⟩ := xbd_some h
      refine ev_sub (L' := [(0, .ref (E.2.2.2 + iM)), (2, .int q6.1)]) [1, 0] rfl ?_
      refine xloop_run (fun v => Ev E (xcm E d 0 0 QQ) Y_X12_law 46 [(0, .ref (E.2.2.2 + iM)), (2, .int v.1)] [] (xσ v.2 R) n 0 0) (fun v => Ev E (xcm E d 0 0 QQ) Y_X12_law 86 [(0, .ref (E.2.2.2 + iM)), (2, .int v.1)] [] (xσ v.2 R) n 0 0) ?_ _ _ _ hq12 ?_
      · rintro ⟨x7, μ8⟩ y9 h hk
        replace h : fX12_law_b46 x7 μ8 = some y9 := h
        show Ev E (xcm E d 0 0 QQ) Y_X12_law 46 [(0, .ref (E.2.2.2 + iM)), (2, .int x7)] [] (xσ μ8 R) n 0 0
        unfold fX12_law_b46 at h
        refine ev_iload_n 1 dX12_law_46 rfl rfl ?_
        refine ev_if_eq (tgt := 86) dX12_law_47 (by decide) (fun c47 => ?_) (fun c47 => ?_)
        · replace h := xif_t c47 h
          cases h
          replace hk := xel_r hk
          exact ev_sub [0, 1] rfl (hk)
        · replace h := xif_f c47 h
          refine ev_aload_n 0 dX12_law_50 rfl rfl ?_
          refine xv_getI cl_12 lk_RX12_210 kd_61 (xl hF rfl) (fun _ => rfl) dX12_law_51 ?_
          refine ev_aload_n 0 dX12_law_54 rfl rfl ?_
          refine xv_getI cl_12 lk_RX12_213 kd_61 (xl hF rfl) (fun _ => rfl) dX12_law_55 ?_
          refine ev_icmp_ge (tgt := 86) dX12_law_58 (by decide) (fun c58 => ?_) (fun c58 => ?_)
          · replace h := xif_t c58 h
            cases h
            replace hk := xel_r hk
            exact ev_sub [0, 1] rfl (hk)
          · replace h := xif_f c58 h
            refine ev_aload_n 0 dX12_law_61 rfl rfl ?_
            refine ev_bipush (v := 59) dX12_law_62 (by decide) ?_
            obtain ⟨q10, hq10, h⟩ := xbd_some h
            refine ev_callV (ci := 12) (rest := []) 1 (kX12_takes (E := E) (d := 1) (QQ := (fun v τ n' => v = some (.int q10.1) ∧ τ = xσ q10.2 R ∧ n = n')) (Nat.le_refl _) hF hq10 (⟨rfl, rfl, rfl⟩)) my_X12_takes ⟨m_1605, m_1607, m_67⟩ cl_12 kd_61 (xl hF rfl) rfl rfl (Nat.le_of_ble_eq_true rfl) (Nat.le_trans (by decide) hd) (xlo (by decide) (Nat.le_trans (by decide) hd)) (Nat.zero_le _) (Nat.zero_le _) dX12_law_64 (fun v τ n' hv => ?_)
            obtain ⟨rfl, rfl, rfl⟩ := hv
            show Ev E (xcm E d 0 0 QQ) Y_X12_law 67 [(0, .ref (E.2.2.2 + iM)), (2, .int x7)] [.int q10.1] (xσ q10.2 R) n 0 0
            refine ev_if_eq (tgt := 81) dX12_law_67 (by decide) (fun c67 => ?_) (fun c67 => ?_)
            · replace h := xif_t c67 h
              refine ev_iconst (v := 0) dX12_law_81 (by decide) ?_
              refine xv_istore_n (L' := [(2, .int 0), (0, .ref (E.2.2.2 + iM))]) rfl dX12_law_82 rfl (Nat.le_of_ble_eq_true rfl) rfl ?_
              refine ev_goto (tgt := 46) dX12_law_83 (by decide) ?_
              cases h
              replace hk := xel_l hk
              exact ev_sub [1, 0] rfl (hk)
            · replace h := xif_f c67 h
              refine ev_aload_n 0 dX12_law_70 rfl rfl ?_
              obtain ⟨q11, hq11, h⟩ := xbd_some h
              refine ev_callV (ci := 12) (rest := []) 0 (kX12_readsClause (E := E) (d := 7) (QQ := (fun v τ n' => v = some (.int q11.1) ∧ τ = xσ q11.2 R ∧ n = n')) (Nat.le_refl _) hF hq11 (⟨rfl, rfl, rfl⟩)) my_X12_readsClause ⟨m_1530, m_1532, m_50⟩ cl_12 kd_61 (xl hF rfl) rfl rfl (Nat.le_of_ble_eq_true rfl) (Nat.le_trans (by decide) hd) (xlo (by decide) (Nat.le_trans (by decide) hd)) (Nat.zero_le _) (Nat.zero_le _) dX12_law_71 (fun v τ n' hv => ?_)
              obtain ⟨rfl, rfl, rfl⟩ := hv
              show Ev E (xcm E d 0 0 QQ) Y_X12_law 74 [(0, .ref (E.2.2.2 + iM)), (2, .int x7)] [.int q11.1] (xσ q11.2 R) n 0 0
              refine ev_if_eq (tgt := 81) dX12_law_74 (by decide) (fun c74 => ?_) (fun c74 => ?_)
              · replace h := xif_t c74 h
                refine ev_iconst (v := 0) dX12_law_81 (by decide) ?_
                refine xv_istore_n (L' := [(2, .int 0), (0, .ref (E.2.2.2 + iM))]) rfl dX12_law_82 rfl (Nat.le_of_ble_eq_true rfl) rfl ?_
                refine ev_goto (tgt := 46) dX12_law_83 (by decide) ?_
                cases h
                replace hk := xel_l hk
                exact ev_sub [1, 0] rfl (hk)
              · replace h := xif_f c74 h
                refine ev_iconst (v := 1) dX12_law_77 (by decide) ?_
                refine ev_goto (tgt := 82) dX12_law_78 (by decide) ?_
                refine xv_istore_n (L' := [(2, .int 1), (0, .ref (E.2.2.2 + iM))]) rfl dX12_law_82 rfl (Nat.le_of_ble_eq_true rfl) rfl ?_
                refine ev_goto (tgt := 46) dX12_law_83 (by decide) ?_
                cases h
                replace hk := xel_l hk
                exact ev_sub [1, 0] rfl (hk)
      · show Ev E (xcm E d 0 0 QQ) Y_X12_law 86 [(0, .ref (E.2.2.2 + iM)), (2, .int q12.1)] [] (xσ q12.2 R) n 0 0
        refine ev_aload_n 0 dX12_law_86 rfl rfl ?_
        refine ev_iconst (v := 0) dX12_law_87 (by decide) ?_
        obtain ⟨μ13, hμ13, h⟩ := xlt_some h
        refine xv_putI cl_12 lk_RX12_203 rfl kd_61 (xl hF rfl) rfl rfl (fun _ => rfl) hμ13 dX12_law_88 ?_
        refine ev_iload_n 1 dX12_law_91 rfl rfl ?_
        refine ev_if_ne (tgt := 100) dX12_law_92 (by decide) (fun c92 => ?_) (fun c92 => ?_)
        · replace h := xif_f c92 h
          refine ev_aload_n 0 dX12_law_100 rfl rfl ?_
          refine ev_aload_n 0 dX12_law_101 rfl rfl ?_
          refine xv_getI cl_12 lk_RX12_287 kd_61 (xl hF rfl) (fun _ => rfl) dX12_law_102 ?_
          obtain ⟨μ14, hμ14, h⟩ := xlt_some h
          refine xv_putI cl_12 lk_RX12_299 rfl kd_61 (xl hF rfl) rfl rfl (fun _ => rfl) hμ14 dX12_law_105 ?_
          refine ev_iconst (v := 0) dX12_law_108 (by decide) ?_
          refine xv_istore_n (L' := [(3, .int 0), (0, .ref (E.2.2.2 + iM)), (2, .int q12.1)]) rfl dX12_law_109 rfl (Nat.le_of_ble_eq_true rfl) rfl ?_
          obtain ⟨q21, hq21, h⟩ := xbd_some h
          refine ev_sub (L' := [(0, .ref (E.2.2.2 + iM)), (3, .int 0)]) [1, 0] rfl ?_
          refine xloop_run (fun v => Ev E (xcm E d 0 0 QQ) Y_X12_law 110 [(0, .ref (E.2.2.2 + iM)), (3, .int v.1)] [] (xσ v.2 R) n 0 0) (fun v => Ev E (xcm E d 0 0 QQ) Y_X12_law 136 [(0, .ref (E.2.2.2 + iM))] [] (xσ v R) n 0 0) ?_ _ _ _ hq21 ?_
          · rintro ⟨x15, μ16⟩ y17 h hk
            replace h : fX12_law_b110 x15 μ16 = some y17 := h
            show Ev E (xcm E d 0 0 QQ) Y_X12_law 110 [(0, .ref (E.2.2.2 + iM)), (3, .int x15)] [] (xσ μ16 R) n 0 0
            unfold fX12_law_b110 at h
            refine ev_iload_n 1 dX12_law_110 rfl rfl ?_
            refine ev_aload_n 0 dX12_law_111 rfl rfl ?_
            refine xv_getI cl_12 lk_RX12_233 kd_61 (xl hF rfl) (fun _ => rfl) dX12_law_112 ?_
            refine ev_icmp_ge (tgt := 136) dX12_law_115 (by decide) (fun c115 => ?_) (fun c115 => ?_)
            · replace h := xif_t c115 h
              cases h
              replace hk := xel_r hk
              exact ev_sub [0] rfl (hk)
            · replace h := xif_f c115 h
              refine ev_aload_n 0 dX12_law_118 rfl rfl ?_
              refine xv_getF (a := iM_codes) cl_12 lk_RX12_51 kd_61 (xl hF rfl) (fun _ => rfl) (fr_61_27 hF) dX12_law_119 ?_
              refine ev_iload_n 1 dX12_law_122 rfl rfl ?_
              refine ev_aload_n 0 dX12_law_123 rfl rfl ?_
              refine xv_getF (a := iM_said) cl_12 lk_RX12_33 kd_61 (xl hF rfl) (fun _ => rfl) (fr_61_21 hF) dX12_law_124 ?_
              refine ev_iload_n 1 dX12_law_127 rfl rfl ?_
              obtain ⟨v18, hv18, h⟩ := xbd_some h
              refine xv_iald kd_69 (xl hF rfl) hv18 dX12_law_128 ?_
              obtain ⟨μ19, hμ19, h⟩ := xbd_some h
              refine xv_iast kd_75 (xl hF rfl) hμ19 dX12_law_129 ?_
              obtain ⟨x20, hx20, h⟩ := xlt_some h
              refine ev_iinc (L' := [(3, .int x20), (0, .ref (E.2.2.2 + iM))]) 1 dX12_law_130 rfl ((by rfl : x15 + Int32.ofInt 1 = x15 + 1).trans hx20) (Nat.le_of_ble_eq_true rfl) rfl ?_
              refine ev_goto (tgt := 110) dX12_law_133 (by decide) ?_
              cases h
              replace hk := xel_l hk
              exact ev_sub [1, 0] rfl (hk)
          · show Ev E (xcm E d 0 0 QQ) Y_X12_law 136 [(0, .ref (E.2.2.2 + iM))] [] (xσ q21 R) n 0 0
            refine ev_iconst (v := 0) dX12_law_136 (by decide) ?_
            refine xv_istore_n (L' := [(3, .int 0), (0, .ref (E.2.2.2 + iM))]) rfl dX12_law_137 rfl (Nat.le_of_ble_eq_true rfl) rfl ?_
            obtain ⟨q34, hq34, h⟩ := xbd_some h
            refine ev_sub (L' := [(0, .ref (E.2.2.2 + iM)), (3, .int 0)]) [1, 0] rfl ?_
            refine xloop_run (fun v => Ev E (xcm E d 0 0 QQ) Y_X12_law 138 [(0, .ref (E.2.2.2 + iM)), (3, .int v.1)] [] (xσ v.2 R) n 0 0) (fun v => Ev E (xcm E d 0 0 QQ) Y_X12_law 200 [(0, .ref (E.2.2.2 + iM))] [] (xσ v R) n 0 0) ?_ _ _ _ hq34 ?_
            · rintro ⟨x22, μ23⟩ y24 h hk
              replace h : fX12_law_b138 x22 μ23 = some y24 := h
              show Ev E (xcm E d 0 0 QQ) Y_X12_law 138 [(0, .ref (E.2.2.2 + iM)), (3, .int x22)] [] (xσ μ23 R) n 0 0
              unfold fX12_law_b138 at h
              refine ev_iload_n 1 dX12_law_138 rfl rfl ?_
              refine ev_aload_n 0 dX12_law_139 rfl rfl ?_
              refine xv_getI cl_12 lk_RX12_287 kd_61 (xl hF rfl) (fun _ => rfl) dX12_law_140 ?_
              refine ev_icmp_ge (tgt := 200) dX12_law_143 (by decide) (fun c143 => ?_) (fun c143 => ?_)
              · replace h := xif_t c143 h
                cases h
                replace hk := xel_r hk
                exact ev_sub [0] rfl (hk)
              · replace h := xif_f c143 h
                refine ev_aload_n 0 dX12_law_146 rfl rfl ?_
                refine xv_getF (a := iM_letterOf) cl_12 lk_RX12_54 kd_61 (xl hF rfl) (fun _ => rfl) (fr_61_28 hF) dX12_law_147 ?_
                refine ev_iload_n 1 dX12_law_150 rfl rfl ?_
                refine ev_aload_n 0 dX12_law_151 rfl rfl ?_
                refine xv_getF (a := iM_saidLetter) cl_12 lk_RX12_39 kd_61 (xl hF rfl) (fun _ => rfl) (fr_61_23 hF) dX12_law_152 ?_
                refine ev_iload_n 1 dX12_law_155 rfl rfl ?_
                obtain ⟨v25, hv25, h⟩ := xbd_some h
                refine xv_iald kd_71 (xl hF rfl) hv25 dX12_law_156 ?_
                obtain ⟨μ26, hμ26, h⟩ := xbd_some h
                refine xv_iast kd_76 (xl hF rfl) hμ26 dX12_law_157 ?_
                refine ev_aload_n 0 dX12_law_158 rfl rfl ?_
                refine xv_getF (a := iM_codeFrom) cl_12 lk_RX12_57 kd_61 (xl hF rfl) (fun _ => rfl) (fr_61_29 hF) dX12_law_159 ?_
                refine ev_iload_n 1 dX12_law_162 rfl rfl ?_
                refine ev_aload_n 0 dX12_law_163 rfl rfl ?_
                refine xv_getF (a := iM_saidFrom) cl_12 lk_RX12_42 kd_61 (xl hF rfl) (fun _ => rfl) (fr_61_24 hF) dX12_law_164 ?_
                refine ev_iload_n 1 dX12_law_167 rfl rfl ?_
                obtain ⟨v27, hv27, h⟩ := xbd_some h
                refine xv_iald kd_72 (xl hF rfl) hv27 dX12_law_168 ?_
                obtain ⟨μ28, hμ28, h⟩ := xbd_some h
                refine xv_iast kd_77 (xl hF rfl) hμ28 dX12_law_169 ?_
                refine ev_aload_n 0 dX12_law_170 rfl rfl ?_
                refine xv_getF (a := iM_codeHalf) cl_12 lk_RX12_60 kd_61 (xl hF rfl) (fun _ => rfl) (fr_61_30 hF) dX12_law_171 ?_
                refine ev_iload_n 1 dX12_law_174 rfl rfl ?_
                refine ev_aload_n 0 dX12_law_175 rfl rfl ?_
                refine xv_getF (a := iM_saidHalf) cl_12 lk_RX12_45 kd_61 (xl hF rfl) (fun _ => rfl) (fr_61_25 hF) dX12_law_176 ?_
                refine ev_iload_n 1 dX12_law_179 rfl rfl ?_
                obtain ⟨v29, hv29, h⟩ := xbd_some h
                refine xv_iald kd_73 (xl hF rfl) hv29 dX12_law_180 ?_
                obtain ⟨μ30, hμ30, h⟩ := xbd_some h
                refine xv_iast kd_78 (xl hF rfl) hμ30 dX12_law_181 ?_
                refine ev_aload_n 0 dX12_law_182 rfl rfl ?_
                refine xv_getF (a := iM_codeTo) cl_12 lk_RX12_63 kd_61 (xl hF rfl) (fun _ => rfl) (fr_61_31 hF) dX12_law_183 ?_
                refine ev_iload_n 1 dX12_law_186 rfl rfl ?_
                refine ev_aload_n 0 dX12_law_187 rfl rfl ?_
                refine xv_getF (a := iM_saidTo) cl_12 lk_RX12_48 kd_61 (xl hF rfl) (fun _ => rfl) (fr_61_26 hF) dX12_law_188 ?_
                refine ev_iload_n 1 dX12_law_191 rfl rfl ?_
                obtain ⟨v31, hv31, h⟩ := xbd_some h
                refine xv_iald kd_74 (xl hF rfl) hv31 dX12_law_192 ?_
                obtain ⟨μ32, hμ32, h⟩ := xbd_some h
                refine xv_iast kd_79 (xl hF rfl) hμ32 dX12_law_193 ?_
                obtain ⟨x33, hx33, h⟩ := xlt_some h
                refine ev_iinc (L' := [(3, .int x33), (0, .ref (E.2.2.2 + iM))]) 1 dX12_law_194 rfl ((by rfl : x22 + Int32.ofInt 1 = x22 + 1).trans hx33) (Nat.le_of_ble_eq_true rfl) rfl ?_
                refine ev_goto (tgt := 138) dX12_law_197 (by decide) ?_
                cases h
                replace hk := xel_l hk
                exact ev_sub [1, 0] rfl (hk)
            · show Ev E (xcm E d 0 0 QQ) Y_X12_law 200 [(0, .ref (E.2.2.2 + iM))] [] (xσ q34 R) n 0 0
              refine ev_aload_n 0 dX12_law_200 rfl rfl ?_
              refine xv_getI cl_12 lk_RX12_287 kd_61 (xl hF rfl) (fun _ => rfl) dX12_law_201 ?_
              cases h
              exact ev_iret rfl (hQ) dX12_law_204 (Nat.zero_le _) (Nat.zero_le _)
        · replace h := xif_t c92 h
          refine ev_aload_n 0 dX12_law_95 rfl rfl ?_
          refine xv_getI cl_12 lk_RX12_220 kd_61 (xl hF rfl) (fun _ => rfl) dX12_law_96 ?_
          cases h
          exact ev_iret rfl (hQ) dX12_law_99 (Nat.zero_le _) (Nat.zero_le _)
    · replace h := xif_f c16 h
      refine ev_iconst (v := (-1)) dX12_law_19 (by decide) ?_
      cases h
      exact ev_iret rfl (hQ) dX12_law_20 (Nat.zero_le _) (Nat.zero_le _)
def fX12_settle (p0 : Int32) (μ : xm) : Option (Int32 × xm) := xbd (fX12_isMeeting p0 μ) fun q1 => if q1 = 0 then (some ((-1), μ)) else (xbd (fX12_allCame p0 μ) fun q2 => if q2 = 0 then (some ((-1), μ)) else (xbd (xgI μ iM_isSettled 24 p0) fun v3 => if v3 = 0 then (xbd (xgI μ iM_dayOf 24 p0) fun v4 => if v4 ≤ (μ.1 iM 0) then (xbd (fX12_goesOver p0 0 μ) fun q5 => if ((q5.2.1 iM 37) + q5.1) ≤ 60 then (xbd (fX12_goesOver p0 1 q5.2) fun q6 => xbd (xsZ q6.2 iM_isSettled 24 p0 1) fun μ7 => xlt (xpI μ7 iM 3 ((μ7.1 iM 3) + 1)) fun μ8 => some (q5.1, μ8)) else (some ((-2), q5.2))) else (some ((-1), μ))) else (some ((-1), μ))))
set_option maxHeartbeats 4000000 in
set_option maxRecDepth 100000 in
theorem kX12_settle {E : xE} {d : Nat} {QQ : xP} (hd : 9 ≤ d) {p0 : Int32} {μ : xm} {R : xr} {n : Nat} (hF : xFin R n)  {res : Int32 × xm} (h : fX12_settle p0 μ = some res) (hQ : QQ (some (.int res.1)) (xσ res.2 R) n) : xCon E d Y_X12_settle 0 0 [.ref (E.2.2.2 + iM), .int p0] (xσ μ R) n QQ := by
  refine xCon_of pn_RX12 (Nat.le_of_ble_eq_true rfl) (L0 := [(0, .ref (E.2.2.2 + iM)), (1, .int p0)]) rfl ?_
  unfold fX12_settle at h
  refine ev_aload_n 0 dX12_settle_0 rfl rfl ?_
  refine ev_iload_n 1 dX12_settle_1 rfl rfl ?_
  obtain ⟨q1, hq1, h⟩ := xbd_some h
  refine ev_callV (ci := 12) (rest := []) 1 (kX12_isMeeting (E := E) (d := 0) (QQ := (fun v τ n' => v = some (.int q1) ∧ τ = xσ μ R ∧ n = n')) (Nat.le_refl _) hF hq1 (⟨rfl, rfl, rfl⟩)) my_X12_isMeeting ⟨m_1474, m_1476, m_41⟩ cl_12 kd_61 (xl hF rfl) rfl rfl (Nat.le_of_ble_eq_true rfl) (Nat.le_trans (by decide) hd) (xlo (by decide) (Nat.le_trans (by decide) hd)) (Nat.zero_le _) (Nat.zero_le _) dX12_settle_2 (fun v τ n' hv => ?_)
  obtain ⟨rfl, rfl, rfl⟩ := hv
  show Ev E (xcm E d 0 0 QQ) Y_X12_settle 5 [(0, .ref (E.2.2.2 + iM)), (1, .int p0)] [.int q1] (xσ μ R) n 0 0
  refine ev_if_eq (tgt := 38) dX12_settle_5 (by decide) (fun c5 => ?_) (fun c5 => ?_)
  · replace h := xif_t c5 h
    refine ev_iconst (v := (-1)) dX12_settle_38 (by decide) ?_
    cases h
    exact ev_iret rfl (hQ) dX12_settle_39 (Nat.zero_le _) (Nat.zero_le _)
  · replace h := xif_f c5 h
    refine ev_aload_n 0 dX12_settle_8 rfl rfl ?_
    refine ev_iload_n 1 dX12_settle_9 rfl rfl ?_
    obtain ⟨q2, hq2, h⟩ := xbd_some h
    refine ev_callV (ci := 12) (rest := []) 1 (kX12_allCame (E := E) (d := 2) (QQ := (fun v τ n' => v = some (.int q2) ∧ τ = xσ μ R ∧ n = n')) (Nat.le_refl _) hF hq2 (⟨rfl, rfl, rfl⟩)) my_X12_allCame ⟨m_1482, m_1484, m_42⟩ cl_12 kd_61 (xl hF rfl) rfl rfl (Nat.le_of_ble_eq_true rfl) (Nat.le_trans (by decide) hd) (xlo (by decide) (Nat.le_trans (by decide) hd)) (Nat.zero_le _) (Nat.zero_le _) dX12_settle_10 (fun v τ n' hv => ?_)
    obtain ⟨rfl, rfl, rfl⟩ := hv
    show Ev E (xcm E d 0 0 QQ) Y_X12_settle 13 [(0, .ref (E.2.2.2 + iM)), (1, .int p0)] [.int q2] (xσ μ R) n 0 0
    refine ev_if_eq (tgt := 38) dX12_settle_13 (by decide) (fun c13 => ?_) (fun c13 => ?_)
    · replace h := xif_t c13 h
      refine ev_iconst (v := (-1)) dX12_settle_38 (by decide) ?_
      cases h
      exact ev_iret rfl (hQ) dX12_settle_39 (Nat.zero_le _) (Nat.zero_le _)
    · replace h := xif_f c13 h
      refine ev_aload_n 0 dX12_settle_16 rfl rfl ?_
      refine xv_getF (a := iM_isSettled) cl_12 lk_RX12_25 kd_61 (xl hF rfl) (fun _ => rfl) (fr_61_9 hF) dX12_settle_17 ?_
      refine ev_iload_n 1 dX12_settle_20 rfl rfl ?_
      obtain ⟨v3, hv3, h⟩ := xbd_some h
      refine xv_zald kd_67 (xl hF rfl) hv3 dX12_settle_21 ?_
      refine ev_if_ne (tgt := 38) dX12_settle_22 (by decide) (fun c22 => ?_) (fun c22 => ?_)
      · replace h := xif_f c22 h
        refine ev_iconst (v := (-1)) dX12_settle_38 (by decide) ?_
        cases h
        exact ev_iret rfl (hQ) dX12_settle_39 (Nat.zero_le _) (Nat.zero_le _)
      · replace h := xif_t c22 h
        refine ev_aload_n 0 dX12_settle_25 rfl rfl ?_
        refine xv_getF (a := iM_dayOf) cl_12 lk_RX12_13 kd_61 (xl hF rfl) (fun _ => rfl) (fr_61_5 hF) dX12_settle_26 ?_
        refine ev_iload_n 1 dX12_settle_29 rfl rfl ?_
        obtain ⟨v4, hv4, h⟩ := xbd_some h
        refine xv_iald kd_63 (xl hF rfl) hv4 dX12_settle_30 ?_
        refine ev_aload_n 0 dX12_settle_31 rfl rfl ?_
        refine xv_getI cl_12 lk_RX12_165 kd_61 (xl hF rfl) (fun _ => rfl) dX12_settle_32 ?_
        refine ev_icmp_le (tgt := 40) dX12_settle_35 (by decide) (fun c35 => ?_) (fun c35 => ?_)
        · replace h := xif_t c35 h
          refine ev_aload_n 0 dX12_settle_40 rfl rfl ?_
          refine ev_iload_n 1 dX12_settle_41 rfl rfl ?_
          refine ev_iconst (v := 0) dX12_settle_42 (by decide) ?_
          obtain ⟨q5, hq5, h⟩ := xbd_some h
          refine ev_callV (ci := 12) (rest := []) 2 (kX12_goesOver (E := E) (d := 8) (QQ := (fun v τ n' => v = some (.int q5.1) ∧ τ = xσ q5.2 R ∧ n = n')) (Nat.le_refl _) hF hq5 (⟨rfl, rfl, rfl⟩)) my_X12_goesOver ⟨m_1648, m_1650, m_74⟩ cl_12 kd_61 (xl hF rfl) rfl rfl (Nat.le_of_ble_eq_true rfl) (Nat.le_trans (by decide) hd) (xlo (by decide) (Nat.le_trans (by decide) hd)) (Nat.zero_le _) (Nat.zero_le _) dX12_settle_43 (fun v τ n' hv => ?_)
          obtain ⟨rfl, rfl, rfl⟩ := hv
          show Ev E (xcm E d 0 0 QQ) Y_X12_settle 46 [(0, .ref (E.2.2.2 + iM)), (1, .int p0)] [.int q5.1] (xσ q5.2 R) n 0 0
          refine xv_istore_n (L' := [(2, .int q5.1), (0, .ref (E.2.2.2 + iM)), (1, .int p0)]) rfl dX12_settle_46 rfl (Nat.le_of_ble_eq_true rfl) rfl ?_
          refine ev_aload_n 1 dX12_settle_47 rfl rfl ?_
          refine xv_getI cl_12 lk_RX12_328 kd_61 (xl hF rfl) (fun _ => rfl) dX12_settle_48 ?_
          refine ev_iload_n 0 dX12_settle_51 rfl rfl ?_
          refine ev_iadd dX12_settle_52 ?_
          refine ev_bipush (v := 60) dX12_settle_53 (by decide) ?_
          refine ev_icmp_le (tgt := 61) dX12_settle_55 (by decide) (fun c55 => ?_) (fun c55 => ?_)
          · replace h := xif_t c55 h
            refine ev_aload_n 1 dX12_settle_61 rfl rfl ?_
            refine ev_iload_n 2 dX12_settle_62 rfl rfl ?_
            refine ev_iconst (v := 1) dX12_settle_63 (by decide) ?_
            obtain ⟨q6, hq6, h⟩ := xbd_some h
            refine ev_callV (ci := 12) (rest := []) 2 (kX12_goesOver (E := E) (d := 8) (QQ := (fun v τ n' => v = some (.int q6.1) ∧ τ = xσ q6.2 R ∧ n = n')) (Nat.le_refl _) hF hq6 (⟨rfl, rfl, rfl⟩)) my_X12_goesOver ⟨m_1648, m_1650, m_74⟩ cl_12 kd_61 (xl hF rfl) rfl rfl (Nat.le_of_ble_eq_true rfl) (Nat.le_trans (by decide) hd) (xlo (by decide) (Nat.le_trans (by decide) hd)) (Nat.zero_le _) (Nat.zero_le _) dX12_settle_64 (fun v τ n' hv => ?_)
            obtain ⟨rfl, rfl, rfl⟩ := hv
            show Ev E (xcm E d 0 0 QQ) Y_X12_settle 67 [(2, .int q5.1), (0, .ref (E.2.2.2 + iM)), (1, .int p0)] [.int q6.1] (xσ q6.2 R) n 0 0
            refine ev_pop dX12_settle_67 rfl ?_
            refine ev_aload_n 1 dX12_settle_68 rfl rfl ?_
            refine xv_getF (a := iM_isSettled) cl_12 lk_RX12_25 kd_61 (xl hF rfl) (fun _ => rfl) (fr_61_9 hF) dX12_settle_69 ?_
            refine ev_iload_n 2 dX12_settle_72 rfl rfl ?_
            refine ev_iconst (v := 1) dX12_settle_73 (by decide) ?_
            obtain ⟨μ7, hμ7, h⟩ := xbd_some h
            refine xv_zast kd_67 (xl hF rfl) hμ7 dX12_settle_74 ?_
            refine ev_aload_n 1 dX12_settle_75 rfl rfl ?_
            refine ev_aload_n 1 dX12_settle_76 rfl rfl ?_
            refine xv_getI cl_12 lk_RX12_339 kd_61 (xl hF rfl) (fun _ => rfl) dX12_settle_77 ?_
            refine ev_iconst (v := 1) dX12_settle_80 (by decide) ?_
            refine ev_iadd dX12_settle_81 ?_
            obtain ⟨μ8, hμ8, h⟩ := xlt_some h
            refine xv_putI cl_12 lk_RX12_339 rfl kd_61 (xl hF rfl) rfl rfl (fun _ => rfl) hμ8 dX12_settle_82 ?_
            refine ev_iload_n 0 dX12_settle_85 rfl rfl ?_
            cases h
            exact ev_iret rfl (hQ) dX12_settle_86 (Nat.zero_le _) (Nat.zero_le _)
          · replace h := xif_f c55 h
            refine ev_bipush (v := (-2)) dX12_settle_58 (by decide) ?_
            cases h
            exact ev_iret rfl (hQ) dX12_settle_60 (Nat.zero_le _) (Nat.zero_le _)
        · replace h := xif_f c35 h
          refine ev_iconst (v := (-1)) dX12_settle_38 (by decide) ?_
          cases h
          exact ev_iret rfl (hQ) dX12_settle_39 (Nat.zero_le _) (Nat.zero_le _)
