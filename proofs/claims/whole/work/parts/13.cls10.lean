def fX3_follow_j65 (x9 : Int32) (R : xr) (x3 : Int32) (x4 : Int32) (x5 : Int32) (μ6 : xm) (q8 : Int32) : Option ((Int32 × Int32 × Int32 × Int32 × xm) ⊕ ((xm) ⊕ (xm))) := xbd (xsI μ6 iC_meetings_payers 24 x5 x3) fun μ10 => xbd (xsI μ10 iC_meetings_paid 24 x5 (x4 - x9)) fun μ11 => xlt (xpI μ11 iC_meetings 6 (x5 + 1)) fun μ12 => if x9 = 0 then (some (.inr (.inr μ12))) else (xbd (fX3_keeperAt q8 μ12 R) fun q13 => xlt (x5 + 1) fun x14 => some (.inl (q8, q13, x9, x14, μ12)))
def fX3_follow_b17 (x2 : Int32) (x3 : Int32) (x4 : Int32) (x5 : Int32) (μ6 : xm) (p3 : Int32) (R : xr) : Option ((Int32 × Int32 × Int32 × Int32 × xm) ⊕ ((xm) ⊕ (xm))) := if 24 ≤ x5 then (some (.inr (.inl μ6))) else (if 24 ≤ x5 then (some (.inr (.inl μ6))) else (xbd (fX3_keptBy x2 x3 μ6 R) fun q8 => if q8 = (-1) then (fX3_follow_j65 0 R x3 x4 x5 μ6 q8) else (fX3_follow_j65 ((x4 * p3) / 100) R x3 x4 x5 μ6 q8)))
def fX3_follow (p0 : Int32) (p1 : Int32) (p2 : Int32) (p3 : Int32) (μ : xm) (R : xr) : Option (xm) := xlt (xpI μ iC_meetings 6 0) fun μ1 => xbd (xloop xfu (fun v => fX3_follow_b17 v.1 v.2.1 v.2.2.1 v.2.2.2.1 v.2.2.2.2 p3 R) (p0, p1, p2, 0, μ1)) fun q15 => xsm q15 (fun q16 => some q16) (fun q17 => some q17)
set_option maxHeartbeats 4000000 in
set_option maxRecDepth 100000 in
theorem kX3_follow {E : xE} {d : Nat} {QQ : xP} (hd : 4 ≤ d) {p0 : Int32} {p1 : Int32} {p2 : Int32} {p3 : Int32} {μ : xm} {R : xr} {n : Nat} (hF : xFin R n)  {res : xm} (h : fX3_follow p0 p1 p2 p3 μ R = some res) (hQ : QQ none (xσ res R) n) : xCon E d Y_X3_follow 0 0 [.ref (E.2.2.2 + iC_meetings), .int p0, .int p1, .int p2, .int p3] (xσ μ R) n QQ := by
  refine xCon_of pn_RX3 (Nat.le_of_ble_eq_true rfl) (L0 := [(0, .ref (E.2.2.2 + iC_meetings)), (1, .int p0), (2, .int p1), (3, .int p2), (4, .int p3)]) rfl ?_
  unfold fX3_follow at h
  refine ev_iload_n 1 dX3_follow_0 rfl rfl ?_
  refine xv_istore (L' := [(5, .int p0), (0, .ref (E.2.2.2 + iC_meetings)), (1, .int p0), (2, .int p1), (3, .int p2), (4, .int p3)]) rfl dX3_follow_1 (Nat.le_of_ble_eq_true rfl) rfl ?_
  refine ev_iload_n 3 dX3_follow_3 rfl rfl ?_
  refine xv_istore (L' := [(6, .int p1), (5, .int p0), (0, .ref (E.2.2.2 + iC_meetings)), (1, .int p0), (2, .int p1), (3, .int p2), (4, .int p3)]) rfl dX3_follow_4 (Nat.le_of_ble_eq_true rfl) rfl ?_
  refine ev_iload_n 5 dX3_follow_6 rfl rfl ?_
  refine xv_istore (L' := [(7, .int p2), (6, .int p1), (5, .int p0), (0, .ref (E.2.2.2 + iC_meetings)), (1, .int p0), (2, .int p1), (3, .int p2), (4, .int p3)]) rfl dX3_follow_7 (Nat.le_of_ble_eq_true rfl) rfl ?_
  refine ev_aload_n 3 dX3_follow_9 rfl rfl ?_
  refine ev_iconst (v := 0) dX3_follow_10 (by decide) ?_
  obtain ⟨μ1, hμ1, h⟩ := xlt_some h
  refine xv_putI cl_3 lk_RX3_102 rfl kd_23 (xl hF rfl) rfl rfl (fun _ => rfl) hμ1 dX3_follow_11 ?_
  refine ev_iconst (v := 0) dX3_follow_14 (by decide) ?_
  refine xv_istore (L' := [(8, .int 0), (7, .int p2), (6, .int p1), (5, .int p0), (0, .ref (E.2.2.2 + iC_meetings)), (1, .int p0), (2, .int p1), (3, .int p2), (4, .int p3)]) rfl dX3_follow_15 (Nat.le_of_ble_eq_true rfl) rfl ?_
  obtain ⟨q15, hq15, h⟩ := xbd_some h
  refine ev_sub (L' := [(0, .ref (E.2.2.2 + iC_meetings)), (4, .int p3), (5, .int p0), (6, .int p1), (7, .int p2), (8, .int 0)]) [4, 8, 3, 2, 1, 0] rfl ?_
  refine xloop_run (fun v => Ev E (xcm E d 0 0 QQ) Y_X3_follow 17 [(0, .ref (E.2.2.2 + iC_meetings)), (4, .int p3), (5, .int v.1), (6, .int v.2.1), (7, .int v.2.2.1), (8, .int v.2.2.2.1)] [] (xσ v.2.2.2.2 R) n 0 0) (xel (fun v => Ev E (xcm E d 0 0 QQ) Y_X3_follow 124 [] [] (xσ v R) n 0 0) (fun v => QQ none (xσ v R) n)) ?_ _ _ _ hq15 ?_
  · rintro ⟨x2, x3, x4, x5, μ6⟩ y7 h hk
    replace h : fX3_follow_b17 x2 x3 x4 x5 μ6 p3 R = some y7 := h
    show Ev E (xcm E d 0 0 QQ) Y_X3_follow 17 [(0, .ref (E.2.2.2 + iC_meetings)), (4, .int p3), (5, .int x2), (6, .int x3), (7, .int x4), (8, .int x5)] [] (xσ μ6 R) n 0 0
    unfold fX3_follow_b17 at h
    refine ev_iload 5 dX3_follow_17 rfl ?_
    refine ev_aload_n 0 dX3_follow_19 rfl rfl ?_
    refine xv_getF (a := iC_meetings_payers) cl_3 lk_RX3_21 kd_23 (xl hF rfl) (fun _ => rfl) (fr_23_3 hF) dX3_follow_20 ?_
    refine ev_alen (v := 24) 0 (by decide) kd_26 (xl hF rfl) rfl dX3_follow_23 ?_
    refine ev_icmp_ge (tgt := 124) dX3_follow_24 (by decide) (fun c24 => ?_) (fun c24 => ?_)
    · replace h := xif_t c24 h
      cases h
      replace hk := xel_r hk
      replace hk := xel_l hk
      exact ev_sub [] rfl (hk)
    · replace h := xif_f c24 h
      refine ev_iload 5 dX3_follow_27 rfl ?_
      refine ev_aload_n 0 dX3_follow_29 rfl rfl ?_
      refine xv_getF (a := iC_meetings_paid) cl_3 lk_RX3_24 kd_23 (xl hF rfl) (fun _ => rfl) (fr_23_4 hF) dX3_follow_30 ?_
      refine ev_alen (v := 24) 0 (by decide) kd_27 (xl hF rfl) rfl dX3_follow_33 ?_
      refine ev_icmp_ge (tgt := 124) dX3_follow_34 (by decide) (fun c34 => ?_) (fun c34 => ?_)
      · replace h := xif_t c34 h
        cases h
        replace hk := xel_r hk
        replace hk := xel_l hk
        exact ev_sub [] rfl (hk)
      · replace h := xif_f c34 h
        refine ev_aload_n 0 dX3_follow_37 rfl rfl ?_
        refine ev_iload 2 dX3_follow_38 rfl ?_
        refine ev_iload 3 dX3_follow_40 rfl ?_
        obtain ⟨q8, hq8, h⟩ := xbd_some h
        refine ev_callV (ci := 3) (rest := []) 2 (kX3_keptBy (E := E) (d := 3) (QQ := (fun v τ n' => v = some (.int q8) ∧ τ = xσ μ6 R ∧ n = n')) (Nat.le_refl _) hF hq8 (⟨rfl, rfl, rfl⟩)) my_X3_keptBy ⟨m_689, m_645, m_646⟩ cl_3 kd_23 (xl hF rfl) rfl rfl (Nat.le_of_ble_eq_true rfl) (Nat.le_trans (by decide) hd) (xlo (by decide) (Nat.le_trans (by decide) hd)) (Nat.zero_le _) (Nat.zero_le _) dX3_follow_42 (fun v τ n' hv => ?_)
        obtain ⟨rfl, rfl, rfl⟩ := hv
        show Ev E (xcm E d 0 0 QQ) Y_X3_follow 45 [(0, .ref (E.2.2.2 + iC_meetings)), (4, .int p3), (5, .int x2), (6, .int x3), (7, .int x4), (8, .int x5)] [.int q8] (xσ μ6 R) n 0 0
        refine xv_istore (L' := [(9, .int q8), (0, .ref (E.2.2.2 + iC_meetings)), (4, .int p3), (5, .int x2), (6, .int x3), (7, .int x4), (8, .int x5)]) rfl dX3_follow_45 (Nat.le_of_ble_eq_true rfl) rfl ?_
        refine ev_iload 0 dX3_follow_47 rfl ?_
        refine ev_iconst (v := (-1)) dX3_follow_49 (by decide) ?_
        have j65 : ∀ (x9 : Int32), fX3_follow_j65 x9 R x3 x4 x5 μ6 q8 = some y7 → Ev E (xcm E d 0 0 QQ) Y_X3_follow 65 [(0, .ref (E.2.2.2 + iC_meetings)), (4, .int p3), (6, .int x3), (7, .int x4), (8, .int x5), (9, .int q8)] [.int x9] (xσ μ6 R) n 0 0 := by
          intro x9 h
          unfold fX3_follow_j65 at h
          refine xv_istore (L' := [(10, .int x9), (0, .ref (E.2.2.2 + iC_meetings)), (4, .int p3), (6, .int x3), (7, .int x4), (8, .int x5), (9, .int q8)]) rfl dX3_follow_65 (Nat.le_of_ble_eq_true rfl) rfl ?_
          refine ev_aload_n 1 dX3_follow_67 rfl rfl ?_
          refine xv_getF (a := iC_meetings_payers) cl_3 lk_RX3_21 kd_23 (xl hF rfl) (fun _ => rfl) (fr_23_3 hF) dX3_follow_68 ?_
          refine ev_iload 5 dX3_follow_71 rfl ?_
          refine ev_iload 3 dX3_follow_73 rfl ?_
          obtain ⟨μ10, hμ10, h⟩ := xbd_some h
          refine xv_iast kd_26 (xl hF rfl) hμ10 dX3_follow_75 ?_
          refine ev_aload_n 1 dX3_follow_76 rfl rfl ?_
          refine xv_getF (a := iC_meetings_paid) cl_3 lk_RX3_24 kd_23 (xl hF rfl) (fun _ => rfl) (fr_23_4 hF) dX3_follow_77 ?_
          refine ev_iload 5 dX3_follow_80 rfl ?_
          refine ev_iload 4 dX3_follow_82 rfl ?_
          refine ev_iload 0 dX3_follow_84 rfl ?_
          refine ev_isub dX3_follow_86 ?_
          obtain ⟨μ11, hμ11, h⟩ := xbd_some h
          refine xv_iast kd_27 (xl hF rfl) hμ11 dX3_follow_87 ?_
          refine ev_aload_n 1 dX3_follow_88 rfl rfl ?_
          refine ev_iload 5 dX3_follow_89 rfl ?_
          refine ev_iconst (v := 1) dX3_follow_91 (by decide) ?_
          refine ev_iadd dX3_follow_92 ?_
          obtain ⟨μ12, hμ12, h⟩ := xlt_some h
          refine xv_putI cl_3 lk_RX3_102 rfl kd_23 (xl hF rfl) rfl rfl (fun _ => rfl) hμ12 dX3_follow_93 ?_
          refine ev_iload 0 dX3_follow_96 rfl ?_
          refine ev_if_ne (tgt := 102) dX3_follow_98 (by decide) (fun c98 => ?_) (fun c98 => ?_)
          · replace h := xif_f c98 h
            refine ev_aload_n 1 dX3_follow_102 rfl rfl ?_
            refine ev_iload 6 dX3_follow_103 rfl ?_
            obtain ⟨q13, hq13, h⟩ := xbd_some h
            refine ev_callV (ci := 3) (rest := []) 1 (kX3_keeperAt (E := E) (d := 2) (QQ := (fun v τ n' => v = some (.int q13) ∧ τ = xσ μ12 R ∧ n = n')) (Nat.le_refl _) hF hq13 (⟨rfl, rfl, rfl⟩)) my_X3_keeperAt ⟨m_751, m_664, m_665⟩ cl_3 kd_23 (xl hF rfl) rfl rfl (Nat.le_of_ble_eq_true rfl) (Nat.le_trans (by decide) hd) (xlo (by decide) (Nat.le_trans (by decide) hd)) (Nat.zero_le _) (Nat.zero_le _) dX3_follow_105 (fun v τ n' hv => ?_)
            obtain ⟨rfl, rfl, rfl⟩ := hv
            show Ev E (xcm E d 0 0 QQ) Y_X3_follow 108 [(10, .int x9), (0, .ref (E.2.2.2 + iC_meetings)), (4, .int p3), (6, .int x3), (7, .int x4), (8, .int x5), (9, .int q8)] [.int q13] (xσ μ12 R) n 0 0
            refine xv_istore (L' := [(6, .int q13), (10, .int x9), (0, .ref (E.2.2.2 + iC_meetings)), (4, .int p3), (7, .int x4), (8, .int x5), (9, .int q8)]) rfl dX3_follow_108 (Nat.le_of_ble_eq_true rfl) rfl ?_
            refine ev_iload 6 dX3_follow_110 rfl ?_
            refine xv_istore (L' := [(5, .int q8), (6, .int q13), (10, .int x9), (0, .ref (E.2.2.2 + iC_meetings)), (4, .int p3), (7, .int x4), (8, .int x5), (9, .int q8)]) rfl dX3_follow_112 (Nat.le_of_ble_eq_true rfl) rfl ?_
            refine ev_iload 2 dX3_follow_114 rfl ?_
            refine xv_istore (L' := [(7, .int x9), (5, .int q8), (6, .int q13), (10, .int x9), (0, .ref (E.2.2.2 + iC_meetings)), (4, .int p3), (8, .int x5), (9, .int q8)]) rfl dX3_follow_116 (Nat.le_of_ble_eq_true rfl) rfl ?_
            obtain ⟨x14, hx14, h⟩ := xlt_some h
            refine ev_iinc (L' := [(8, .int x14), (7, .int x9), (5, .int q8), (6, .int q13), (10, .int x9), (0, .ref (E.2.2.2 + iC_meetings)), (4, .int p3), (9, .int q8)]) 6 dX3_follow_118 rfl ((by rfl : x5 + Int32.ofInt 1 = x5 + 1).trans hx14) (Nat.le_of_ble_eq_true rfl) rfl ?_
            refine ev_goto (tgt := 17) dX3_follow_121 (by decide) ?_
            cases h
            replace hk := xel_l hk
            exact ev_sub [5, 6, 2, 3, 1, 0] rfl (hk)
          · replace h := xif_t c98 h
            cases h
            replace hk := xel_r hk
            replace hk := xel_r hk
            exact ev_vret rfl (hk) dX3_follow_101 (Nat.zero_le _) (Nat.zero_le _)
        refine ev_icmp_ne (tgt := 57) dX3_follow_50 (by decide) (fun c50 => ?_) (fun c50 => ?_)
        · replace h := xif_f c50 h
          refine ev_iload 5 dX3_follow_57 rfl ?_
          refine ev_iload 2 dX3_follow_59 rfl ?_
          refine ev_imul dX3_follow_61 ?_
          refine ev_bipush (v := 100) dX3_follow_62 (by decide) ?_
          refine ev_idiv dX3_follow_64 (by decide) ?_
          exact ev_sub [1, 2, 4, 5, 6, 0] rfl (j65 _ h)
        · replace h := xif_t c50 h
          refine ev_iconst (v := 0) dX3_follow_53 (by decide) ?_
          refine ev_goto (tgt := 65) dX3_follow_54 (by decide) ?_
          exact ev_sub [1, 2, 4, 5, 6, 0] rfl (j65 _ h)
  · rcases q15 with q16 | q17
    · replace h := xsm_l h
      show Ev E (xcm E d 0 0 QQ) Y_X3_follow 124 [] [] (xσ q16 R) n 0 0
      cases h
      exact ev_vret rfl (hQ) dX3_follow_124 (Nat.zero_le _) (Nat.zero_le _)
    · replace h := xsm_r h
      cases h
      exact hQ
def fX3_gather_j100 (x14 : Int32) (p1 : Int32) (p2 : Int32) (a2 : Nat) (q12 : xm) : Option (Option Nat × xm) := xbd (fX3_putFact 107 x14 q12) fun q15 => xbd (fX2_laterThan a2 p1 q15) fun q16 => xbd (fX3_putFact 114 q16 q15) fun q17 => xbd (fX2_hour a2 q17) fun q18 => xbd (fX3_putFact 104 q18 q17) fun q19 => xbd (fX3_putFact 100 (q19.1 a2 0) q19) fun q20 => xbd (fX3_putFact 120 p1 q20) fun q21 => xbd (fX3_putFact 121 p2 q21) fun q22 => xbd (fX2_hour a2 q22) fun q23 => xbd (fX5_worthAt p2 q23 q22) fun q24 => xbd (fX3_putFact 118 q24 q22) fun q25 => some ((some iC_meetings_facts), q25)
def fX3_gather (p0 : Int32) (p1 : Int32) (p2 : Int32) (μ : xm) (R : xr) : Option (Option Nat × xm) := xbd (fX3_find p0 μ R) fun q1 => xop q1 (some ((some iC_meetings_facts), μ)) (fun a2 => xbd (fX2_waitFor a2 p1 p2 μ) fun q3 => xbd (fX3_putFact 119 q3 μ) fun q4 => xbd (fX2_lateness a2 p1 q4) fun q5 => xbd (fX3_putFact 97 q5 q4) fun q6 => xbd (fX2_lateness a2 p2 q6) fun q7 => xbd (fX3_putFact 98 q7 q6) fun q8 => xbd (fX2_many a2 q8) fun q9 => xbd (fX3_putFact 110 q9 q8) fun q10 => xbd (fX2_start a2 q10) fun q11 => xbd (fX3_putFact 103 (q11 - (q10.1 a2 1)) q10) fun q12 => xbd (fX3_keptBy p0 p1 q12 R) fun q13 => if q13 = (-1) then (fX3_gather_j100 0 p1 p2 a2 q12) else (fX3_gather_j100 1 p1 p2 a2 q12))
set_option maxHeartbeats 4000000 in
set_option maxRecDepth 100000 in
theorem kX3_gather {E : xE} {d : Nat} {QQ : xP} (hd : 4 ≤ d) {p0 : Int32} {p1 : Int32} {p2 : Int32} {μ : xm} {R : xr} {n : Nat} (hF : xFin R n)  {res : Option Nat × xm} (h : fX3_gather p0 p1 p2 μ R = some res) (hQ : (∀ a, res.1 = some a → xIsA 1 a n) → QQ (some (xrf E.2.2.2 res.1)) (xσ res.2 R) n) : xCon E d Y_X3_gather 0 0 [.ref (E.2.2.2 + iC_meetings), .int p0, .int p1, .int p2] (xσ μ R) n QQ := by
  refine xCon_of pn_RX3 (Nat.le_of_ble_eq_true rfl) (L0 := [(0, .ref (E.2.2.2 + iC_meetings)), (1, .int p0), (2, .int p1), (3, .int p2)]) rfl ?_
  unfold fX3_gather at h
  refine ev_aload_n 0 dX3_gather_0 rfl rfl ?_
  refine ev_iload_n 1 dX3_gather_1 rfl rfl ?_
  obtain ⟨q1, hq1, h⟩ := xbd_some h
  refine ev_callV (ci := 3) (rest := []) 1 (kX3_find (E := E) (d := 0) (QQ := (fun v τ n' => v = some (xrf E.2.2.2 q1) ∧ τ = xσ μ R ∧ n = n' ∧ (∀ a, q1 = some a → xIs 2 a n))) (Nat.le_refl _) hF hq1 (fun z0 => ⟨rfl, rfl, rfl, z0⟩)) my_X3_find ⟨m_648, m_492, m_493⟩ cl_3 kd_23 (xl hF rfl) rfl rfl (Nat.le_of_ble_eq_true rfl) (Nat.le_trans (by decide) hd) (xlo (by decide) (Nat.le_trans (by decide) hd)) (Nat.zero_le _) (Nat.zero_le _) dX3_gather_2 (fun v τ n' hv => ?_)
  obtain ⟨rfl, rfl, rfl, hvq1⟩ := hv
  show Ev E (xcm E d 0 0 QQ) Y_X3_gather 5 [(0, .ref (E.2.2.2 + iC_meetings)), (1, .int p0), (2, .int p1), (3, .int p2)] [xrf E.2.2.2 q1] (xσ μ R) n 0 0
  refine xv_astore (r := q1) (L' := [(4, xrf E.2.2.2 q1), (0, .ref (E.2.2.2 + iC_meetings)), (1, .int p0), (2, .int p1), (3, .int p2)]) dX3_gather_5 (Nat.le_of_ble_eq_true rfl) rfl ?_
  refine xv_aload (r := q1) 0 dX3_gather_7 rfl ?_
  refine ev_ifnonnull (r := q1) (tgt := 17) dX3_gather_9 (by decide) (fun a2 hr => ?_) (fun hr => ?_)
  · subst hr
    replace h := xop_s h
    have ha2 := hvq1 a2 rfl
    refine ev_aload_n 1 dX3_gather_17 rfl rfl ?_
    refine ev_bipush (v := 119) dX3_gather_18 (by decide) ?_
    refine ev_aload 0 dX3_gather_20 rfl ?_
    refine ev_iload_n 3 dX3_gather_22 rfl rfl ?_
    refine ev_iload_n 4 dX3_gather_23 rfl rfl ?_
    obtain ⟨q3, hq3, h⟩ := xbd_some h
    refine ev_callV (ci := 2) (rest := [.int 119, .ref (E.2.2.2 + iC_meetings)]) 2 (kX2_waitFor (E := E) (d := 2) (QQ := (fun v τ n' => v = some (.int q3) ∧ τ = xσ μ R ∧ n = n')) (Nat.le_refl _) hF ha2 hq3 (⟨rfl, rfl, rfl⟩)) my_X2_waitFor ⟨m_679, m_636, m_637⟩ cl_2 (xIs2_kd ha2) (xIs2_lt ha2) rfl rfl (Nat.le_of_ble_eq_true rfl) (Nat.le_trans (by decide) hd) (xlo (by decide) (Nat.le_trans (by decide) hd)) (Nat.zero_le _) (Nat.zero_le _) dX3_gather_24 (fun v τ n' hv => ?_)
    obtain ⟨rfl, rfl, rfl⟩ := hv
    show Ev E (xcm E d 0 0 QQ) Y_X3_gather 27 [(4, .ref (E.2.2.2 + a2)), (0, .ref (E.2.2.2 + iC_meetings)), (1, .int p0), (2, .int p1), (3, .int p2)] [.int q3, .int 119, .ref (E.2.2.2 + iC_meetings)] (xσ μ R) n 0 0
    obtain ⟨q4, hq4, h⟩ := xbd_some h
    refine ev_callV (ci := 3) (rest := []) 2 (kX3_putFact (E := E) (d := 0) (QQ := (fun v τ n' => v = none ∧ τ = xσ q4 R ∧ n = n')) (Nat.le_refl _) hF hq4 (⟨rfl, rfl, rfl⟩)) my_X3_putFact ⟨m_680, m_682, m_11⟩ cl_3 kd_23 (xl hF rfl) rfl rfl (Nat.le_of_ble_eq_true rfl) (Nat.le_trans (by decide) hd) (xlo (by decide) (Nat.le_trans (by decide) hd)) (Nat.zero_le _) (Nat.zero_le _) dX3_gather_27 (fun v τ n' hv => ?_)
    obtain ⟨rfl, rfl, rfl⟩ := hv
    show Ev E (xcm E d 0 0 QQ) Y_X3_gather 30 [(4, .ref (E.2.2.2 + a2)), (0, .ref (E.2.2.2 + iC_meetings)), (1, .int p0), (2, .int p1), (3, .int p2)] [] (xσ q4 R) n 0 0
    refine ev_aload_n 1 dX3_gather_30 rfl rfl ?_
    refine ev_bipush (v := 97) dX3_gather_31 (by decide) ?_
    refine ev_aload 0 dX3_gather_33 rfl ?_
    refine ev_iload_n 3 dX3_gather_35 rfl rfl ?_
    obtain ⟨q5, hq5, h⟩ := xbd_some h
    refine ev_callV (ci := 2) (rest := [.int 97, .ref (E.2.2.2 + iC_meetings)]) 1 (kX2_lateness (E := E) (d := 2) (QQ := (fun v τ n' => v = some (.int q5) ∧ τ = xσ q4 R ∧ n = n')) (Nat.le_refl _) hF ha2 hq5 (⟨rfl, rfl, rfl⟩)) my_X2_lateness ⟨m_649, m_650, m_651⟩ cl_2 (xIs2_kd ha2) (xIs2_lt ha2) rfl rfl (Nat.le_of_ble_eq_true rfl) (Nat.le_trans (by decide) hd) (xlo (by decide) (Nat.le_trans (by decide) hd)) (Nat.zero_le _) (Nat.zero_le _) dX3_gather_36 (fun v τ n' hv => ?_)
    obtain ⟨rfl, rfl, rfl⟩ := hv
    show Ev E (xcm E d 0 0 QQ) Y_X3_gather 39 [(4, .ref (E.2.2.2 + a2)), (0, .ref (E.2.2.2 + iC_meetings)), (1, .int p0), (2, .int p1), (3, .int p2)] [.int q5, .int 97, .ref (E.2.2.2 + iC_meetings)] (xσ q4 R) n 0 0
    obtain ⟨q6, hq6, h⟩ := xbd_some h
    refine ev_callV (ci := 3) (rest := []) 2 (kX3_putFact (E := E) (d := 0) (QQ := (fun v τ n' => v = none ∧ τ = xσ q6 R ∧ n = n')) (Nat.le_refl _) hF hq6 (⟨rfl, rfl, rfl⟩)) my_X3_putFact ⟨m_680, m_682, m_11⟩ cl_3 kd_23 (xl hF rfl) rfl rfl (Nat.le_of_ble_eq_true rfl) (Nat.le_trans (by decide) hd) (xlo (by decide) (Nat.le_trans (by decide) hd)) (Nat.zero_le _) (Nat.zero_le _) dX3_gather_39 (fun v τ n' hv => ?_)
    obtain ⟨rfl, rfl, rfl⟩ := hv
    show Ev E (xcm E d 0 0 QQ) Y_X3_gather 42 [(4, .ref (E.2.2.2 + a2)), (0, .ref (E.2.2.2 + iC_meetings)), (1, .int p0), (2, .int p1), (3, .int p2)] [] (xσ q6 R) n 0 0
    refine ev_aload_n 1 dX3_gather_42 rfl rfl ?_
    refine ev_bipush (v := 98) dX3_gather_43 (by decide) ?_
    refine ev_aload 0 dX3_gather_45 rfl ?_
    refine ev_iload_n 4 dX3_gather_47 rfl rfl ?_
    obtain ⟨q7, hq7, h⟩ := xbd_some h
    refine ev_callV (ci := 2) (rest := [.int 98, .ref (E.2.2.2 + iC_meetings)]) 1 (kX2_lateness (E := E) (d := 2) (QQ := (fun v τ n' => v = some (.int q7) ∧ τ = xσ q6 R ∧ n = n')) (Nat.le_refl _) hF ha2 hq7 (⟨rfl, rfl, rfl⟩)) my_X2_lateness ⟨m_649, m_650, m_651⟩ cl_2 (xIs2_kd ha2) (xIs2_lt ha2) rfl rfl (Nat.le_of_ble_eq_true rfl) (Nat.le_trans (by decide) hd) (xlo (by decide) (Nat.le_trans (by decide) hd)) (Nat.zero_le _) (Nat.zero_le _) dX3_gather_48 (fun v τ n' hv => ?_)
    obtain ⟨rfl, rfl, rfl⟩ := hv
    show Ev E (xcm E d 0 0 QQ) Y_X3_gather 51 [(4, .ref (E.2.2.2 + a2)), (0, .ref (E.2.2.2 + iC_meetings)), (1, .int p0), (2, .int p1), (3, .int p2)] [.int q7, .int 98, .ref (E.2.2.2 + iC_meetings)] (xσ q6 R) n 0 0
    obtain ⟨q8, hq8, h⟩ := xbd_some h
    refine ev_callV (ci := 3) (rest := []) 2 (kX3_putFact (E := E) (d := 0) (QQ := (fun v τ n' => v = none ∧ τ = xσ q8 R ∧ n = n')) (Nat.le_refl _) hF hq8 (⟨rfl, rfl, rfl⟩)) my_X3_putFact ⟨m_680, m_682, m_11⟩ cl_3 kd_23 (xl hF rfl) rfl rfl (Nat.le_of_ble_eq_true rfl) (Nat.le_trans (by decide) hd) (xlo (by decide) (Nat.le_trans (by decide) hd)) (Nat.zero_le _) (Nat.zero_le _) dX3_gather_51 (fun v τ n' hv => ?_)
    obtain ⟨rfl, rfl, rfl⟩ := hv
    show Ev E (xcm E d 0 0 QQ) Y_X3_gather 54 [(4, .ref (E.2.2.2 + a2)), (0, .ref (E.2.2.2 + iC_meetings)), (1, .int p0), (2, .int p1), (3, .int p2)] [] (xσ q8 R) n 0 0
    refine ev_aload_n 1 dX3_gather_54 rfl rfl ?_
    refine ev_bipush (v := 110) dX3_gather_55 (by decide) ?_
    refine ev_aload 0 dX3_gather_57 rfl ?_
    obtain ⟨q9, hq9, h⟩ := xbd_some h
    refine ev_callV (ci := 2) (rest := [.int 110, .ref (E.2.2.2 + iC_meetings)]) 0 (kX2_many (E := E) (d := 1) (QQ := (fun v τ n' => v = some (.int q9) ∧ τ = xσ q8 R ∧ n = n')) (Nat.le_refl _) hF ha2 hq9 (⟨rfl, rfl, rfl⟩)) my_X2_many ⟨m_684, m_685, m_686⟩ cl_2 (xIs2_kd ha2) (xIs2_lt ha2) rfl rfl (Nat.le_of_ble_eq_true rfl) (Nat.le_trans (by decide) hd) (xlo (by decide) (Nat.le_trans (by decide) hd)) (Nat.zero_le _) (Nat.zero_le _) dX3_gather_59 (fun v τ n' hv => ?_)
    obtain ⟨rfl, rfl, rfl⟩ := hv
    show Ev E (xcm E d 0 0 QQ) Y_X3_gather 62 [(4, .ref (E.2.2.2 + a2)), (0, .ref (E.2.2.2 + iC_meetings)), (1, .int p0), (2, .int p1), (3, .int p2)] [.int q9, .int 110, .ref (E.2.2.2 + iC_meetings)] (xσ q8 R) n 0 0
    obtain ⟨q10, hq10, h⟩ := xbd_some h
    refine ev_callV (ci := 3) (rest := []) 2 (kX3_putFact (E := E) (d := 0) (QQ := (fun v τ n' => v = none ∧ τ = xσ q10 R ∧ n = n')) (Nat.le_refl _) hF hq10 (⟨rfl, rfl, rfl⟩)) my_X3_putFact ⟨m_680, m_682, m_11⟩ cl_3 kd_23 (xl hF rfl) rfl rfl (Nat.le_of_ble_eq_true rfl) (Nat.le_trans (by decide) hd) (xlo (by decide) (Nat.le_trans (by decide) hd)) (Nat.zero_le _) (Nat.zero_le _) dX3_gather_62 (fun v τ n' hv => ?_)
    obtain ⟨rfl, rfl, rfl⟩ := hv
    show Ev E (xcm E d 0 0 QQ) Y_X3_gather 65 [(4, .ref (E.2.2.2 + a2)), (0, .ref (E.2.2.2 + iC_meetings)), (1, .int p0), (2, .int p1), (3, .int p2)] [] (xσ q10 R) n 0 0
    refine ev_aload_n 1 dX3_gather_65 rfl rfl ?_
    refine ev_bipush (v := 103) dX3_gather_66 (by decide) ?_
    refine ev_aload 0 dX3_gather_68 rfl ?_
    obtain ⟨q11, hq11, h⟩ := xbd_some h
    refine ev_callV (ci := 2) (rest := [.int 103, .ref (E.2.2.2 + iC_meetings)]) 0 (kX2_start (E := E) (d := 1) (QQ := (fun v τ n' => v = some (.int q11) ∧ τ = xσ q10 R ∧ n = n')) (Nat.le_refl _) hF ha2 hq11 (⟨rfl, rfl, rfl⟩)) my_X2_start ⟨m_657, m_622, m_623⟩ cl_2 (xIs2_kd ha2) (xIs2_lt ha2) rfl rfl (Nat.le_of_ble_eq_true rfl) (Nat.le_trans (by decide) hd) (xlo (by decide) (Nat.le_trans (by decide) hd)) (Nat.zero_le _) (Nat.zero_le _) dX3_gather_70 (fun v τ n' hv => ?_)
    obtain ⟨rfl, rfl, rfl⟩ := hv
    show Ev E (xcm E d 0 0 QQ) Y_X3_gather 73 [(4, .ref (E.2.2.2 + a2)), (0, .ref (E.2.2.2 + iC_meetings)), (1, .int p0), (2, .int p1), (3, .int p2)] [.int q11, .int 103, .ref (E.2.2.2 + iC_meetings)] (xσ q10 R) n 0 0
    refine ev_aload 0 dX3_gather_73 rfl ?_
    refine xv_getIN cl_2 ln_RX3_57 (xIs2_kd ha2) (xIs2_lt ha2) (fun _ => rfl) dX3_gather_75 ?_
    refine ev_isub dX3_gather_78 ?_
    obtain ⟨q12, hq12, h⟩ := xbd_some h
    refine ev_callV (ci := 3) (rest := []) 2 (kX3_putFact (E := E) (d := 0) (QQ := (fun v τ n' => v = none ∧ τ = xσ q12 R ∧ n = n')) (Nat.le_refl _) hF hq12 (⟨rfl, rfl, rfl⟩)) my_X3_putFact ⟨m_680, m_682, m_11⟩ cl_3 kd_23 (xl hF rfl) rfl rfl (Nat.le_of_ble_eq_true rfl) (Nat.le_trans (by decide) hd) (xlo (by decide) (Nat.le_trans (by decide) hd)) (Nat.zero_le _) (Nat.zero_le _) dX3_gather_79 (fun v τ n' hv => ?_)
    obtain ⟨rfl, rfl, rfl⟩ := hv
    show Ev E (xcm E d 0 0 QQ) Y_X3_gather 82 [(4, .ref (E.2.2.2 + a2)), (0, .ref (E.2.2.2 + iC_meetings)), (1, .int p0), (2, .int p1), (3, .int p2)] [] (xσ q12 R) n 0 0
    refine ev_aload_n 1 dX3_gather_82 rfl rfl ?_
    refine ev_bipush (v := 107) dX3_gather_83 (by decide) ?_
    refine ev_aload_n 1 dX3_gather_85 rfl rfl ?_
    refine ev_iload_n 2 dX3_gather_86 rfl rfl ?_
    refine ev_iload_n 3 dX3_gather_87 rfl rfl ?_
    obtain ⟨q13, hq13, h⟩ := xbd_some h
    refine ev_callV (ci := 3) (rest := [.int 107, .ref (E.2.2.2 + iC_meetings)]) 2 (kX3_keptBy (E := E) (d := 3) (QQ := (fun v τ n' => v = some (.int q13) ∧ τ = xσ q12 R ∧ n = n')) (Nat.le_refl _) hF hq13 (⟨rfl, rfl, rfl⟩)) my_X3_keptBy ⟨m_689, m_645, m_646⟩ cl_3 kd_23 (xl hF rfl) rfl rfl (Nat.le_of_ble_eq_true rfl) (Nat.le_trans (by decide) hd) (xlo (by decide) (Nat.le_trans (by decide) hd)) (Nat.zero_le _) (Nat.zero_le _) dX3_gather_88 (fun v τ n' hv => ?_)
    obtain ⟨rfl, rfl, rfl⟩ := hv
    show Ev E (xcm E d 0 0 QQ) Y_X3_gather 91 [(4, .ref (E.2.2.2 + a2)), (0, .ref (E.2.2.2 + iC_meetings)), (1, .int p0), (2, .int p1), (3, .int p2)] [.int q13, .int 107, .ref (E.2.2.2 + iC_meetings)] (xσ q12 R) n 0 0
    refine ev_iconst (v := (-1)) dX3_gather_91 (by decide) ?_
    have j100 : ∀ (x14 : Int32), fX3_gather_j100 x14 p1 p2 a2 q12 = some res → Ev E (xcm E d 0 0 QQ) Y_X3_gather 100 [(0, .ref (E.2.2.2 + iC_meetings)), (2, .int p1), (3, .int p2), (4, .ref (E.2.2.2 + a2))] [.int x14, .int 107, .ref (E.2.2.2 + iC_meetings)] (xσ q12 R) n 0 0 := by
      intro x14 h
      unfold fX3_gather_j100 at h
      obtain ⟨q15, hq15, h⟩ := xbd_some h
      refine ev_callV (ci := 3) (rest := []) 2 (kX3_putFact (E := E) (d := 0) (QQ := (fun v τ n' => v = none ∧ τ = xσ q15 R ∧ n = n')) (Nat.le_refl _) hF hq15 (⟨rfl, rfl, rfl⟩)) my_X3_putFact ⟨m_680, m_682, m_11⟩ cl_3 kd_23 (xl hF rfl) rfl rfl (Nat.le_of_ble_eq_true rfl) (Nat.le_trans (by decide) hd) (xlo (by decide) (Nat.le_trans (by decide) hd)) (Nat.zero_le _) (Nat.zero_le _) dX3_gather_100 (fun v τ n' hv => ?_)
      obtain ⟨rfl, rfl, rfl⟩ := hv
      show Ev E (xcm E d 0 0 QQ) Y_X3_gather 103 [(0, .ref (E.2.2.2 + iC_meetings)), (2, .int p1), (3, .int p2), (4, .ref (E.2.2.2 + a2))] [] (xσ q15 R) n 0 0
      refine ev_aload_n 0 dX3_gather_103 rfl rfl ?_
      refine ev_bipush (v := 114) dX3_gather_104 (by decide) ?_
      refine ev_aload 3 dX3_gather_106 rfl ?_
      refine ev_iload_n 1 dX3_gather_108 rfl rfl ?_
      obtain ⟨q16, hq16, h⟩ := xbd_some h
      refine ev_callV (ci := 2) (rest := [.int 114, .ref (E.2.2.2 + iC_meetings)]) 1 (kX2_laterThan (E := E) (d := 2) (QQ := (fun v τ n' => v = some (.int q16) ∧ τ = xσ q15 R ∧ n = n')) (Nat.le_refl _) hF ha2 hq16 (⟨rfl, rfl, rfl⟩)) my_X2_laterThan ⟨m_690, m_691, m_692⟩ cl_2 (xIs2_kd ha2) (xIs2_lt ha2) rfl rfl (Nat.le_of_ble_eq_true rfl) (Nat.le_trans (by decide) hd) (xlo (by decide) (Nat.le_trans (by decide) hd)) (Nat.zero_le _) (Nat.zero_le _) dX3_gather_109 (fun v τ n' hv => ?_)
      obtain ⟨rfl, rfl, rfl⟩ := hv
      show Ev E (xcm E d 0 0 QQ) Y_X3_gather 112 [(0, .ref (E.2.2.2 + iC_meetings)), (2, .int p1), (3, .int p2), (4, .ref (E.2.2.2 + a2))] [.int q16, .int 114, .ref (E.2.2.2 + iC_meetings)] (xσ q15 R) n 0 0
      obtain ⟨q17, hq17, h⟩ := xbd_some h
      refine ev_callV (ci := 3) (rest := []) 2 (kX3_putFact (E := E) (d := 0) (QQ := (fun v τ n' => v = none ∧ τ = xσ q17 R ∧ n = n')) (Nat.le_refl _) hF hq17 (⟨rfl, rfl, rfl⟩)) my_X3_putFact ⟨m_680, m_682, m_11⟩ cl_3 kd_23 (xl hF rfl) rfl rfl (Nat.le_of_ble_eq_true rfl) (Nat.le_trans (by decide) hd) (xlo (by decide) (Nat.le_trans (by decide) hd)) (Nat.zero_le _) (Nat.zero_le _) dX3_gather_112 (fun v τ n' hv => ?_)
      obtain ⟨rfl, rfl, rfl⟩ := hv
      show Ev E (xcm E d 0 0 QQ) Y_X3_gather 115 [(0, .ref (E.2.2.2 + iC_meetings)), (2, .int p1), (3, .int p2), (4, .ref (E.2.2.2 + a2))] [] (xσ q17 R) n 0 0
      refine ev_aload_n 0 dX3_gather_115 rfl rfl ?_
      refine ev_bipush (v := 104) dX3_gather_116 (by decide) ?_
      refine ev_aload 3 dX3_gather_118 rfl ?_
      obtain ⟨q18, hq18, h⟩ := xbd_some h
      refine ev_callV (ci := 2) (rest := [.int 104, .ref (E.2.2.2 + iC_meetings)]) 0 (kX2_hour (E := E) (d := 0) (QQ := (fun v τ n' => v = some (.int q18) ∧ τ = xσ q17 R ∧ n = n')) (Nat.le_refl _) hF ha2 hq18 (⟨rfl, rfl, rfl⟩)) my_X2_hour ⟨m_694, m_695, m_696⟩ cl_2 (xIs2_kd ha2) (xIs2_lt ha2) rfl rfl (Nat.le_of_ble_eq_true rfl) (Nat.le_trans (by decide) hd) (xlo (by decide) (Nat.le_trans (by decide) hd)) (Nat.zero_le _) (Nat.zero_le _) dX3_gather_120 (fun v τ n' hv => ?_)
      obtain ⟨rfl, rfl, rfl⟩ := hv
      show Ev E (xcm E d 0 0 QQ) Y_X3_gather 123 [(0, .ref (E.2.2.2 + iC_meetings)), (2, .int p1), (3, .int p2), (4, .ref (E.2.2.2 + a2))] [.int q18, .int 104, .ref (E.2.2.2 + iC_meetings)] (xσ q17 R) n 0 0
      obtain ⟨q19, hq19, h⟩ := xbd_some h
      refine ev_callV (ci := 3) (rest := []) 2 (kX3_putFact (E := E) (d := 0) (QQ := (fun v τ n' => v = none ∧ τ = xσ q19 R ∧ n = n')) (Nat.le_refl _) hF hq19 (⟨rfl, rfl, rfl⟩)) my_X3_putFact ⟨m_680, m_682, m_11⟩ cl_3 kd_23 (xl hF rfl) rfl rfl (Nat.le_of_ble_eq_true rfl) (Nat.le_trans (by decide) hd) (xlo (by decide) (Nat.le_trans (by decide) hd)) (Nat.zero_le _) (Nat.zero_le _) dX3_gather_123 (fun v τ n' hv => ?_)
      obtain ⟨rfl, rfl, rfl⟩ := hv
      show Ev E (xcm E d 0 0 QQ) Y_X3_gather 126 [(0, .ref (E.2.2.2 + iC_meetings)), (2, .int p1), (3, .int p2), (4, .ref (E.2.2.2 + a2))] [] (xσ q19 R) n 0 0
      refine ev_aload_n 0 dX3_gather_126 rfl rfl ?_
      refine ev_bipush (v := 100) dX3_gather_127 (by decide) ?_
      refine ev_aload 3 dX3_gather_129 rfl ?_
      refine xv_getIN cl_2 ln_RX3_64 (xIs2_kd ha2) (xIs2_lt ha2) (fun _ => rfl) dX3_gather_131 ?_
      obtain ⟨q20, hq20, h⟩ := xbd_some h
      refine ev_callV (ci := 3) (rest := []) 2 (kX3_putFact (E := E) (d := 0) (QQ := (fun v τ n' => v = none ∧ τ = xσ q20 R ∧ n = n')) (Nat.le_refl _) hF hq20 (⟨rfl, rfl, rfl⟩)) my_X3_putFact ⟨m_680, m_682, m_11⟩ cl_3 kd_23 (xl hF rfl) rfl rfl (Nat.le_of_ble_eq_true rfl) (Nat.le_trans (by decide) hd) (xlo (by decide) (Nat.le_trans (by decide) hd)) (Nat.zero_le _) (Nat.zero_le _) dX3_gather_134 (fun v τ n' hv => ?_)
      obtain ⟨rfl, rfl, rfl⟩ := hv
      show Ev E (xcm E d 0 0 QQ) Y_X3_gather 137 [(0, .ref (E.2.2.2 + iC_meetings)), (2, .int p1), (3, .int p2), (4, .ref (E.2.2.2 + a2))] [] (xσ q20 R) n 0 0
      refine ev_aload_n 0 dX3_gather_137 rfl rfl ?_
      refine ev_bipush (v := 120) dX3_gather_138 (by decide) ?_
      refine ev_iload_n 1 dX3_gather_140 rfl rfl ?_
      obtain ⟨q21, hq21, h⟩ := xbd_some h
      refine ev_callV (ci := 3) (rest := []) 2 (kX3_putFact (E := E) (d := 0) (QQ := (fun v τ n' => v = none ∧ τ = xσ q21 R ∧ n = n')) (Nat.le_refl _) hF hq21 (⟨rfl, rfl, rfl⟩)) my_X3_putFact ⟨m_680, m_682, m_11⟩ cl_3 kd_23 (xl hF rfl) rfl rfl (Nat.le_of_ble_eq_true rfl) (Nat.le_trans (by decide) hd) (xlo (by decide) (Nat.le_trans (by decide) hd)) (Nat.zero_le _) (Nat.zero_le _) dX3_gather_141 (fun v τ n' hv => ?_)
      obtain ⟨rfl, rfl, rfl⟩ := hv
      show Ev E (xcm E d 0 0 QQ) Y_X3_gather 144 [(0, .ref (E.2.2.2 + iC_meetings)), (2, .int p1), (3, .int p2), (4, .ref (E.2.2.2 + a2))] [] (xσ q21 R) n 0 0
      refine ev_aload_n 0 dX3_gather_144 rfl rfl ?_
      refine ev_bipush (v := 121) dX3_gather_145 (by decide) ?_
      refine ev_iload_n 2 dX3_gather_147 rfl rfl ?_
      obtain ⟨q22, hq22, h⟩ := xbd_some h
      refine ev_callV (ci := 3) (rest := []) 2 (kX3_putFact (E := E) (d := 0) (QQ := (fun v τ n' => v = none ∧ τ = xσ q22 R ∧ n = n')) (Nat.le_refl _) hF hq22 (⟨rfl, rfl, rfl⟩)) my_X3_putFact ⟨m_680, m_682, m_11⟩ cl_3 kd_23 (xl hF rfl) rfl rfl (Nat.le_of_ble_eq_true rfl) (Nat.le_trans (by decide) hd) (xlo (by decide) (Nat.le_trans (by decide) hd)) (Nat.zero_le _) (Nat.zero_le _) dX3_gather_148 (fun v τ n' hv => ?_)
      obtain ⟨rfl, rfl, rfl⟩ := hv
      show Ev E (xcm E d 0 0 QQ) Y_X3_gather 151 [(0, .ref (E.2.2.2 + iC_meetings)), (2, .int p1), (3, .int p2), (4, .ref (E.2.2.2 + a2))] [] (xσ q22 R) n 0 0
      refine ev_aload_n 0 dX3_gather_151 rfl rfl ?_
      refine ev_bipush (v := 118) dX3_gather_152 (by decide) ?_
      refine ev_aload_n 0 dX3_gather_154 rfl rfl ?_
      refine xv_getF (a := iC_people) cl_3 lk_RX3_27 kd_23 (xl hF rfl) (fun _ => rfl) (fr_23_0 hF) dX3_gather_155 ?_
      refine ev_iload_n 2 dX3_gather_158 rfl rfl ?_
      refine ev_aload 3 dX3_gather_159 rfl ?_
      obtain ⟨q23, hq23, h⟩ := xbd_some h
      refine ev_callV (ci := 2) (rest := [.int p2, .ref (E.2.2.2 + iC_people), .int 118, .ref (E.2.2.2 + iC_meetings)]) 0 (kX2_hour (E := E) (d := 0) (QQ := (fun v τ n' => v = some (.int q23) ∧ τ = xσ q22 R ∧ n = n')) (Nat.le_refl _) hF ha2 hq23 (⟨rfl, rfl, rfl⟩)) my_X2_hour ⟨m_694, m_695, m_696⟩ cl_2 (xIs2_kd ha2) (xIs2_lt ha2) rfl rfl (Nat.le_of_ble_eq_true rfl) (Nat.le_trans (by decide) hd) (xlo (by decide) (Nat.le_trans (by decide) hd)) (Nat.zero_le _) (Nat.zero_le _) dX3_gather_161 (fun v τ n' hv => ?_)
      obtain ⟨rfl, rfl, rfl⟩ := hv
      show Ev E (xcm E d 0 0 QQ) Y_X3_gather 164 [(0, .ref (E.2.2.2 + iC_meetings)), (2, .int p1), (3, .int p2), (4, .ref (E.2.2.2 + a2))] [.int q23, .int p2, .ref (E.2.2.2 + iC_people), .int 118, .ref (E.2.2.2 + iC_meetings)] (xσ q22 R) n 0 0
      obtain ⟨q24, hq24, h⟩ := xbd_some h
      refine ev_callV (ci := 5) (rest := [.int 118, .ref (E.2.2.2 + iC_meetings)]) 2 (kX5_worthAt (E := E) (d := 1) (QQ := (fun v τ n' => v = some (.int q24) ∧ τ = xσ q22 R ∧ n = n')) (Nat.le_refl _) hF hq24 (⟨rfl, rfl, rfl⟩)) my_X5_worthAt ⟨m_698, m_699, m_700⟩ cl_5 kd_19 (xl hF rfl) rfl rfl (Nat.le_of_ble_eq_true rfl) (Nat.le_trans (by decide) hd) (xlo (by decide) (Nat.le_trans (by decide) hd)) (Nat.zero_le _) (Nat.zero_le _) dX3_gather_164 (fun v τ n' hv => ?_)
      obtain ⟨rfl, rfl, rfl⟩ := hv
      show Ev E (xcm E d 0 0 QQ) Y_X3_gather 167 [(0, .ref (E.2.2.2 + iC_meetings)), (2, .int p1), (3, .int p2), (4, .ref (E.2.2.2 + a2))] [.int q24, .int 118, .ref (E.2.2.2 + iC_meetings)] (xσ q22 R) n 0 0
      obtain ⟨q25, hq25, h⟩ := xbd_some h
      refine ev_callV (ci := 3) (rest := []) 2 (kX3_putFact (E := E) (d := 0) (QQ := (fun v τ n' => v = none ∧ τ = xσ q25 R ∧ n = n')) (Nat.le_refl _) hF hq25 (⟨rfl, rfl, rfl⟩)) my_X3_putFact ⟨m_680, m_682, m_11⟩ cl_3 kd_23 (xl hF rfl) rfl rfl (Nat.le_of_ble_eq_true rfl) (Nat.le_trans (by decide) hd) (xlo (by decide) (Nat.le_trans (by decide) hd)) (Nat.zero_le _) (Nat.zero_le _) dX3_gather_167 (fun v τ n' hv => ?_)
      obtain ⟨rfl, rfl, rfl⟩ := hv
      show Ev E (xcm E d 0 0 QQ) Y_X3_gather 170 [(0, .ref (E.2.2.2 + iC_meetings)), (2, .int p1), (3, .int p2), (4, .ref (E.2.2.2 + a2))] [] (xσ q25 R) n 0 0
      refine ev_aload_n 0 dX3_gather_170 rfl rfl ?_
      refine xv_getF (a := iC_meetings_facts) cl_3 lk_RX3_17 kd_23 (xl hF rfl) (fun _ => rfl) (fr_23_2 hF) dX3_gather_171 ?_
      cases h
      exact ev_aret (v := (some iC_meetings_facts)) rfl (Or.inr ⟨_, rfl⟩) (hQ (fun a ha => by cases ha; exact (xIsA_of kd_25 (xl hF rfl)))) dX3_gather_174 (Nat.zero_le _) (Nat.zero_le _)
    refine ev_icmp_ne (tgt := 99) dX3_gather_92 (by decide) (fun c92 => ?_) (fun c92 => ?_)
    · replace h := xif_f c92 h
      refine ev_iconst (v := 1) dX3_gather_99 (by decide) ?_
      exact ev_sub [1, 3, 4, 0] rfl (j100 _ h)
    · replace h := xif_t c92 h
      refine ev_iconst (v := 0) dX3_gather_95 (by decide) ?_
      refine ev_goto (tgt := 100) dX3_gather_96 (by decide) ?_
      exact ev_sub [1, 3, 4, 0] rfl (j100 _ h)
  · subst hr
    replace h := xop_n h
    refine ev_aload_n 1 dX3_gather_12 rfl rfl ?_
    refine xv_getF (a := iC_meetings_facts) cl_3 lk_RX3_17 kd_23 (xl hF rfl) (fun _ => rfl) (fr_23_2 hF) dX3_gather_13 ?_
    cases h
    exact ev_aret (v := (some iC_meetings_facts)) rfl (Or.inr ⟨_, rfl⟩) (hQ (fun a ha => by cases ha; exact (xIsA_of kd_25 (xl hF rfl)))) dX3_gather_16 (Nat.zero_le _) (Nat.zero_le _)
def fX6_cheapest_b47 (x8 : Int32) (μ9 : xm) (p0 : Nat) (p1 : Int32) (p2 : Int32) (x2 : Int32) (q6 : Int32) (q7 : (xm × xr)) : Option ((Int32 × xm) ⊕ (xm)) := if 25 ≤ x8 then (some (.inr μ9)) else (xbd (xgJ μ9 iC_rest_costs 25 x8) fun v11 => xbd (fX6_costOf p0 p1 ((μ9.1 p0 1) - (x8 * 5)) x2 p2 μ9 q7.2) fun q12 => xbd (xsJ μ9 iC_rest_costs 25 x8 (v11 + (q6.toInt64 * q12))) fun μ13 => xlt (x8 + 1) fun x14 => some (.inl (x14, μ13)))
def fX6_cheapest_b11 (x2 : Int32) (μ3 : xm) (R4 : xr) (p0 : Nat) (p1 : Int32) (p2 : Int32) : Option ((Int32 × xm × xr) ⊕ (xm × xr)) := if 2 ≤ x2 then (some (.inr (μ3, R4))) else (xbd (fX10_bridgeWeight x2 μ3) fun q6 => if 0 < q6 then (xbd (fX6_gatherOthers p0 p1 x2 μ3 R4) fun q7 => xbd (xloop xfu (fun v => fX6_cheapest_b47 v.1 v.2 p0 p1 p2 x2 q6 q7) (0, q7.1)) fun q15 => xlt (x2 + 1) fun x16 => some (.inl (x16, q15, q7.2))) else (xlt (x2 + 1) fun x17 => some (.inl (x17, μ3, R4))))
def fX6_cheapest_b107 (x19 : Int32) (x20 : Int32) (q18 : xm × xr) : Option ((Int32 × Int32) ⊕ (Int32)) := if 25 ≤ x20 then (some (.inr x19)) else (xbd (xgJ q18.1 iC_rest_costs 25 x20) fun v22 => xbd (xgJ q18.1 iC_rest_costs 25 x19) fun v23 => if 0 ≤ (lg_cmp v22 v23) then (xlt (x20 + 1) fun x24 => some (.inl (x19, x24))) else (xlt (x20 + 1) fun x25 => some (.inl (x20, x25))))
def fX6_cheapest (p0 : Nat) (p1 : Int32) (p2 : Int32) (μ : xm) (R : xr) : Option (Int32 × xm × xr) := xbd (fJ7_fill_d0a16 iC_rest_costs 0 μ) fun q1 => xbd (xloop xfu (fun v => fX6_cheapest_b11 v.1 v.2.1 v.2.2 p0 p1 p2) (0, q1, R)) fun q18 => xbd (xloop xfu (fun v => fX6_cheapest_b107 v.1 v.2 q18) (0, 1)) fun q26 => some (q26 * 5, q18.1, q18.2)
set_option maxHeartbeats 4000000 in
set_option maxRecDepth 100000 in
theorem kX6_cheapest {E : xE} {d : Nat} {QQ : xP} (hd : 4 ≤ d) {p0 : Nat} {p1 : Int32} {p2 : Int32} {μ : xm} {R : xr} {n : Nat} (hF : xFin R n) (hp0 : xIs 2 p0 n) {res : Int32 × xm × xr} (h : fX6_cheapest p0 p1 p2 μ R = some res) (hQ : xFin res.2.2 n → QQ (some (.int res.1)) (xσ res.2.1 res.2.2) n) : xCon E d Y_X6_cheapest 0 0 [.ref (E.2.2.2 + iC_rest), .ref (E.2.2.2 + p0), .int p1, .int p2] (xσ μ R) n QQ := by
  refine xCon_of pn_RX6 (Nat.le_of_ble_eq_true rfl) (L0 := [(0, .ref (E.2.2.2 + iC_rest)), (1, .ref (E.2.2.2 + p0)), (2, .int p1), (3, .int p2)]) rfl ?_
  unfold fX6_cheapest at h
  refine ev_aload_n 0 dX6_cheapest_0 rfl rfl ?_
  refine xv_getF (a := iC_rest_costs) cl_6 lk_RX6_15 kd_49 (xl hF rfl) (fun _ => rfl) (fr_49_3 hF) dX6_cheapest_1 ?_
  refine ev_lconst (v := 0) dX6_cheapest_4 (by decide) ?_
  obtain ⟨q1, hq1, h⟩ := xbd_some h
  refine ev_callS (As := [.ref (E.2.2.2 + iC_rest_costs), .long 0]) (rest := []) 2 (kJ7_fill_d0a16 (E := E) (d := 0) (QQ := (fun v τ n' => v = none ∧ τ = xσ q1 R ∧ n = n')) (Nat.le_refl _) (xIsA_of kd_51 (xl hF rfl)) hq1 (⟨rfl, rfl, rfl⟩)) my_J7_fill_d0a16 ⟨m_1103, m_1043⟩ rfl rfl (Nat.le_of_ble_eq_true rfl) (Nat.le_trans (by decide) hd) (xlo (by decide) (Nat.le_trans (by decide) hd)) (Nat.zero_le _) (Nat.zero_le _) dX6_cheapest_5 (fun v τ n' hv => ?_)
  obtain ⟨rfl, rfl, rfl⟩ := hv
  show Ev E (xcm E d 0 0 QQ) Y_X6_cheapest 8 [(0, .ref (E.2.2.2 + iC_rest)), (1, .ref (E.2.2.2 + p0)), (2, .int p1), (3, .int p2)] [] (xσ q1 R) n 0 0
  refine ev_iconst (v := 0) dX6_cheapest_8 (by decide) ?_
  refine xv_istore (L' := [(4, .int 0), (0, .ref (E.2.2.2 + iC_rest)), (1, .ref (E.2.2.2 + p0)), (2, .int p1), (3, .int p2)]) rfl dX6_cheapest_9 (Nat.le_of_ble_eq_true rfl) rfl ?_
  obtain ⟨q18, hq18, h⟩ := xbd_some h
  refine ev_sub (L' := [(0, .ref (E.2.2.2 + iC_rest)), (1, .ref (E.2.2.2 + p0)), (2, .int p1), (3, .int p2), (4, .int 0)]) [1, 2, 3, 4, 0] rfl ?_
  refine xloop_run (fun v => xFin v.2.2 n → Ev E (xcm E d 0 0 QQ) Y_X6_cheapest 11 [(0, .ref (E.2.2.2 + iC_rest)), (1, .ref (E.2.2.2 + p0)), (2, .int p1), (3, .int p2), (4, .int v.1)] [] (xσ v.2.1 v.2.2) n 0 0) (fun v => xFin v.2 n → Ev E (xcm E d 0 0 QQ) Y_X6_cheapest 101 [(0, .ref (E.2.2.2 + iC_rest))] [] (xσ v.1 v.2) n 0 0) ?_ _ _ _ hq18 ?_ hF
  · rintro ⟨x2, μ3, R4⟩ y5 h hk hF
    replace h : fX6_cheapest_b11 x2 μ3 R4 p0 p1 p2 = some y5 := h
    show Ev E (xcm E d 0 0 QQ) Y_X6_cheapest 11 [(0, .ref (E.2.2.2 + iC_rest)), (1, .ref (E.2.2.2 + p0)), (2, .int p1), (3, .int p2), (4, .int x2)] [] (xσ μ3 R4) n 0 0
    unfold fX6_cheapest_b11 at h
    refine ev_iload 4 dX6_cheapest_11 rfl ?_
    refine ev_iconst (v := 2) dX6_cheapest_13 (by decide) ?_
    refine ev_icmp_ge (tgt := 101) dX6_cheapest_14 (by decide) (fun c14 => ?_) (fun c14 => ?_)
    · replace h := xif_t c14 h
      cases h
      replace hk := xel_r hk
      exact ev_sub [0] rfl (hk hF)
    · replace h := xif_f c14 h
      refine ev_aload_n 0 dX6_cheapest_17 rfl rfl ?_
      refine xv_getF (a := iC_ways) cl_6 lk_RX6_36 kd_49 (xl hF rfl) (fun _ => rfl) (fr_49_1 hF) dX6_cheapest_18 ?_
      refine ev_iload 4 dX6_cheapest_21 rfl ?_
      obtain ⟨q6, hq6, h⟩ := xbd_some h
      refine ev_callV (ci := 10) (rest := []) 1 (kX10_bridgeWeight (E := E) (d := 0) (QQ := (fun v τ n' => v = some (.int q6) ∧ τ = xσ μ3 R4 ∧ n = n')) (Nat.le_refl _) hF hq6 (⟨rfl, rfl, rfl⟩)) my_X10_bridgeWeight ⟨m_1104, m_992, m_993⟩ cl_10 kd_42 (xl hF rfl) rfl rfl (Nat.le_of_ble_eq_true rfl) (Nat.le_trans (by decide) hd) (xlo (by decide) (Nat.le_trans (by decide) hd)) (Nat.zero_le _) (Nat.zero_le _) dX6_cheapest_23 (fun v τ n' hv => ?_)
      obtain ⟨rfl, rfl, rfl⟩ := hv
      show Ev E (xcm E d 0 0 QQ) Y_X6_cheapest 26 [(0, .ref (E.2.2.2 + iC_rest)), (1, .ref (E.2.2.2 + p0)), (2, .int p1), (3, .int p2), (4, .int x2)] [.int q6] (xσ μ3 R4) n 0 0
      refine xv_istore (L' := [(5, .int q6), (0, .ref (E.2.2.2 + iC_rest)), (1, .ref (E.2.2.2 + p0)), (2, .int p1), (3, .int p2), (4, .int x2)]) rfl dX6_cheapest_26 (Nat.le_of_ble_eq_true rfl) rfl ?_
      refine ev_iload 0 dX6_cheapest_28 rfl ?_
      refine ev_if_gt (tgt := 36) dX6_cheapest_30 (by decide) (fun c30 => ?_) (fun c30 => ?_)
      · replace h := xif_t c30 h
        refine ev_aload_n 1 dX6_cheapest_36 rfl rfl ?_
        refine ev_aload_n 2 dX6_cheapest_37 rfl rfl ?_
        refine ev_iload_n 3 dX6_cheapest_38 rfl rfl ?_
        refine ev_iload 5 dX6_cheapest_39 rfl ?_
        obtain ⟨q7, hq7, h⟩ := xbd_some h
        refine ev_callV (ci := 6) (rest := []) 3 (kX6_gatherOthers (E := E) (d := 3) (QQ := (fun v τ n' => v = none ∧ τ = xσ q7.1 q7.2 ∧ n = n' ∧ xFin q7.2 n)) (Nat.le_refl _) hF hp0 hq7 (fun z0 => ⟨rfl, rfl, rfl, z0⟩)) my_X6_gatherOthers ⟨m_1105, m_1107, m_34⟩ cl_6 kd_49 (xl hF rfl) rfl rfl (Nat.le_of_ble_eq_true rfl) (Nat.le_trans (by decide) hd) (xlo (by decide) (Nat.le_trans (by decide) hd)) (Nat.zero_le _) (Nat.zero_le _) dX6_cheapest_41 (fun v τ n' hv => ?_)
        obtain ⟨rfl, rfl, rfl, hF⟩ := hv
        show Ev E (xcm E d 0 0 QQ) Y_X6_cheapest 44 [(5, .int q6), (0, .ref (E.2.2.2 + iC_rest)), (1, .ref (E.2.2.2 + p0)), (2, .int p1), (3, .int p2), (4, .int x2)] [] (xσ q7.1 q7.2) n 0 0
        refine ev_iconst (v := 0) dX6_cheapest_44 (by decide) ?_
        refine xv_istore (L' := [(6, .int 0), (5, .int q6), (0, .ref (E.2.2.2 + iC_rest)), (1, .ref (E.2.2.2 + p0)), (2, .int p1), (3, .int p2), (4, .int x2)]) rfl dX6_cheapest_45 (Nat.le_of_ble_eq_true rfl) rfl ?_
        obtain ⟨q15, hq15, h⟩ := xbd_some h
        refine ev_sub (L' := [(0, .ref (E.2.2.2 + iC_rest)), (1, .ref (E.2.2.2 + p0)), (2, .int p1), (3, .int p2), (4, .int x2), (5, .int q6), (6, .int 0)]) [2, 3, 4, 5, 6, 1, 0] rfl ?_
        refine xloop_run (fun v => Ev E (xcm E d 0 0 QQ) Y_X6_cheapest 47 [(0, .ref (E.2.2.2 + iC_rest)), (1, .ref (E.2.2.2 + p0)), (2, .int p1), (3, .int p2), (4, .int x2), (5, .int q6), (6, .int v.1)] [] (xσ v.2 q7.2) n 0 0) (fun v => Ev E (xcm E d 0 0 QQ) Y_X6_cheapest 95 [(0, .ref (E.2.2.2 + iC_rest)), (1, .ref (E.2.2.2 + p0)), (2, .int p1), (3, .int p2), (4, .int x2)] [] (xσ v q7.2) n 0 0) ?_ _ _ _ hq15 ?_
        · rintro ⟨x8, μ9⟩ y10 h hk
          replace h : fX6_cheapest_b47 x8 μ9 p0 p1 p2 x2 q6 q7 = some y10 := h
          show Ev E (xcm E d 0 0 QQ) Y_X6_cheapest 47 [(0, .ref (E.2.2.2 + iC_rest)), (1, .ref (E.2.2.2 + p0)), (2, .int p1), (3, .int p2), (4, .int x2), (5, .int q6), (6, .int x8)] [] (xσ μ9 q7.2) n 0 0
          unfold fX6_cheapest_b47 at h
          refine ev_iload 6 dX6_cheapest_47 rfl ?_
          refine ev_aload_n 0 dX6_cheapest_49 rfl rfl ?_
          refine xv_getF (a := iC_rest_costs) cl_6 lk_RX6_15 kd_49 (xl hF rfl) (fun _ => rfl) (fr_49_3 hF) dX6_cheapest_50 ?_
          refine ev_alen (v := 25) 1 (by decide) kd_51 (xl hF rfl) rfl dX6_cheapest_53 ?_
          refine ev_icmp_ge (tgt := 95) dX6_cheapest_54 (by decide) (fun c54 => ?_) (fun c54 => ?_)
          · replace h := xif_t c54 h
            cases h
            replace hk := xel_r hk
            exact ev_sub [0, 1, 2, 3, 4] rfl (hk)
          · replace h := xif_f c54 h
            refine ev_aload_n 0 dX6_cheapest_57 rfl rfl ?_
            refine xv_getF (a := iC_rest_costs) cl_6 lk_RX6_15 kd_49 (xl hF rfl) (fun _ => rfl) (fr_49_3 hF) dX6_cheapest_58 ?_
            refine ev_iload 6 dX6_cheapest_61 rfl ?_
            refine ev_dup2 dX6_cheapest_63 rfl rfl ?_
            obtain ⟨v11, hv11, h⟩ := xbd_some h
            refine xv_lald kd_51 (xl hF rfl) hv11 dX6_cheapest_64 ?_
            refine ev_iload 5 dX6_cheapest_65 rfl ?_
            refine ev_i2l dX6_cheapest_67 ?_
            refine ev_aload_n 0 dX6_cheapest_68 rfl rfl ?_
            refine ev_aload_n 1 dX6_cheapest_69 rfl rfl ?_
            refine ev_iload_n 2 dX6_cheapest_70 rfl rfl ?_
            refine ev_aload_n 1 dX6_cheapest_71 rfl rfl ?_
            refine xv_getIN cl_2 ln_RX6_69 (xIs2_kd hp0) (xIs2_lt hp0) (fun _ => rfl) dX6_cheapest_72 ?_
            refine ev_iload 6 dX6_cheapest_75 rfl ?_
            refine ev_iconst (v := 5) dX6_cheapest_77 (by decide) ?_
            refine ev_imul dX6_cheapest_78 ?_
            refine ev_isub dX6_cheapest_79 ?_
            refine ev_iload 4 dX6_cheapest_80 rfl ?_
            refine ev_iload_n 3 dX6_cheapest_82 rfl rfl ?_
            obtain ⟨q12, hq12, h⟩ := xbd_some h
            refine ev_callV (ci := 6) (rest := [.long (q6.toInt64), .long v11, .int x8, .ref (E.2.2.2 + iC_rest_costs)]) 5 (kX6_costOf (E := E) (d := 2) (QQ := (fun v τ n' => v = some (.long q12) ∧ τ = xσ μ9 q7.2 ∧ n = n')) (Nat.le_refl _) hF hp0 hq12 (⟨rfl, rfl, rfl⟩)) my_X6_costOf ⟨m_1142, m_1144, m_37⟩ cl_6 kd_49 (xl hF rfl) rfl rfl (Nat.le_of_ble_eq_true rfl) (Nat.le_trans (by decide) hd) (xlo (by decide) (Nat.le_trans (by decide) hd)) (Nat.zero_le _) (Nat.zero_le _) dX6_cheapest_83 (fun v τ n' hv => ?_)
            obtain ⟨rfl, rfl, rfl⟩ := hv
            show Ev E (xcm E d 0 0 QQ) Y_X6_cheapest 86 [(0, .ref (E.2.2.2 + iC_rest)), (1, .ref (E.2.2.2 + p0)), (2, .int p1), (3, .int p2), (4, .int x2), (5, .int q6), (6, .int x8)] [.long q12, .long (q6.toInt64), .long v11, .int x8, .ref (E.2.2.2 + iC_rest_costs)] (xσ μ9 q7.2) n 0 0
            refine ev_lmul dX6_cheapest_86 ?_
            refine ev_ladd dX6_cheapest_87 ?_
            obtain ⟨μ13, hμ13, h⟩ := xbd_some h
            refine xv_last kd_51 (xl hF rfl) hμ13 dX6_cheapest_88 ?_
            obtain ⟨x14, hx14, h⟩ := xlt_some h
            refine ev_iinc (L' := [(6, .int x14), (0, .ref (E.2.2.2 + iC_rest)), (1, .ref (E.2.2.2 + p0)), (2, .int p1), (3, .int p2), (4, .int x2), (5, .int q6)]) 6 dX6_cheapest_89 rfl ((by rfl : x8 + Int32.ofInt 1 = x8 + 1).trans hx14) (Nat.le_of_ble_eq_true rfl) rfl ?_
            refine ev_goto (tgt := 47) dX6_cheapest_92 (by decide) ?_
            cases h
            replace hk := xel_l hk
            exact ev_sub [1, 2, 3, 4, 5, 6, 0] rfl (hk)
        · show Ev E (xcm E d 0 0 QQ) Y_X6_cheapest 95 [(0, .ref (E.2.2.2 + iC_rest)), (1, .ref (E.2.2.2 + p0)), (2, .int p1), (3, .int p2), (4, .int x2)] [] (xσ q15 q7.2) n 0 0
          obtain ⟨x16, hx16, h⟩ := xlt_some h
          refine ev_iinc (L' := [(4, .int x16), (0, .ref (E.2.2.2 + iC_rest)), (1, .ref (E.2.2.2 + p0)), (2, .int p1), (3, .int p2)]) 4 dX6_cheapest_95 rfl ((by rfl : x2 + Int32.ofInt 1 = x2 + 1).trans hx16) (Nat.le_of_ble_eq_true rfl) rfl ?_
          refine ev_goto (tgt := 11) dX6_cheapest_98 (by decide) ?_
          cases h
          replace hk := xel_l hk
          exact ev_sub [1, 2, 3, 4, 0] rfl (hk hF)
      · replace h := xif_f c30 h
        refine ev_goto (tgt := 95) dX6_cheapest_33 (by decide) ?_
        obtain ⟨x17, hx17, h⟩ := xlt_some h
        refine ev_iinc (L' := [(4, .int x17), (5, .int q6), (0, .ref (E.2.2.2 + iC_rest)), (1, .ref (E.2.2.2 + p0)), (2, .int p1), (3, .int p2)]) 5 dX6_cheapest_95 rfl ((by rfl : x2 + Int32.ofInt 1 = x2 + 1).trans hx17) (Nat.le_of_ble_eq_true rfl) rfl ?_
        refine ev_goto (tgt := 11) dX6_cheapest_98 (by decide) ?_
        cases h
        replace hk := xel_l hk
        exact ev_sub [2, 3, 4, 5, 0] rfl (hk hF)
  · intro hF
    show Ev E (xcm E d 0 0 QQ) Y_X6_cheapest 101 [(0, .ref (E.2.2.2 + iC_rest))] [] (xσ q18.1 q18.2) n 0 0
    refine ev_iconst (v := 0) dX6_cheapest_101 (by decide) ?_
    refine xv_istore (L' := [(4, .int 0), (0, .ref (E.2.2.2 + iC_rest))]) rfl dX6_cheapest_102 (Nat.le_of_ble_eq_true rfl) rfl ?_
    refine ev_iconst (v := 1) dX6_cheapest_104 (by decide) ?_
    refine xv_istore (L' := [(5, .int 1), (4, .int 0), (0, .ref (E.2.2.2 + iC_rest))]) rfl dX6_cheapest_105 (Nat.le_of_ble_eq_true rfl) rfl ?_
    obtain ⟨q26, hq26, h⟩ := xbd_some h
    refine ev_sub (L' := [(0, .ref (E.2.2.2 + iC_rest)), (4, .int 0), (5, .int 1)]) [2, 1, 0] rfl ?_
    refine xloop_run (fun v => Ev E (xcm E d 0 0 QQ) Y_X6_cheapest 107 [(0, .ref (E.2.2.2 + iC_rest)), (4, .int v.1), (5, .int v.2)] [] (xσ q18.1 q18.2) n 0 0) (fun v => Ev E (xcm E d 0 0 QQ) Y_X6_cheapest 145 [(4, .int v)] [] (xσ q18.1 q18.2) n 0 0) ?_ _ _ _ hq26 ?_
    · rintro ⟨x19, x20⟩ y21 h hk
      replace h : fX6_cheapest_b107 x19 x20 q18 = some y21 := h
      show Ev E (xcm E d 0 0 QQ) Y_X6_cheapest 107 [(0, .ref (E.2.2.2 + iC_rest)), (4, .int x19), (5, .int x20)] [] (xσ q18.1 q18.2) n 0 0
      unfold fX6_cheapest_b107 at h
      refine ev_iload 2 dX6_cheapest_107 rfl ?_
      refine ev_aload_n 0 dX6_cheapest_109 rfl rfl ?_
      refine xv_getF (a := iC_rest_costs) cl_6 lk_RX6_15 kd_49 (xl hF rfl) (fun _ => rfl) (fr_49_3 hF) dX6_cheapest_110 ?_
      refine ev_alen (v := 25) 1 (by decide) kd_51 (xl hF rfl) rfl dX6_cheapest_113 ?_
      refine ev_icmp_ge (tgt := 145) dX6_cheapest_114 (by decide) (fun c114 => ?_) (fun c114 => ?_)
      · replace h := xif_t c114 h
        cases h
        replace hk := xel_r hk
        exact ev_sub [1] rfl (hk)
      · replace h := xif_f c114 h
        refine ev_aload_n 0 dX6_cheapest_117 rfl rfl ?_
        refine xv_getF (a := iC_rest_costs) cl_6 lk_RX6_15 kd_49 (xl hF rfl) (fun _ => rfl) (fr_49_3 hF) dX6_cheapest_118 ?_
        refine ev_iload 2 dX6_cheapest_121 rfl ?_
        obtain ⟨v22, hv22, h⟩ := xbd_some h
        refine xv_lald kd_51 (xl hF rfl) hv22 dX6_cheapest_123 ?_
        refine ev_aload_n 0 dX6_cheapest_124 rfl rfl ?_
        refine xv_getF (a := iC_rest_costs) cl_6 lk_RX6_15 kd_49 (xl hF rfl) (fun _ => rfl) (fr_49_3 hF) dX6_cheapest_125 ?_
        refine ev_iload 1 dX6_cheapest_128 rfl ?_
        obtain ⟨v23, hv23, h⟩ := xbd_some h
        refine xv_lald kd_51 (xl hF rfl) hv23 dX6_cheapest_130 ?_
        refine ev_lcmp dX6_cheapest_131 ?_
        refine ev_if_ge (tgt := 139) dX6_cheapest_132 (by decide) (fun c132 => ?_) (fun c132 => ?_)
        · replace h := xif_t c132 h
          obtain ⟨x24, hx24, h⟩ := xlt_some h
          refine ev_iinc (L' := [(5, .int x24), (0, .ref (E.2.2.2 + iC_rest)), (4, .int x19)]) 2 dX6_cheapest_139 rfl ((by rfl : x20 + Int32.ofInt 1 = x20 + 1).trans hx24) (Nat.le_of_ble_eq_true rfl) rfl ?_
          refine ev_goto (tgt := 107) dX6_cheapest_142 (by decide) ?_
          cases h
          replace hk := xel_l hk
          exact ev_sub [1, 2, 0] rfl (hk)
        · replace h := xif_f c132 h
          refine ev_iload 2 dX6_cheapest_135 rfl ?_
          refine xv_istore (L' := [(4, .int x20), (0, .ref (E.2.2.2 + iC_rest)), (5, .int x20)]) rfl dX6_cheapest_137 (Nat.le_of_ble_eq_true rfl) rfl ?_
          obtain ⟨x25, hx25, h⟩ := xlt_some h
          refine ev_iinc (L' := [(5, .int x25), (4, .int x20), (0, .ref (E.2.2.2 + iC_rest))]) 2 dX6_cheapest_139 rfl ((by rfl : x20 + Int32.ofInt 1 = x20 + 1).trans hx25) (Nat.le_of_ble_eq_true rfl) rfl ?_
          refine ev_goto (tgt := 107) dX6_cheapest_142 (by decide) ?_
          cases h
          replace hk := xel_l hk
          exact ev_sub [2, 1, 0] rfl (hk)
    · show Ev E (xcm E d 0 0 QQ) Y_X6_cheapest 145 [(4, .int q26)] [] (xσ q18.1 q18.2) n 0 0
      refine ev_iload 0 dX6_cheapest_145 rfl ?_
      refine ev_iconst (v := 5) dX6_cheapest_147 (by decide) ?_
      refine ev_imul dX6_cheapest_148 ?_
      cases h
      exact ev_iret rfl (hQ hF) dX6_cheapest_149 (Nat.zero_le _) (Nat.zero_le _)
def fX7_measure_j29 (x5 : Int32) (x1 : Int32) (μ2 : xm) : Option ((Int32 × xm) ⊕ (xm)) := xbd (xsI μ2 iC_striking_away 8 x1 x5) fun μ6 => xbd (xsI μ6 iC_striking_from 8 x1 (-1)) fun μ7 => xlt (x1 + 1) fun x8 => some (.inl (x8, μ7))
def fX7_measure_b2 (x1 : Int32) (μ2 : xm) : Option ((Int32 × xm) ⊕ (xm)) := if 8 ≤ x1 then (some (.inr μ2)) else (xbd (xgI μ2 iC_striking_balance 8 x1) fun v4 => if v4 ≤ 0 then (fX7_measure_j29 1000 x1 μ2) else (fX7_measure_j29 0 x1 μ2))
def fX7_measure_b61 (x14 : Int32) (x15 : Int32) (μ16 : xm) : Option ((Int32 × Int32 × xm) ⊕ (Int32 × xm)) := if 8 ≤ x15 then (some (.inr (x14, μ16))) else (xbd (xgI μ16 iC_striking_away 8 x15) fun v18 => if 1000 ≤ v18 then (xlt (x15 + 1) fun x19 => some (.inl (x14, x19, μ16))) else (xbd (fX7_widen x15 μ16) fun q20 => if q20.1 = 0 then (xlt (x15 + 1) fun x21 => some (.inl (x14, x21, q20.2))) else (xlt (x15 + 1) fun x22 => some (.inl (1, x22, q20.2)))))
def fX7_measure_b47 (x10 : Int32) (x11 : Int32) (μ12 : xm) : Option ((Int32 × Int32 × xm) ⊕ (xm)) := if 8 ≤ x11 then (some (.inr μ12)) else (if x10 = 0 then (some (.inr μ12)) else (xbd (xloop xfu (fun v => fX7_measure_b61 v.1 v.2.1 v.2.2) (0, 0, μ12)) fun q23 => xlt (x11 + 1) fun x24 => some (.inl (q23.1, x24, q23.2))))
def fX7_measure (μ : xm) : Option (xm) := xbd (xloop xfu (fun v => fX7_measure_b2 v.1 v.2) (0, μ)) fun q9 => xbd (xloop xfu (fun v => fX7_measure_b47 v.1 v.2.1 v.2.2) (1, 0, q9)) fun q25 => some q25
set_option maxHeartbeats 4000000 in
set_option maxRecDepth 100000 in
theorem kX7_measure {E : xE} {d : Nat} {QQ : xP} (hd : 4 ≤ d)  {μ : xm} {R : xr} {n : Nat} (hF : xFin R n)  {res : xm} (h : fX7_measure μ = some res) (hQ : QQ none (xσ res R) n) : xCon E d Y_X7_measure 0 0 [.ref (E.2.2.2 + iC_striking)] (xσ μ R) n QQ := by
  refine xCon_of pn_RX7 (Nat.le_of_ble_eq_true rfl) (L0 := [(0, .ref (E.2.2.2 + iC_striking))]) rfl ?_
  unfold fX7_measure at h
  refine ev_iconst (v := 0) dX7_measure_0 (by decide) ?_
  refine xv_istore_n (L' := [(1, .int 0), (0, .ref (E.2.2.2 + iC_striking))]) rfl dX7_measure_1 rfl (Nat.le_of_ble_eq_true rfl) rfl ?_
  obtain ⟨q9, hq9, h⟩ := xbd_some h
  refine ev_sub (L' := [(0, .ref (E.2.2.2 + iC_striking)), (1, .int 0)]) [1, 0] rfl ?_
  refine xloop_run (fun v => Ev E (xcm E d 0 0 QQ) Y_X7_measure 2 [(0, .ref (E.2.2.2 + iC_striking)), (1, .int v.1)] [] (xσ v.2 R) n 0 0) (fun v => Ev E (xcm E d 0 0 QQ) Y_X7_measure 43 [(0, .ref (E.2.2.2 + iC_striking))] [] (xσ v R) n 0 0) ?_ _ _ _ hq9 ?_
  · rintro ⟨x1, μ2⟩ y3 h hk
    replace h : fX7_measure_b2 x1 μ2 = some y3 := h
    show Ev E (xcm E d 0 0 QQ) Y_X7_measure 2 [(0, .ref (E.2.2.2 + iC_striking)), (1, .int x1)] [] (xσ μ2 R) n 0 0
    unfold fX7_measure_b2 at h
    refine ev_iload_n 1 dX7_measure_2 rfl rfl ?_
    refine ev_bipush (v := 8) dX7_measure_3 (by decide) ?_
    refine ev_icmp_ge (tgt := 43) dX7_measure_5 (by decide) (fun c5 => ?_) (fun c5 => ?_)
    · replace h := xif_t c5 h
      cases h
      replace hk := xel_r hk
      exact ev_sub [0] rfl (hk)
    · replace h := xif_f c5 h
      refine ev_aload_n 0 dX7_measure_8 rfl rfl ?_
      refine xv_getF (a := iC_striking_away) cl_7 lk_RX7_21 kd_35 (xl hF rfl) (fun _ => rfl) (fr_35_3 hF) dX7_measure_9 ?_
      refine ev_iload_n 1 dX7_measure_12 rfl rfl ?_
      refine ev_aload_n 0 dX7_measure_13 rfl rfl ?_
      refine xv_getF (a := iC_striking_balance) cl_7 lk_RX7_18 kd_35 (xl hF rfl) (fun _ => rfl) (fr_35_2 hF) dX7_measure_14 ?_
      refine ev_iload_n 1 dX7_measure_17 rfl rfl ?_
      obtain ⟨v4, hv4, h⟩ := xbd_some h
      refine xv_iald kd_38 (xl hF rfl) hv4 dX7_measure_18 ?_
      have j29 : ∀ (x5 : Int32), fX7_measure_j29 x5 x1 μ2 = some y3 → Ev E (xcm E d 0 0 QQ) Y_X7_measure 29 [(0, .ref (E.2.2.2 + iC_striking)), (1, .int x1)] [.int x5, .int x1, .ref (E.2.2.2 + iC_striking_away)] (xσ μ2 R) n 0 0 := by
        intro x5 h
        unfold fX7_measure_j29 at h
        obtain ⟨μ6, hμ6, h⟩ := xbd_some h
        refine xv_iast kd_39 (xl hF rfl) hμ6 dX7_measure_29 ?_
        refine ev_aload_n 0 dX7_measure_30 rfl rfl ?_
        refine xv_getF (a := iC_striking_from) cl_7 lk_RX7_24 kd_35 (xl hF rfl) (fun _ => rfl) (fr_35_4 hF) dX7_measure_31 ?_
        refine ev_iload_n 1 dX7_measure_34 rfl rfl ?_
        refine ev_iconst (v := (-1)) dX7_measure_35 (by decide) ?_
        obtain ⟨μ7, hμ7, h⟩ := xbd_some h
        refine xv_iast kd_40 (xl hF rfl) hμ7 dX7_measure_36 ?_
        obtain ⟨x8, hx8, h⟩ := xlt_some h
        refine ev_iinc (L' := [(1, .int x8), (0, .ref (E.2.2.2 + iC_striking))]) 1 dX7_measure_37 rfl ((by rfl : x1 + Int32.ofInt 1 = x1 + 1).trans hx8) (Nat.le_of_ble_eq_true rfl) rfl ?_
        refine ev_goto (tgt := 2) dX7_measure_40 (by decide) ?_
        cases h
        replace hk := xel_l hk
        exact ev_sub [1, 0] rfl (hk)
      refine ev_if_le (tgt := 26) dX7_measure_19 (by decide) (fun c19 => ?_) (fun c19 => ?_)
      · replace h := xif_t c19 h
        refine ev_sipush (v := 1000) dX7_measure_26 (by decide) ?_
        exact ev_sub [0, 1] rfl (j29 _ h)
      · replace h := xif_f c19 h
        refine ev_iconst (v := 0) dX7_measure_22 (by decide) ?_
        refine ev_goto (tgt := 29) dX7_measure_23 (by decide) ?_
        exact ev_sub [0, 1] rfl (j29 _ h)
  · show Ev E (xcm E d 0 0 QQ) Y_X7_measure 43 [(0, .ref (E.2.2.2 + iC_striking))] [] (xσ q9 R) n 0 0
    refine ev_iconst (v := 1) dX7_measure_43 (by decide) ?_
    refine xv_istore_n (L' := [(1, .int 1), (0, .ref (E.2.2.2 + iC_striking))]) rfl dX7_measure_44 rfl (Nat.le_of_ble_eq_true rfl) rfl ?_
    refine ev_iconst (v := 0) dX7_measure_45 (by decide) ?_
    refine xv_istore_n (L' := [(2, .int 0), (1, .int 1), (0, .ref (E.2.2.2 + iC_striking))]) rfl dX7_measure_46 rfl (Nat.le_of_ble_eq_true rfl) rfl ?_
    obtain ⟨q25, hq25, h⟩ := xbd_some h
    refine ev_sub (L' := [(0, .ref (E.2.2.2 + iC_striking)), (1, .int 1), (2, .int 0)]) [2, 1, 0] rfl ?_
    refine xloop_run (fun v => Ev E (xcm E d 0 0 QQ) Y_X7_measure 47 [(0, .ref (E.2.2.2 + iC_striking)), (1, .int v.1), (2, .int v.2.1)] [] (xσ v.2.2 R) n 0 0) (fun v => Ev E (xcm E d 0 0 QQ) Y_X7_measure 101 [] [] (xσ v R) n 0 0) ?_ _ _ _ hq25 ?_
    · rintro ⟨x10, x11, μ12⟩ y13 h hk
      replace h : fX7_measure_b47 x10 x11 μ12 = some y13 := h
      show Ev E (xcm E d 0 0 QQ) Y_X7_measure 47 [(0, .ref (E.2.2.2 + iC_striking)), (1, .int x10), (2, .int x11)] [] (xσ μ12 R) n 0 0
      unfold fX7_measure_b47 at h
      refine ev_iload_n 2 dX7_measure_47 rfl rfl ?_
      refine ev_bipush (v := 8) dX7_measure_48 (by decide) ?_
      refine ev_icmp_ge (tgt := 101) dX7_measure_50 (by decide) (fun c50 => ?_) (fun c50 => ?_)
      · replace h := xif_t c50 h
        cases h
        replace hk := xel_r hk
        exact ev_sub [] rfl (hk)
      · replace h := xif_f c50 h
        refine ev_iload_n 1 dX7_measure_53 rfl rfl ?_
        refine ev_if_eq (tgt := 101) dX7_measure_54 (by decide) (fun c54 => ?_) (fun c54 => ?_)
        · replace h := xif_t c54 h
          cases h
          replace hk := xel_r hk
          exact ev_sub [] rfl (hk)
        · replace h := xif_f c54 h
          refine ev_iconst (v := 0) dX7_measure_57 (by decide) ?_
          refine xv_istore_n (L' := [(1, .int 0), (0, .ref (E.2.2.2 + iC_striking)), (2, .int x11)]) rfl dX7_measure_58 rfl (Nat.le_of_ble_eq_true rfl) rfl ?_
          refine ev_iconst (v := 0) dX7_measure_59 (by decide) ?_
          refine xv_istore_n (L' := [(3, .int 0), (1, .int 0), (0, .ref (E.2.2.2 + iC_striking)), (2, .int x11)]) rfl dX7_measure_60 rfl (Nat.le_of_ble_eq_true rfl) rfl ?_
          obtain ⟨q23, hq23, h⟩ := xbd_some h
          refine ev_sub (L' := [(0, .ref (E.2.2.2 + iC_striking)), (1, .int 0), (2, .int x11), (3, .int 0)]) [2, 1, 3, 0] rfl ?_
          refine xloop_run (fun v => Ev E (xcm E d 0 0 QQ) Y_X7_measure 61 [(0, .ref (E.2.2.2 + iC_striking)), (1, .int v.1), (2, .int x11), (3, .int v.2.1)] [] (xσ v.2.2 R) n 0 0) (fun v => Ev E (xcm E d 0 0 QQ) Y_X7_measure 95 [(0, .ref (E.2.2.2 + iC_striking)), (1, .int v.1), (2, .int x11)] [] (xσ v.2 R) n 0 0) ?_ _ _ _ hq23 ?_
          · rintro ⟨x14, x15, μ16⟩ y17 h hk
            replace h : fX7_measure_b61 x14 x15 μ16 = some y17 := h
            show Ev E (xcm E d 0 0 QQ) Y_X7_measure 61 [(0, .ref (E.2.2.2 + iC_striking)), (1, .int x14), (2, .int x11), (3, .int x15)] [] (xσ μ16 R) n 0 0
            unfold fX7_measure_b61 at h
            refine ev_iload_n 3 dX7_measure_61 rfl rfl ?_
            refine ev_bipush (v := 8) dX7_measure_62 (by decide) ?_
            refine ev_icmp_ge (tgt := 95) dX7_measure_64 (by decide) (fun c64 => ?_) (fun c64 => ?_)
            · replace h := xif_t c64 h
              cases h
              replace hk := xel_r hk
              exact ev_sub [0, 1, 2] rfl (hk)
            · replace h := xif_f c64 h
              refine ev_aload_n 0 dX7_measure_67 rfl rfl ?_
              refine xv_getF (a := iC_striking_away) cl_7 lk_RX7_21 kd_35 (xl hF rfl) (fun _ => rfl) (fr_35_3 hF) dX7_measure_68 ?_
              refine ev_iload_n 3 dX7_measure_71 rfl rfl ?_
              obtain ⟨v18, hv18, h⟩ := xbd_some h
              refine xv_iald kd_39 (xl hF rfl) hv18 dX7_measure_72 ?_
              refine ev_sipush (v := 1000) dX7_measure_73 (by decide) ?_
              refine ev_icmp_ge (tgt := 89) dX7_measure_76 (by decide) (fun c76 => ?_) (fun c76 => ?_)
              · replace h := xif_t c76 h
                obtain ⟨x19, hx19, h⟩ := xlt_some h
                refine ev_iinc (L' := [(3, .int x19), (0, .ref (E.2.2.2 + iC_striking)), (1, .int x14), (2, .int x11)]) 3 dX7_measure_89 rfl ((by rfl : x15 + Int32.ofInt 1 = x15 + 1).trans hx19) (Nat.le_of_ble_eq_true rfl) rfl ?_
                refine ev_goto (tgt := 61) dX7_measure_92 (by decide) ?_
                cases h
                replace hk := xel_l hk
                exact ev_sub [1, 2, 3, 0] rfl (hk)
              · replace h := xif_f c76 h
                refine ev_aload_n 0 dX7_measure_79 rfl rfl ?_
                refine ev_iload_n 3 dX7_measure_80 rfl rfl ?_
                obtain ⟨q20, hq20, h⟩ := xbd_some h
                refine ev_callV (ci := 7) (rest := []) 1 (kX7_widen (E := E) (d := 3) (QQ := (fun v τ n' => v = some (.int q20.1) ∧ τ = xσ q20.2 R ∧ n = n')) (Nat.le_refl _) hF hq20 (⟨rfl, rfl, rfl⟩)) my_X7_widen ⟨m_912, m_914, m_20⟩ cl_7 kd_35 (xl hF rfl) rfl rfl (Nat.le_of_ble_eq_true rfl) (Nat.le_trans (by decide) hd) (xlo (by decide) (Nat.le_trans (by decide) hd)) (Nat.zero_le _) (Nat.zero_le _) dX7_measure_81 (fun v τ n' hv => ?_)
                obtain ⟨rfl, rfl, rfl⟩ := hv
                show Ev E (xcm E d 0 0 QQ) Y_X7_measure 84 [(0, .ref (E.2.2.2 + iC_striking)), (1, .int x14), (2, .int x11), (3, .int x15)] [.int q20.1] (xσ q20.2 R) n 0 0
                refine ev_if_eq (tgt := 89) dX7_measure_84 (by decide) (fun c84 => ?_) (fun c84 => ?_)
                · replace h := xif_t c84 h
                  obtain ⟨x21, hx21, h⟩ := xlt_some h
                  refine ev_iinc (L' := [(3, .int x21), (0, .ref (E.2.2.2 + iC_striking)), (1, .int x14), (2, .int x11)]) 3 dX7_measure_89 rfl ((by rfl : x15 + Int32.ofInt 1 = x15 + 1).trans hx21) (Nat.le_of_ble_eq_true rfl) rfl ?_
                  refine ev_goto (tgt := 61) dX7_measure_92 (by decide) ?_
                  cases h
                  replace hk := xel_l hk
                  exact ev_sub [1, 2, 3, 0] rfl (hk)
                · replace h := xif_f c84 h
                  refine ev_iconst (v := 1) dX7_measure_87 (by decide) ?_
                  refine xv_istore_n (L' := [(1, .int 1), (0, .ref (E.2.2.2 + iC_striking)), (2, .int x11), (3, .int x15)]) rfl dX7_measure_88 rfl (Nat.le_of_ble_eq_true rfl) rfl ?_
                  obtain ⟨x22, hx22, h⟩ := xlt_some h
                  refine ev_iinc (L' := [(3, .int x22), (1, .int 1), (0, .ref (E.2.2.2 + iC_striking)), (2, .int x11)]) 3 dX7_measure_89 rfl ((by rfl : x15 + Int32.ofInt 1 = x15 + 1).trans hx22) (Nat.le_of_ble_eq_true rfl) rfl ?_
                  refine ev_goto (tgt := 61) dX7_measure_92 (by decide) ?_
                  cases h
                  replace hk := xel_l hk
                  exact ev_sub [2, 1, 3, 0] rfl (hk)
          · show Ev E (xcm E d 0 0 QQ) Y_X7_measure 95 [(0, .ref (E.2.2.2 + iC_striking)), (1, .int q23.1), (2, .int x11)] [] (xσ q23.2 R) n 0 0
            obtain ⟨x24, hx24, h⟩ := xlt_some h
            refine ev_iinc (L' := [(2, .int x24), (0, .ref (E.2.2.2 + iC_striking)), (1, .int q23.1)]) 2 dX7_measure_95 rfl ((by rfl : x11 + Int32.ofInt 1 = x11 + 1).trans hx24) (Nat.le_of_ble_eq_true rfl) rfl ?_
            refine ev_goto (tgt := 47) dX7_measure_98 (by decide) ?_
            cases h
            replace hk := xel_l hk
            exact ev_sub [1, 2, 0] rfl (hk)
    · show Ev E (xcm E d 0 0 QQ) Y_X7_measure 101 [] [] (xσ q25 R) n 0 0
      cases h
      exact ev_vret rfl (hQ) dX7_measure_101 (Nat.zero_le _) (Nat.zero_le _)
def fX10_costOfRow_b6 (x1 : Int64) (x2 : Int32) (p0 : Nat) (p1 : Nat) (p2 : Int32) (p3 : Int32) (p4 : Int32) (p5 : Int32) (μ : xm) : Option ((Int64 × Int32) ⊕ (Int64)) := if 2 ≤ x2 then (some (.inr x1)) else (xbd (fX10_bridgeWeight x2 μ) fun q4 => if q4 ≤ 0 then (xlt (x2 + 1) fun x5 => some (.inl (x1, x5))) else (xbd (fX10_costOfBoth p0 p1 p2 p3 ((μ.1 p0 1) - p4) x2 p5 μ) fun q6 => xlt (x1 + (q4.toInt64 * q6)) fun x7 => xlt (x2 + 1) fun x8 => some (.inl (x7, x8))))
def fX10_costOfRow (p0 : Nat) (p1 : Nat) (p2 : Int32) (p3 : Int32) (p4 : Int32) (p5 : Int32) (μ : xm) : Option (Int64) := xbd (xloop xfu (fun v => fX10_costOfRow_b6 v.1 v.2 p0 p1 p2 p3 p4 p5 μ) (0, 0)) fun q9 => some q9
set_option maxHeartbeats 4000000 in
set_option maxRecDepth 100000 in
theorem kX10_costOfRow {E : xE} {d : Nat} {QQ : xP} (hd : 5 ≤ d) {p0 : Nat} {p1 : Nat} {p2 : Int32} {p3 : Int32} {p4 : Int32} {p5 : Int32} {μ : xm} {R : xr} {n : Nat} (hF : xFin R n) (hp0 : xIs 2 p0 n) (hp1 : xIs 2 p1 n) {res : Int64} (h : fX10_costOfRow p0 p1 p2 p3 p4 p5 μ = some res) (hQ : QQ (some (.long res)) (xσ μ R) n) : xCon E d Y_X10_costOfRow 0 0 [.ref (E.2.2.2 + iC_ways), .ref (E.2.2.2 + p0), .ref (E.2.2.2 + p1), .int p2, .int p3, .int p4, .int p5] (xσ μ R) n QQ := by
  refine xCon_of pn_RX10 (Nat.le_of_ble_eq_true rfl) (L0 := [(0, .ref (E.2.2.2 + iC_ways)), (1, .ref (E.2.2.2 + p0)), (2, .ref (E.2.2.2 + p1)), (3, .int p2), (4, .int p3), (5, .int p4), (6, .int p5)]) rfl ?_
  unfold fX10_costOfRow at h
  refine ev_lconst (v := 0) dX10_costOfRow_0 (by decide) ?_
  refine xv_lstore (L' := [(7, .long 0), (0, .ref (E.2.2.2 + iC_ways)), (1, .ref (E.2.2.2 + p0)), (2, .ref (E.2.2.2 + p1)), (3, .int p2), (4, .int p3), (5, .int p4), (6, .int p5)]) rfl dX10_costOfRow_1 (Nat.le_of_ble_eq_true rfl) rfl ?_
  refine ev_iconst (v := 0) dX10_costOfRow_3 (by decide) ?_
  refine xv_istore (L' := [(9, .int 0), (7, .long 0), (0, .ref (E.2.2.2 + iC_ways)), (1, .ref (E.2.2.2 + p0)), (2, .ref (E.2.2.2 + p1)), (3, .int p2), (4, .int p3), (5, .int p4), (6, .int p5)]) rfl dX10_costOfRow_4 (Nat.le_of_ble_eq_true rfl) rfl ?_
  obtain ⟨q9, hq9, h⟩ := xbd_some h
  refine ev_sub (L' := [(0, .ref (E.2.2.2 + iC_ways)), (1, .ref (E.2.2.2 + p0)), (2, .ref (E.2.2.2 + p1)), (3, .int p2), (4, .int p3), (5, .int p4), (6, .int p5), (7, .long 0), (9, .int 0)]) [2, 3, 4, 5, 6, 7, 8, 1, 0] rfl ?_
  refine xloop_run (fun v => Ev E (xcm E d 0 0 QQ) Y_X10_costOfRow 6 [(0, .ref (E.2.2.2 + iC_ways)), (1, .ref (E.2.2.2 + p0)), (2, .ref (E.2.2.2 + p1)), (3, .int p2), (4, .int p3), (5, .int p4), (6, .int p5), (7, .long v.1), (9, .int v.2)] [] (xσ μ R) n 0 0) (fun v => Ev E (xcm E d 0 0 QQ) Y_X10_costOfRow 60 [(7, .long v)] [] (xσ μ R) n 0 0) ?_ _ _ _ hq9 ?_
  · rintro ⟨x1, x2⟩ y3 h hk
    replace h : fX10_costOfRow_b6 x1 x2 p0 p1 p2 p3 p4 p5 μ = some y3 := h
    show Ev E (xcm E d 0 0 QQ) Y_X10_costOfRow 6 [(0, .ref (E.2.2.2 + iC_ways)), (1, .ref (E.2.2.2 + p0)), (2, .ref (E.2.2.2 + p1)), (3, .int p2), (4, .int p3), (5, .int p4), (6, .int p5), (7, .long x1), (9, .int x2)] [] (xσ μ R) n 0 0
    unfold fX10_costOfRow_b6 at h
    refine ev_iload 8 dX10_costOfRow_6 rfl ?_
    refine ev_iconst (v := 2) dX10_costOfRow_8 (by decide) ?_
    refine ev_icmp_ge (tgt := 60) dX10_costOfRow_9 (by decide) (fun c9 => ?_) (fun c9 => ?_)
    · replace h := xif_t c9 h
      cases h
      replace hk := xel_r hk
      exact ev_sub [7] rfl (hk)
    · replace h := xif_f c9 h
      refine ev_aload_n 0 dX10_costOfRow_12 rfl rfl ?_
      refine ev_iload 8 dX10_costOfRow_13 rfl ?_
      obtain ⟨q4, hq4, h⟩ := xbd_some h
      refine ev_callV (ci := 10) (rest := []) 1 (kX10_bridgeWeight (E := E) (d := 0) (QQ := (fun v τ n' => v = some (.int q4) ∧ τ = xσ μ R ∧ n = n')) (Nat.le_refl _) hF hq4 (⟨rfl, rfl, rfl⟩)) my_X10_bridgeWeight ⟨m_991, m_992, m_993⟩ cl_10 kd_42 (xl hF rfl) rfl rfl (Nat.le_of_ble_eq_true rfl) (Nat.le_trans (by decide) hd) (xlo (by decide) (Nat.le_trans (by decide) hd)) (Nat.zero_le _) (Nat.zero_le _) dX10_costOfRow_15 (fun v τ n' hv => ?_)
      obtain ⟨rfl, rfl, rfl⟩ := hv
      show Ev E (xcm E d 0 0 QQ) Y_X10_costOfRow 18 [(0, .ref (E.2.2.2 + iC_ways)), (1, .ref (E.2.2.2 + p0)), (2, .ref (E.2.2.2 + p1)), (3, .int p2), (4, .int p3), (5, .int p4), (6, .int p5), (7, .long x1), (9, .int x2)] [.int q4] (xσ μ R) n 0 0
      refine xv_istore (L' := [(10, .int q4), (0, .ref (E.2.2.2 + iC_ways)), (1, .ref (E.2.2.2 + p0)), (2, .ref (E.2.2.2 + p1)), (3, .int p2), (4, .int p3), (5, .int p4), (6, .int p5), (7, .long x1), (9, .int x2)]) rfl dX10_costOfRow_18 (Nat.le_of_ble_eq_true rfl) rfl ?_
      refine ev_iload 0 dX10_costOfRow_20 rfl ?_
      refine ev_if_le (tgt := 54) dX10_costOfRow_22 (by decide) (fun c22 => ?_) (fun c22 => ?_)
      · replace h := xif_t c22 h
        obtain ⟨x5, hx5, h⟩ := xlt_some h
        refine ev_iinc (L' := [(9, .int x5), (10, .int q4), (0, .ref (E.2.2.2 + iC_ways)), (1, .ref (E.2.2.2 + p0)), (2, .ref (E.2.2.2 + p1)), (3, .int p2), (4, .int p3), (5, .int p4), (6, .int p5), (7, .long x1)]) 9 dX10_costOfRow_54 rfl ((by rfl : x2 + Int32.ofInt 1 = x2 + 1).trans hx5) (Nat.le_of_ble_eq_true rfl) rfl ?_
        refine ev_goto (tgt := 6) dX10_costOfRow_57 (by decide) ?_
        cases h
        replace hk := xel_l hk
        exact ev_sub [2, 3, 4, 5, 6, 7, 8, 9, 0] rfl (hk)
      · replace h := xif_f c22 h
        refine ev_lload 8 dX10_costOfRow_25 rfl ?_
        refine ev_iload 0 dX10_costOfRow_27 rfl ?_
        refine ev_i2l dX10_costOfRow_29 ?_
        refine ev_aload_n 1 dX10_costOfRow_30 rfl rfl ?_
        refine ev_aload_n 2 dX10_costOfRow_31 rfl rfl ?_
        refine ev_aload_n 3 dX10_costOfRow_32 rfl rfl ?_
        refine ev_iload_n 4 dX10_costOfRow_33 rfl rfl ?_
        refine ev_iload 5 dX10_costOfRow_34 rfl ?_
        refine ev_aload_n 2 dX10_costOfRow_36 rfl rfl ?_
        refine xv_getIN cl_2 ln_RX10_93 (xIs2_kd hp0) (xIs2_lt hp0) (fun _ => rfl) dX10_costOfRow_37 ?_
        refine ev_iload 6 dX10_costOfRow_40 rfl ?_
        refine ev_isub dX10_costOfRow_42 ?_
        refine ev_iload 9 dX10_costOfRow_43 rfl ?_
        refine ev_iload 7 dX10_costOfRow_45 rfl ?_
        obtain ⟨q6, hq6, h⟩ := xbd_some h
        refine ev_callV (ci := 10) (rest := [.long (q4.toInt64), .long x1]) 7 (kX10_costOfBoth (E := E) (d := 4) (QQ := (fun v τ n' => v = some (.long q6) ∧ τ = xσ μ R ∧ n = n')) (Nat.le_refl _) hF hp0 hp1 hq6 (⟨rfl, rfl, rfl⟩)) my_X10_costOfBoth ⟨m_1080, m_1082, m_32⟩ cl_10 kd_42 (xl hF rfl) rfl rfl (Nat.le_of_ble_eq_true rfl) (Nat.le_trans (by decide) hd) (xlo (by decide) (Nat.le_trans (by decide) hd)) (Nat.zero_le _) (Nat.zero_le _) dX10_costOfRow_47 (fun v τ n' hv => ?_)
        obtain ⟨rfl, rfl, rfl⟩ := hv
        show Ev E (xcm E d 0 0 QQ) Y_X10_costOfRow 50 [(10, .int q4), (0, .ref (E.2.2.2 + iC_ways)), (1, .ref (E.2.2.2 + p0)), (2, .ref (E.2.2.2 + p1)), (3, .int p2), (4, .int p3), (5, .int p4), (6, .int p5), (7, .long x1), (9, .int x2)] [.long q6, .long (q4.toInt64), .long x1] (xσ μ R) n 0 0
        refine ev_lmul dX10_costOfRow_50 ?_
        refine ev_ladd dX10_costOfRow_51 ?_
        obtain ⟨x7, hx7, h⟩ := xlt_some h
        refine xv_lstore (L' := [(7, .long x7), (10, .int q4), (0, .ref (E.2.2.2 + iC_ways)), (1, .ref (E.2.2.2 + p0)), (2, .ref (E.2.2.2 + p1)), (3, .int p2), (4, .int p3), (5, .int p4), (6, .int p5), (9, .int x2)]) hx7 dX10_costOfRow_52 (Nat.le_of_ble_eq_true rfl) rfl ?_
        obtain ⟨x8, hx8, h⟩ := xlt_some h
        refine ev_iinc (L' := [(9, .int x8), (7, .long x7), (10, .int q4), (0, .ref (E.2.2.2 + iC_ways)), (1, .ref (E.2.2.2 + p0)), (2, .ref (E.2.2.2 + p1)), (3, .int p2), (4, .int p3), (5, .int p4), (6, .int p5)]) 9 dX10_costOfRow_54 rfl ((by rfl : x2 + Int32.ofInt 1 = x2 + 1).trans hx8) (Nat.le_of_ble_eq_true rfl) rfl ?_
        refine ev_goto (tgt := 6) dX10_costOfRow_57 (by decide) ?_
        cases h
        replace hk := xel_l hk
        exact ev_sub [3, 4, 5, 6, 7, 8, 9, 1, 0] rfl (hk)
  · show Ev E (xcm E d 0 0 QQ) Y_X10_costOfRow 60 [(7, .long q9)] [] (xσ μ R) n 0 0
    refine ev_lload 0 dX10_costOfRow_60 rfl ?_
    cases h
    exact ev_lret rfl (hQ) dX10_costOfRow_62 (Nat.zero_le _) (Nat.zero_le _)
def fX11_cost (p0 : Int32) (p1 : Int32) (p2 : Int32) (p3 : Int32) (μ : xm) (R : xr) : Option (Int64) := xbd (fX3_find p0 μ R) fun q1 => xop q1 (some (-1)) (fun a2 => xbd (fX2_includes a2 p1 μ) fun q3 => if q3 = 0 then (some (-1)) else (xbd (fX11_within p3 0 99) fun q4 => if q4 = 0 then (some (-1)) else (xbd (fX11_within p2 (-60) 600) fun q5 => if q5 = 0 then (some (-1)) else (xbd (fX10_costOfOne a2 p1 p2 p3 μ) fun q6 => some q6))))
set_option maxHeartbeats 4000000 in
set_option maxRecDepth 100000 in
theorem kX11_cost {E : xE} {d : Nat} {QQ : xP} (hd : 5 ≤ d) {p0 : Int32} {p1 : Int32} {p2 : Int32} {p3 : Int32} {μ : xm} {R : xr} {n : Nat} (hF : xFin R n)  {res : Int64} (h : fX11_cost p0 p1 p2 p3 μ R = some res) (hQ : QQ (some (.long res)) (xσ μ R) n) : xCon E d Y_X11_cost 0 0 [.ref (E.2.2.2 + iC), .int p0, .int p1, .int p2, .int p3] (xσ μ R) n QQ := by
  refine xCon_of pn_RX11 (Nat.le_of_ble_eq_true rfl) (L0 := [(0, .ref (E.2.2.2 + iC)), (1, .int p0), (2, .int p1), (3, .int p2), (4, .int p3)]) rfl ?_
  unfold fX11_cost at h
  refine ev_aload_n 0 dX11_cost_0 rfl rfl ?_
  refine xv_getF (a := iC_meetings) cl_11 lk_RX11_35 kd_0 (xl hF rfl) (fun _ => rfl) (fr_0_3 hF) dX11_cost_1 ?_
  refine ev_iload_n 1 dX11_cost_4 rfl rfl ?_
  obtain ⟨q1, hq1, h⟩ := xbd_some h
  refine ev_callV (ci := 3) (rest := []) 1 (kX3_find (E := E) (d := 0) (QQ := (fun v τ n' => v = some (xrf E.2.2.2 q1) ∧ τ = xσ μ R ∧ n = n' ∧ (∀ a, q1 = some a → xIs 2 a n))) (Nat.le_refl _) hF hq1 (fun z0 => ⟨rfl, rfl, rfl, z0⟩)) my_X3_find ⟨m_491, m_492, m_493⟩ cl_3 kd_23 (xl hF rfl) rfl rfl (Nat.le_of_ble_eq_true rfl) (Nat.le_trans (by decide) hd) (xlo (by decide) (Nat.le_trans (by decide) hd)) (Nat.zero_le _) (Nat.zero_le _) dX11_cost_5 (fun v τ n' hv => ?_)
  obtain ⟨rfl, rfl, rfl, hvq1⟩ := hv
  show Ev E (xcm E d 0 0 QQ) Y_X11_cost 8 [(0, .ref (E.2.2.2 + iC)), (1, .int p0), (2, .int p1), (3, .int p2), (4, .int p3)] [xrf E.2.2.2 q1] (xσ μ R) n 0 0
  refine xv_astore (r := q1) (L' := [(5, xrf E.2.2.2 q1), (0, .ref (E.2.2.2 + iC)), (1, .int p0), (2, .int p1), (3, .int p2), (4, .int p3)]) dX11_cost_8 (Nat.le_of_ble_eq_true rfl) rfl ?_
  refine xv_aload (r := q1) 0 dX11_cost_10 rfl ?_
  refine ev_ifnull (r := q1) (tgt := 35) dX11_cost_12 (by decide) (fun hr => ?_) (fun a2 hr => ?_)
  · subst hr
    replace h := xop_n h
    refine ev_ldc2 (v := (-1)) m_875 dX11_cost_35 ?_
    cases h
    exact ev_lret rfl (hQ) dX11_cost_38 (Nat.zero_le _) (Nat.zero_le _)
  · subst hr
    replace h := xop_s h
    have ha2 := hvq1 a2 rfl
    refine ev_aload 0 dX11_cost_15 rfl ?_
    refine ev_iload_n 3 dX11_cost_17 rfl rfl ?_
    obtain ⟨q3, hq3, h⟩ := xbd_some h
    refine ev_callV (ci := 2) (rest := []) 1 (kX2_includes (E := E) (d := 0) (QQ := (fun v τ n' => v = some (.int q3) ∧ τ = xσ μ R ∧ n = n')) (Nat.le_refl _) hF ha2 hq3 (⟨rfl, rfl, rfl⟩)) my_X2_includes ⟨m_499, m_500, m_501⟩ cl_2 (xIs2_kd ha2) (xIs2_lt ha2) rfl rfl (Nat.le_of_ble_eq_true rfl) (Nat.le_trans (by decide) hd) (xlo (by decide) (Nat.le_trans (by decide) hd)) (Nat.zero_le _) (Nat.zero_le _) dX11_cost_18 (fun v τ n' hv => ?_)
    obtain ⟨rfl, rfl, rfl⟩ := hv
    show Ev E (xcm E d 0 0 QQ) Y_X11_cost 21 [(5, .ref (E.2.2.2 + a2)), (0, .ref (E.2.2.2 + iC)), (1, .int p0), (2, .int p1), (3, .int p2), (4, .int p3)] [.int q3] (xσ μ R) n 0 0
    refine ev_if_eq (tgt := 35) dX11_cost_21 (by decide) (fun c21 => ?_) (fun c21 => ?_)
    · replace h := xif_t c21 h
      refine ev_ldc2 (v := (-1)) m_875 dX11_cost_35 ?_
      cases h
      exact ev_lret rfl (hQ) dX11_cost_38 (Nat.zero_le _) (Nat.zero_le _)
    · replace h := xif_f c21 h
      refine ev_iload 5 dX11_cost_24 rfl ?_
      refine ev_iconst (v := 0) dX11_cost_26 (by decide) ?_
      refine ev_bipush (v := 99) dX11_cost_27 (by decide) ?_
      obtain ⟨q4, hq4, h⟩ := xbd_some h
      refine ev_callS (As := [.int p3, .int 0, .int 99]) (rest := []) 3 (kX11_within (E := E) (d := 0) (QQ := (fun v τ n' => v = some (.int q4) ∧ τ = xσ μ R ∧ n = n')) (Nat.le_refl _)  hq4 (⟨rfl, rfl, rfl⟩)) my_X11_within ⟨m_424, m_425⟩ rfl rfl (Nat.le_of_ble_eq_true rfl) (Nat.le_trans (by decide) hd) (xlo (by decide) (Nat.le_trans (by decide) hd)) (Nat.zero_le _) (Nat.zero_le _) dX11_cost_29 (fun v τ n' hv => ?_)
      obtain ⟨rfl, rfl, rfl⟩ := hv
      show Ev E (xcm E d 0 0 QQ) Y_X11_cost 32 [(5, .ref (E.2.2.2 + a2)), (0, .ref (E.2.2.2 + iC)), (1, .int p0), (2, .int p1), (3, .int p2), (4, .int p3)] [.int q4] (xσ μ R) n 0 0
      refine ev_if_ne (tgt := 39) dX11_cost_32 (by decide) (fun c32 => ?_) (fun c32 => ?_)
      · replace h := xif_f c32 h
        refine ev_iload_n 4 dX11_cost_39 rfl rfl ?_
        refine ev_bipush (v := (-60)) dX11_cost_40 (by decide) ?_
        refine ev_sipush (v := 600) dX11_cost_42 (by decide) ?_
        obtain ⟨q5, hq5, h⟩ := xbd_some h
        refine ev_callS (As := [.int p2, .int (-60), .int 600]) (rest := []) 3 (kX11_within (E := E) (d := 0) (QQ := (fun v τ n' => v = some (.int q5) ∧ τ = xσ μ R ∧ n = n')) (Nat.le_refl _)  hq5 (⟨rfl, rfl, rfl⟩)) my_X11_within ⟨m_424, m_425⟩ rfl rfl (Nat.le_of_ble_eq_true rfl) (Nat.le_trans (by decide) hd) (xlo (by decide) (Nat.le_trans (by decide) hd)) (Nat.zero_le _) (Nat.zero_le _) dX11_cost_45 (fun v τ n' hv => ?_)
        obtain ⟨rfl, rfl, rfl⟩ := hv
        show Ev E (xcm E d 0 0 QQ) Y_X11_cost 48 [(5, .ref (E.2.2.2 + a2)), (0, .ref (E.2.2.2 + iC)), (1, .int p0), (2, .int p1), (3, .int p2), (4, .int p3)] [.int q5] (xσ μ R) n 0 0
        refine ev_if_ne (tgt := 55) dX11_cost_48 (by decide) (fun c48 => ?_) (fun c48 => ?_)
        · replace h := xif_f c48 h
          refine ev_aload_n 1 dX11_cost_55 rfl rfl ?_
          refine xv_getF (a := iC_ways) cl_11 lk_RX11_56 kd_0 (xl hF rfl) (fun _ => rfl) (fr_0_6 hF) dX11_cost_56 ?_
          refine ev_aload 0 dX11_cost_59 rfl ?_
          refine ev_iload_n 3 dX11_cost_61 rfl rfl ?_
          refine ev_iload_n 4 dX11_cost_62 rfl rfl ?_
          refine ev_iload 5 dX11_cost_63 rfl ?_
          obtain ⟨q6, hq6, h⟩ := xbd_some h
          refine ev_callV (ci := 10) (rest := []) 4 (kX10_costOfOne (E := E) (d := 4) (QQ := (fun v τ n' => v = some (.long q6) ∧ τ = xσ μ R ∧ n = n')) (Nat.le_refl _) hF ha2 hq6 (⟨rfl, rfl, rfl⟩)) my_X10_costOfOne ⟨m_1050, m_1051, m_1052⟩ cl_10 kd_42 (xl hF rfl) rfl rfl (Nat.le_of_ble_eq_true rfl) (Nat.le_trans (by decide) hd) (xlo (by decide) (Nat.le_trans (by decide) hd)) (Nat.zero_le _) (Nat.zero_le _) dX11_cost_65 (fun v τ n' hv => ?_)
          obtain ⟨rfl, rfl, rfl⟩ := hv
          show Ev E (xcm E d 0 0 QQ) Y_X11_cost 68 [(5, .ref (E.2.2.2 + a2)), (0, .ref (E.2.2.2 + iC)), (1, .int p0), (2, .int p1), (3, .int p2), (4, .int p3)] [.long q6] (xσ μ R) n 0 0
          cases h
          exact ev_lret rfl (hQ) dX11_cost_68 (Nat.zero_le _) (Nat.zero_le _)
        · replace h := xif_t c48 h
          refine ev_ldc2 (v := (-1)) m_875 dX11_cost_51 ?_
          cases h
          exact ev_lret rfl (hQ) dX11_cost_54 (Nat.zero_le _) (Nat.zero_le _)
      · replace h := xif_t c32 h
        refine ev_ldc2 (v := (-1)) m_875 dX11_cost_35 ?_
        cases h
        exact ev_lret rfl (hQ) dX11_cost_38 (Nat.zero_le _) (Nat.zero_le _)
def fX11_followChain (p0 : Int32) (p1 : Int32) (p2 : Int32) (μ : xm) (R : xr) : Option (Option Nat × xm) := xbd (fX3_gather p0 p1 p2 μ R) fun q1 => xbd (q1.1) fun a2 => xbd (fX11_minutesOwed a2 q1.2 R) fun q3 => xbd (fX11_hundredths a2 q3.2 R) fun q4 => xbd (fX3_follow p0 p1 q3.1 q4.1 q4.2 R) fun q5 => some ((some a2), q5)
set_option maxHeartbeats 4000000 in
set_option maxRecDepth 100000 in
theorem kX11_followChain {E : xE} {d : Nat} {QQ : xP} (hd : 5 ≤ d) {p0 : Int32} {p1 : Int32} {p2 : Int32} {μ : xm} {R : xr} {n : Nat} (hF : xFin R n)  {res : Option Nat × xm} (h : fX11_followChain p0 p1 p2 μ R = some res) (hQ : (∀ a, res.1 = some a → xIsA 1 a n) → QQ (some (xrf E.2.2.2 res.1)) (xσ res.2 R) n) : xCon E d Y_X11_followChain 0 0 [.ref (E.2.2.2 + iC), .int p0, .int p1, .int p2] (xσ μ R) n QQ := by
  refine xCon_of pn_RX11 (Nat.le_of_ble_eq_true rfl) (L0 := [(0, .ref (E.2.2.2 + iC)), (1, .int p0), (2, .int p1), (3, .int p2)]) rfl ?_
  unfold fX11_followChain at h
  refine ev_aload_n 0 dX11_followChain_0 rfl rfl ?_
  refine xv_getF (a := iC_meetings) cl_11 lk_RX11_35 kd_0 (xl hF rfl) (fun _ => rfl) (fr_0_3 hF) dX11_followChain_1 ?_
  refine ev_iload_n 1 dX11_followChain_4 rfl rfl ?_
  refine ev_iload_n 2 dX11_followChain_5 rfl rfl ?_
  refine ev_iload_n 3 dX11_followChain_6 rfl rfl ?_
  obtain ⟨q1, hq1, h⟩ := xbd_some h
  refine ev_callV (ci := 3) (rest := []) 3 (kX3_gather (E := E) (d := 4) (QQ := (fun v τ n' => v = some (xrf E.2.2.2 q1.1) ∧ τ = xσ q1.2 R ∧ n = n' ∧ (∀ a, q1.1 = some a → xIsA 1 a n))) (Nat.le_refl _) hF hq1 (fun z0 => ⟨rfl, rfl, rfl, z0⟩)) my_X3_gather ⟨m_675, m_676, m_677⟩ cl_3 kd_23 (xl hF rfl) rfl rfl (Nat.le_of_ble_eq_true rfl) (Nat.le_trans (by decide) hd) (xlo (by decide) (Nat.le_trans (by decide) hd)) (Nat.zero_le _) (Nat.zero_le _) dX11_followChain_7 (fun v τ n' hv => ?_)
  obtain ⟨rfl, rfl, rfl, hvq1⟩ := hv
  show Ev E (xcm E d 0 0 QQ) Y_X11_followChain 10 [(0, .ref (E.2.2.2 + iC)), (1, .int p0), (2, .int p1), (3, .int p2)] [xrf E.2.2.2 q1.1] (xσ q1.2 R) n 0 0
  obtain ⟨a2, ha2, h⟩ := xbd_some h
  refine xv_nn ha2 ?_
  replace ha2 := hvq1 _ ha2
  refine ev_astore (L' := [(4, .ref (E.2.2.2 + a2)), (0, .ref (E.2.2.2 + iC)), (1, .int p0), (2, .int p1), (3, .int p2)]) dX11_followChain_10 (Nat.le_of_ble_eq_true rfl) rfl ?_
  refine ev_aload_n 1 dX11_followChain_12 rfl rfl ?_
  refine xv_getF (a := iC_meetings) cl_11 lk_RX11_35 kd_0 (xl hF rfl) (fun _ => rfl) (fr_0_3 hF) dX11_followChain_13 ?_
  refine ev_iload_n 2 dX11_followChain_16 rfl rfl ?_
  refine ev_iload_n 3 dX11_followChain_17 rfl rfl ?_
  refine ev_aload_n 1 dX11_followChain_18 rfl rfl ?_
  refine ev_aload 0 dX11_followChain_19 rfl ?_
  obtain ⟨q3, hq3, h⟩ := xbd_some h
  refine ev_callV (ci := 11) (rest := [.int p1, .int p0, .ref (E.2.2.2 + iC_meetings)]) 1 (kX11_minutesOwed (E := E) (d := 3) (QQ := (fun v τ n' => v = some (.int q3.1) ∧ τ = xσ q3.2 R ∧ n = n')) (Nat.le_refl _) hF ha2 hq3 (⟨rfl, rfl, rfl⟩)) my_X11_minutesOwed ⟨m_702, m_704, m_12⟩ cl_11 kd_0 (xl hF rfl) rfl rfl (Nat.le_of_ble_eq_true rfl) (Nat.le_trans (by decide) hd) (xlo (by decide) (Nat.le_trans (by decide) hd)) (Nat.zero_le _) (Nat.zero_le _) dX11_followChain_21 (fun v τ n' hv => ?_)
  obtain ⟨rfl, rfl, rfl⟩ := hv
  show Ev E (xcm E d 0 0 QQ) Y_X11_followChain 24 [(4, .ref (E.2.2.2 + a2)), (0, .ref (E.2.2.2 + iC)), (1, .int p0), (2, .int p1), (3, .int p2)] [.int q3.1, .int p1, .int p0, .ref (E.2.2.2 + iC_meetings)] (xσ q3.2 R) n 0 0
  refine ev_aload_n 1 dX11_followChain_24 rfl rfl ?_
  refine ev_aload 0 dX11_followChain_25 rfl ?_
  obtain ⟨q4, hq4, h⟩ := xbd_some h
  refine ev_callV (ci := 11) (rest := [.int q3.1, .int p1, .int p0, .ref (E.2.2.2 + iC_meetings)]) 1 (kX11_hundredths (E := E) (d := 3) (QQ := (fun v τ n' => v = some (.int q4.1) ∧ τ = xσ q4.2 R ∧ n = n')) (Nat.le_refl _) hF ha2 hq4 (⟨rfl, rfl, rfl⟩)) my_X11_hundredths ⟨m_731, m_733, m_14⟩ cl_11 kd_0 (xl hF rfl) rfl rfl (Nat.le_of_ble_eq_true rfl) (Nat.le_trans (by decide) hd) (xlo (by decide) (Nat.le_trans (by decide) hd)) (Nat.zero_le _) (Nat.zero_le _) dX11_followChain_27 (fun v τ n' hv => ?_)
  obtain ⟨rfl, rfl, rfl⟩ := hv
  show Ev E (xcm E d 0 0 QQ) Y_X11_followChain 30 [(4, .ref (E.2.2.2 + a2)), (0, .ref (E.2.2.2 + iC)), (1, .int p0), (2, .int p1), (3, .int p2)] [.int q4.1, .int q3.1, .int p1, .int p0, .ref (E.2.2.2 + iC_meetings)] (xσ q4.2 R) n 0 0
  obtain ⟨q5, hq5, h⟩ := xbd_some h
  refine ev_callV (ci := 3) (rest := []) 4 (kX3_follow (E := E) (d := 4) (QQ := (fun v τ n' => v = none ∧ τ = xσ q5 R ∧ n = n')) (Nat.le_refl _) hF hq5 (⟨rfl, rfl, rfl⟩)) my_X3_follow ⟨m_747, m_748, m_749⟩ cl_3 kd_23 (xl hF rfl) rfl rfl (Nat.le_of_ble_eq_true rfl) (Nat.le_trans (by decide) hd) (xlo (by decide) (Nat.le_trans (by decide) hd)) (Nat.zero_le _) (Nat.zero_le _) dX11_followChain_30 (fun v τ n' hv => ?_)
  obtain ⟨rfl, rfl, rfl⟩ := hv
  show Ev E (xcm E d 0 0 QQ) Y_X11_followChain 33 [(4, .ref (E.2.2.2 + a2)), (0, .ref (E.2.2.2 + iC)), (1, .int p0), (2, .int p1), (3, .int p2)] [] (xσ q5 R) n 0 0
  refine ev_aload 0 dX11_followChain_33 rfl ?_
  cases h
  exact ev_aret (v := (some a2)) rfl (Or.inr ⟨_, rfl⟩) (hQ (fun a ha => by cases ha; exact ha2)) dX11_followChain_35 (Nat.zero_le _) (Nat.zero_le _)
