def fX1_readPiece_j80 (p0 : Int32) (R : xr) (q2 : xm) (q3 : Int32) : Option (xm) := xlt (xpI q2 iC_reader 4 ((q2.1 iC_reader 4) + 1)) fun μ4 => xbd (rX1_readSum 8 p0 μ4 R) fun q5 => xbd (R iC_reader 2) fun a6 => xbd (fX0_emit a6 q3 q5) fun q7 => some q7
def fX1_readPiece (g_readChoice : Int32 → xm → xr → Option xm) (g_readDenied : Int32 → xm → xr → Option xm) (p0 : Int32) (μ : xm) (R : xr) : Option (xm) := xbd (fX1_sign μ) fun q1 => if q1 = 33 then (xbd (g_readDenied p0 μ R) fun q12 => some q12) else (if q1 = 40 then (xbd (fX1_opens p0 μ) fun q9 => if q9.1 = 0 then (some q9.2) else (xbd (g_readChoice (p0 + 1) q9.2 R) fun q10 => xbd (fX1_pass 41 q10) fun q11 => some q11)) else (xbd (rX1_readSum 8 p0 μ R) fun q2 => xbd (fX1_sign q2) fun q3 => if q3 = 60 then (fX1_readPiece_j80 p0 R q2 q3) else (if q3 = 62 then (fX1_readPiece_j80 p0 R q2 q3) else (if q3 = 61 then (fX1_readPiece_j80 p0 R q2 q3) else (xbd (fX1_stop 1 q2) fun q8 => some q8)))))
set_option maxHeartbeats 4000000 in
set_option maxRecDepth 100000 in
theorem kX1_readPiece {E : xE} {d : Nat} {QQ : xP} (hd : 31 ≤ d) {p0 : Int32} {μ : xm} {R : xr} {n : Nat} (hF : xFin R n) {dd : Nat} (hdd : dd + 1 ≤ d) {g_readChoice : Int32 → xm → xr → Option xm} (G_readChoice : ∀ (p : Int32) (μ res : xm) (QQ : xP), g_readChoice p μ R = some res → QQ none (xσ res R) n → xCon E dd Y_X1_readChoice 0 0 [.ref (E.2.2.2 + iC_reader), .int p] (xσ μ R) n QQ) {g_readDenied : Int32 → xm → xr → Option xm} (G_readDenied : ∀ (p : Int32) (μ res : xm) (QQ : xP), g_readDenied p μ R = some res → QQ none (xσ res R) n → xCon E dd Y_X1_readDenied 0 0 [.ref (E.2.2.2 + iC_reader), .int p] (xσ μ R) n QQ)  {res : xm} (h : fX1_readPiece g_readChoice g_readDenied p0 μ R = some res) (hQ : QQ none (xσ res R) n) : xCon E d Y_X1_readPiece 0 0 [.ref (E.2.2.2 + iC_reader), .int p0] (xσ μ R) n QQ := by
  refine xCon_of pn_RX1 (Nat.le_of_ble_eq_true rfl) (L0 := [(0, .ref (E.2.2.2 + iC_reader)), (1, .int p0)]) rfl ?_
  unfold fX1_readPiece at h
  refine ev_aload_n 0 dX1_readPiece_0 rfl rfl ?_
  obtain ⟨q1, hq1, h⟩ := xbd_some h
  refine ev_callV (ci := 1) (rest := []) 0 (kX1_sign (E := E) (d := 0) (QQ := (fun v τ n' => v = some (.int q1) ∧ τ = xσ μ R ∧ n = n')) (Nat.le_refl _) hF hq1 (⟨rfl, rfl, rfl⟩)) my_X1_sign ⟨m_548, m_550, m_1⟩ cl_1 kd_3 (xl hF rfl) rfl rfl (Nat.le_of_ble_eq_true rfl) (Nat.le_trans (by decide) hd) (xlo (by decide) (Nat.le_trans (by decide) hd)) (Nat.zero_le _) (Nat.zero_le _) dX1_readPiece_1 (fun v τ n' hv => ?_)
  obtain ⟨rfl, rfl, rfl⟩ := hv
  show Ev E (xcm E d 0 0 QQ) Y_X1_readPiece 4 [(0, .ref (E.2.2.2 + iC_reader)), (1, .int p0)] [.int q1] (xσ μ R) n 0 0
  refine xv_istore_n (L' := [(2, .int q1), (0, .ref (E.2.2.2 + iC_reader)), (1, .int p0)]) rfl dX1_readPiece_4 rfl (Nat.le_of_ble_eq_true rfl) rfl ?_
  refine ev_iload_n 0 dX1_readPiece_5 rfl rfl ?_
  refine ev_bipush (v := 33) dX1_readPiece_6 (by decide) ?_
  refine ev_icmp_ne (tgt := 17) dX1_readPiece_8 (by decide) (fun c8 => ?_) (fun c8 => ?_)
  · replace h := xif_f c8 h
    refine ev_iload_n 0 dX1_readPiece_17 rfl rfl ?_
    refine ev_bipush (v := 40) dX1_readPiece_18 (by decide) ?_
    refine ev_icmp_ne (tgt := 46) dX1_readPiece_20 (by decide) (fun c20 => ?_) (fun c20 => ?_)
    · replace h := xif_f c20 h
      refine ev_aload_n 1 dX1_readPiece_46 rfl rfl ?_
      refine ev_iload_n 2 dX1_readPiece_47 rfl rfl ?_
      obtain ⟨q2, hq2, h⟩ := xbd_some h
      refine ev_callV (ci := 1) (rest := []) 1 (krX1_readSum (E := E) (d := 30) (QQ := (fun v τ n' => v = none ∧ τ = xσ q2 R ∧ n = n')) (Nat.le_refl _) hF hq2 (⟨rfl, rfl, rfl⟩)) my_X1_readSum ⟨m_564, m_566, m_3⟩ cl_1 kd_3 (xl hF rfl) rfl rfl (Nat.le_of_ble_eq_true rfl) (Nat.le_trans (by decide) hd) (xlo (by decide) (Nat.le_trans (by decide) hd)) (Nat.zero_le _) (Nat.zero_le _) dX1_readPiece_48 (fun v τ n' hv => ?_)
      obtain ⟨rfl, rfl, rfl⟩ := hv
      show Ev E (xcm E d 0 0 QQ) Y_X1_readPiece 51 [(2, .int q1), (0, .ref (E.2.2.2 + iC_reader)), (1, .int p0)] [] (xσ q2 R) n 0 0
      refine ev_aload_n 1 dX1_readPiece_51 rfl rfl ?_
      obtain ⟨q3, hq3, h⟩ := xbd_some h
      refine ev_callV (ci := 1) (rest := []) 0 (kX1_sign (E := E) (d := 0) (QQ := (fun v τ n' => v = some (.int q3) ∧ τ = xσ q2 R ∧ n = n')) (Nat.le_refl _) hF hq3 (⟨rfl, rfl, rfl⟩)) my_X1_sign ⟨m_548, m_550, m_1⟩ cl_1 kd_3 (xl hF rfl) rfl rfl (Nat.le_of_ble_eq_true rfl) (Nat.le_trans (by decide) hd) (xlo (by decide) (Nat.le_trans (by decide) hd)) (Nat.zero_le _) (Nat.zero_le _) dX1_readPiece_52 (fun v τ n' hv => ?_)
      obtain ⟨rfl, rfl, rfl⟩ := hv
      show Ev E (xcm E d 0 0 QQ) Y_X1_readPiece 55 [(2, .int q1), (0, .ref (E.2.2.2 + iC_reader)), (1, .int p0)] [.int q3] (xσ q2 R) n 0 0
      refine xv_istore_n (L' := [(3, .int q3), (2, .int q1), (0, .ref (E.2.2.2 + iC_reader)), (1, .int p0)]) rfl dX1_readPiece_55 rfl (Nat.le_of_ble_eq_true rfl) rfl ?_
      refine ev_iload_n 0 dX1_readPiece_56 rfl rfl ?_
      refine ev_bipush (v := 60) dX1_readPiece_57 (by decide) ?_
      have j80 : fX1_readPiece_j80 p0 R q2 q3 = some res → Ev E (xcm E d 0 0 QQ) Y_X1_readPiece 80 [(0, .ref (E.2.2.2 + iC_reader)), (1, .int p0), (3, .int q3)] [] (xσ q2 R) n 0 0 := by
        intro h
        unfold fX1_readPiece_j80 at h
        refine ev_aload_n 0 dX1_readPiece_80 rfl rfl ?_
        refine ev_dup dX1_readPiece_81 rfl ?_
        refine xv_getI cl_1 lk_RX1_42 kd_3 (xl hF rfl) (fun _ => rfl) dX1_readPiece_82 ?_
        refine ev_iconst (v := 1) dX1_readPiece_85 (by decide) ?_
        refine ev_iadd dX1_readPiece_86 ?_
        obtain ⟨μ4, hμ4, h⟩ := xlt_some h
        refine xv_putI cl_1 lk_RX1_42 rfl kd_3 (xl hF rfl) rfl rfl (fun _ => rfl) hμ4 dX1_readPiece_87 ?_
        refine ev_aload_n 0 dX1_readPiece_90 rfl rfl ?_
        refine ev_iload_n 1 dX1_readPiece_91 rfl rfl ?_
        obtain ⟨q5, hq5, h⟩ := xbd_some h
        refine ev_callV (ci := 1) (rest := []) 1 (krX1_readSum (E := E) (d := 30) (QQ := (fun v τ n' => v = none ∧ τ = xσ q5 R ∧ n = n')) (Nat.le_refl _) hF hq5 (⟨rfl, rfl, rfl⟩)) my_X1_readSum ⟨m_564, m_566, m_3⟩ cl_1 kd_3 (xl hF rfl) rfl rfl (Nat.le_of_ble_eq_true rfl) (Nat.le_trans (by decide) hd) (xlo (by decide) (Nat.le_trans (by decide) hd)) (Nat.zero_le _) (Nat.zero_le _) dX1_readPiece_92 (fun v τ n' hv => ?_)
        obtain ⟨rfl, rfl, rfl⟩ := hv
        show Ev E (xcm E d 0 0 QQ) Y_X1_readPiece 95 [(0, .ref (E.2.2.2 + iC_reader)), (1, .int p0), (3, .int q3)] [] (xσ q5 R) n 0 0
        refine ev_aload_n 0 dX1_readPiece_95 rfl rfl ?_
        refine xv_getR cl_1 lk_RX1_22 kd_3 (xl hF rfl) (fun _ => rfl) dX1_readPiece_96 ?_
        obtain ⟨a6, ha6, h⟩ := xbd_some h
        refine xv_nn ha6 ?_
        replace ha6 := dy_3_2 hF _ ha6
        refine ev_iload_n 2 dX1_readPiece_99 rfl rfl ?_
        obtain ⟨q7, hq7, h⟩ := xbd_some h
        refine ev_callV (ci := 0) (rest := []) 1 (kX0_emit (E := E) (d := 0) (QQ := (fun v τ n' => v = none ∧ τ = xσ q7 R ∧ n = n')) (Nat.le_refl _) hF ha6 hq7 (⟨rfl, rfl, rfl⟩)) my_X0_emit ⟨m_583, m_584, m_585⟩ cl_0 (xIs0_kd ha6) (xIs0_lt ha6) rfl rfl (Nat.le_of_ble_eq_true rfl) (Nat.le_trans (by decide) hd) (xlo (by decide) (Nat.le_trans (by decide) hd)) (Nat.zero_le _) (Nat.zero_le _) dX1_readPiece_100 (fun v τ n' hv => ?_)
        obtain ⟨rfl, rfl, rfl⟩ := hv
        show Ev E (xcm E d 0 0 QQ) Y_X1_readPiece 103 [(0, .ref (E.2.2.2 + iC_reader)), (1, .int p0), (3, .int q3)] [] (xσ q7 R) n 0 0
        cases h
        exact ev_vret rfl (hQ) dX1_readPiece_103 (Nat.zero_le _) (Nat.zero_le _)
      refine ev_icmp_eq (tgt := 80) dX1_readPiece_59 (by decide) (fun c59 => ?_) (fun c59 => ?_)
      · replace h := xif_t c59 h
        exact ev_sub [2, 3, 0] rfl (j80 h)
      · replace h := xif_f c59 h
        refine ev_iload_n 0 dX1_readPiece_62 rfl rfl ?_
        refine ev_bipush (v := 62) dX1_readPiece_63 (by decide) ?_
        refine ev_icmp_eq (tgt := 80) dX1_readPiece_65 (by decide) (fun c65 => ?_) (fun c65 => ?_)
        · replace h := xif_t c65 h
          exact ev_sub [2, 3, 0] rfl (j80 h)
        · replace h := xif_f c65 h
          refine ev_iload_n 0 dX1_readPiece_68 rfl rfl ?_
          refine ev_bipush (v := 61) dX1_readPiece_69 (by decide) ?_
          refine ev_icmp_eq (tgt := 80) dX1_readPiece_71 (by decide) (fun c71 => ?_) (fun c71 => ?_)
          · replace h := xif_t c71 h
            exact ev_sub [2, 3, 0] rfl (j80 h)
          · replace h := xif_f c71 h
            refine ev_aload_n 2 dX1_readPiece_74 rfl rfl ?_
            refine ev_iconst (v := 1) dX1_readPiece_75 (by decide) ?_
            obtain ⟨q8, hq8, h⟩ := xbd_some h
            refine ev_callV (ci := 1) (rest := []) 1 (kX1_stop (E := E) (d := 0) (QQ := (fun v τ n' => v = none ∧ τ = xσ q8 R ∧ n = n')) (Nat.le_refl _) hF hq8 (⟨rfl, rfl, rfl⟩)) my_X1_stop ⟨m_552, m_554, m_2⟩ cl_1 kd_3 (xl hF rfl) rfl rfl (Nat.le_of_ble_eq_true rfl) (Nat.le_trans (by decide) hd) (xlo (by decide) (Nat.le_trans (by decide) hd)) (Nat.zero_le _) (Nat.zero_le _) dX1_readPiece_76 (fun v τ n' hv => ?_)
            obtain ⟨rfl, rfl, rfl⟩ := hv
            show Ev E (xcm E d 0 0 QQ) Y_X1_readPiece 79 [(3, .int q3), (2, .int q1), (0, .ref (E.2.2.2 + iC_reader)), (1, .int p0)] [] (xσ q8 R) n 0 0
            cases h
            exact ev_vret rfl (hQ) dX1_readPiece_79 (Nat.zero_le _) (Nat.zero_le _)
    · replace h := xif_t c20 h
      refine ev_aload_n 1 dX1_readPiece_23 rfl rfl ?_
      refine ev_iload_n 2 dX1_readPiece_24 rfl rfl ?_
      obtain ⟨q9, hq9, h⟩ := xbd_some h
      refine ev_callV (ci := 1) (rest := []) 1 (kX1_opens (E := E) (d := 1) (QQ := (fun v τ n' => v = some (.int q9.1) ∧ τ = xσ q9.2 R ∧ n = n')) (Nat.le_refl _) hF hq9 (⟨rfl, rfl, rfl⟩)) my_X1_opens ⟨m_572, m_574, m_5⟩ cl_1 kd_3 (xl hF rfl) rfl rfl (Nat.le_of_ble_eq_true rfl) (Nat.le_trans (by decide) hd) (xlo (by decide) (Nat.le_trans (by decide) hd)) (Nat.zero_le _) (Nat.zero_le _) dX1_readPiece_25 (fun v τ n' hv => ?_)
      obtain ⟨rfl, rfl, rfl⟩ := hv
      show Ev E (xcm E d 0 0 QQ) Y_X1_readPiece 28 [(2, .int q1), (0, .ref (E.2.2.2 + iC_reader)), (1, .int p0)] [.int q9.1] (xσ q9.2 R) n 0 0
      refine ev_if_ne (tgt := 32) dX1_readPiece_28 (by decide) (fun c28 => ?_) (fun c28 => ?_)
      · replace h := xif_f c28 h
        refine ev_aload_n 1 dX1_readPiece_32 rfl rfl ?_
        refine ev_iload_n 2 dX1_readPiece_33 rfl rfl ?_
        refine ev_iconst (v := 1) dX1_readPiece_34 (by decide) ?_
        refine ev_iadd dX1_readPiece_35 ?_
        obtain ⟨q10, hq10, h⟩ := xbd_some h
        refine ev_callV (ci := 1) (rest := []) 1 (G_readChoice (p0 + 1) q9.2 q10 (fun v τ n' => v = none ∧ τ = xσ q10 R ∧ n = n') hq10 (⟨rfl, rfl, rfl⟩)) my_X1_readChoice ⟨m_597, m_599, m_7⟩ cl_1 kd_3 (xl hF rfl) rfl rfl (Nat.le_of_ble_eq_true rfl) hdd (xlo (by decide) hdd) (Nat.zero_le _) (Nat.zero_le _) dX1_readPiece_36 (fun v τ n' hv => ?_)
        obtain ⟨rfl, rfl, rfl⟩ := hv
        show Ev E (xcm E d 0 0 QQ) Y_X1_readPiece 39 [(2, .int q1), (0, .ref (E.2.2.2 + iC_reader)), (1, .int p0)] [] (xσ q10 R) n 0 0
        refine ev_aload_n 1 dX1_readPiece_39 rfl rfl ?_
        refine ev_bipush (v := 41) dX1_readPiece_40 (by decide) ?_
        obtain ⟨q11, hq11, h⟩ := xbd_some h
        refine ev_callV (ci := 1) (rest := []) 1 (kX1_pass (E := E) (d := 1) (QQ := (fun v τ n' => v = none ∧ τ = xσ q11 R ∧ n = n')) (Nat.le_refl _) hF hq11 (⟨rfl, rfl, rfl⟩)) my_X1_pass ⟨m_576, m_578, m_6⟩ cl_1 kd_3 (xl hF rfl) rfl rfl (Nat.le_of_ble_eq_true rfl) (Nat.le_trans (by decide) hd) (xlo (by decide) (Nat.le_trans (by decide) hd)) (Nat.zero_le _) (Nat.zero_le _) dX1_readPiece_42 (fun v τ n' hv => ?_)
        obtain ⟨rfl, rfl, rfl⟩ := hv
        show Ev E (xcm E d 0 0 QQ) Y_X1_readPiece 45 [(2, .int q1), (0, .ref (E.2.2.2 + iC_reader)), (1, .int p0)] [] (xσ q11 R) n 0 0
        cases h
        exact ev_vret rfl (hQ) dX1_readPiece_45 (Nat.zero_le _) (Nat.zero_le _)
      · replace h := xif_t c28 h
        cases h
        exact ev_vret rfl (hQ) dX1_readPiece_31 (Nat.zero_le _) (Nat.zero_le _)
  · replace h := xif_t c8 h
    refine ev_aload_n 1 dX1_readPiece_11 rfl rfl ?_
    refine ev_iload_n 2 dX1_readPiece_12 rfl rfl ?_
    obtain ⟨q12, hq12, h⟩ := xbd_some h
    refine ev_callV (ci := 1) (rest := []) 1 (G_readDenied p0 μ q12 (fun v τ n' => v = none ∧ τ = xσ q12 R ∧ n = n') hq12 (⟨rfl, rfl, rfl⟩)) my_X1_readDenied ⟨m_605, m_607, m_9⟩ cl_1 kd_3 (xl hF rfl) rfl rfl (Nat.le_of_ble_eq_true rfl) hdd (xlo (by decide) hdd) (Nat.zero_le _) (Nat.zero_le _) dX1_readPiece_13 (fun v τ n' hv => ?_)
    obtain ⟨rfl, rfl, rfl⟩ := hv
    show Ev E (xcm E d 0 0 QQ) Y_X1_readPiece 16 [(2, .int q1), (0, .ref (E.2.2.2 + iC_reader)), (1, .int p0)] [] (xσ q12 R) n 0 0
    cases h
    exact ev_vret rfl (hQ) dX1_readPiece_16 (Nat.zero_le _) (Nat.zero_le _)
def rX1_readPiece (D : Nat) (p : Int32) (μ : xm) (R : xr) : Option xm := match D with
  | 0 => none
  | D + 1 => fX1_readPiece (fX1_readChoice (rX1_readPiece D)) (fX1_readDenied (rX1_readPiece D)) p μ R
def rX1_readChoice (D : Nat) (p : Int32) (μ : xm) (R : xr) : Option xm := fX1_readChoice (rX1_readPiece D) p μ R
theorem krX1_readPieceD {E : xE} {μ0 : xm} {R : xr} {n : Nat} (hF : xFin R n) : ∀ (D d : Nat), 2 * D + 34 ≤ d → ∀ (p : Int32) (μ res : xm) (QQ : xP), rX1_readPiece D p μ R = some res → QQ none (xσ res R) n → xCon E d Y_X1_readPiece 0 0 [.ref (E.2.2.2 + iC_reader), .int p] (xσ μ R) n QQ := by
  intro D
  induction D with
  | zero => intro d hd p μ res QQ h; cases h
  | succ D ih =>
    intro d hd p μ res QQ h hQ
    unfold rX1_readPiece at h
    exact kX1_readPiece (dd := d - 1) (by omega) hF (by omega) (fun p' μ' res' QQ' h' hQ' => kX1_readChoice (dd := d - 2) (by omega) hF (by omega) (fun p2 μ2 res2 QQ2 h2 hQ2 => ih (d - 2) (by omega) p2 μ2 res2 QQ2 h2 hQ2) h' hQ') (fun p' μ' res' QQ' h' hQ' => kX1_readDenied (dd := d - 2) (by omega) hF (by omega) (fun p2 μ2 res2 QQ2 h2 hQ2 => ih (d - 2) (by omega) p2 μ2 res2 QQ2 h2 hQ2) h' hQ') h hQ
theorem krX1_readPiece {E : xE} {d : Nat} {QQ : xP} (hd : 60 ≤ d) {p : Int32} {μ : xm} {R : xr} {n : Nat} (hF : xFin R n) {res : xm} (h : rX1_readPiece 8 p μ R = some res) (hQ : QQ none (xσ res R) n) : xCon E d Y_X1_readPiece 0 0 [.ref (E.2.2.2 + iC_reader), .int p] (xσ μ R) n QQ :=
  krX1_readPieceD (μ0 := μ) hF 8 d (by omega) p μ res QQ h hQ
theorem krX1_readChoice {E : xE} {d : Nat} {QQ : xP} (hd : 60 ≤ d) {p : Int32} {μ : xm} {R : xr} {n : Nat} (hF : xFin R n) {res : xm} (h : rX1_readChoice 8 p μ R = some res) (hQ : QQ none (xσ res R) n) : xCon E d Y_X1_readChoice 0 0 [.ref (E.2.2.2 + iC_reader), .int p] (xσ μ R) n QQ :=
  kX1_readChoice (dd := d - 1) (by omega) hF (by omega) (fun p2 μ2 res2 QQ2 h2 hQ2 => krX1_readPieceD (μ0 := μ) hF 8 (d - 1) (by omega) p2 μ2 res2 QQ2 h2 hQ2) h hQ

def fX1_readClause_j29 (μ : xm) (R : xr) (q1 : Int32) : Option (xm) := xbd (R iC_reader 2) fun a2 => xbd (fX0_length a2 μ) fun q3 => if q3 < 14 then (xlt (xpI μ iC_reader 4 ((μ.1 iC_reader 4) + 1)) fun μ4 => xbd (R iC_reader 2) fun a5 => xbd (fX0_openClause a5 q1 μ4) fun q6 => xbd (rX1_readSum 8 0 q6 R) fun q7 => xbd (R iC_reader 2) fun a8 => xbd (fX0_openCondition a8 q7) fun q9 => xbd (fX1_pass 40 q9) fun q10 => xbd (rX1_readChoice 8 1 q10 R) fun q11 => xbd (fX1_pass 41 q11) fun q12 => xbd (R iC_reader 2) fun a13 => xbd (fX0_closeClause a13 q12) fun q14 => some q14) else (xbd (fX1_stop 4 μ) fun q15 => some q15)
def fX1_readClause (μ : xm) (R : xr) : Option (xm) := xbd (fX1_sign μ) fun q1 => if q1 = 111 then (fX1_readClause_j29 μ R q1) else (if q1 = 112 then (fX1_readClause_j29 μ R q1) else (if q1 = 108 then (fX1_readClause_j29 μ R q1) else (xbd (fX1_stop 1 μ) fun q16 => some q16)))
set_option maxHeartbeats 4000000 in
set_option maxRecDepth 100000 in
theorem kX1_readClause {E : xE} {d : Nat} {QQ : xP} (hd : 61 ≤ d)  {μ : xm} {R : xr} {n : Nat} (hF : xFin R n)  {res : xm} (h : fX1_readClause μ R = some res) (hQ : QQ none (xσ res R) n) : xCon E d Y_X1_readClause 0 0 [.ref (E.2.2.2 + iC_reader)] (xσ μ R) n QQ := by
  refine xCon_of pn_RX1 (Nat.le_of_ble_eq_true rfl) (L0 := [(0, .ref (E.2.2.2 + iC_reader))]) rfl ?_
  unfold fX1_readClause at h
  refine ev_aload_n 0 dX1_readClause_0 rfl rfl ?_
  obtain ⟨q1, hq1, h⟩ := xbd_some h
  refine ev_callV (ci := 1) (rest := []) 0 (kX1_sign (E := E) (d := 0) (QQ := (fun v τ n' => v = some (.int q1) ∧ τ = xσ μ R ∧ n = n')) (Nat.le_refl _) hF hq1 (⟨rfl, rfl, rfl⟩)) my_X1_sign ⟨m_548, m_550, m_1⟩ cl_1 kd_3 (xl hF rfl) rfl rfl (Nat.le_of_ble_eq_true rfl) (Nat.le_trans (by decide) hd) (xlo (by decide) (Nat.le_trans (by decide) hd)) (Nat.zero_le _) (Nat.zero_le _) dX1_readClause_1 (fun v τ n' hv => ?_)
  obtain ⟨rfl, rfl, rfl⟩ := hv
  show Ev E (xcm E d 0 0 QQ) Y_X1_readClause 4 [(0, .ref (E.2.2.2 + iC_reader))] [.int q1] (xσ μ R) n 0 0
  refine xv_istore_n (L' := [(1, .int q1), (0, .ref (E.2.2.2 + iC_reader))]) rfl dX1_readClause_4 rfl (Nat.le_of_ble_eq_true rfl) rfl ?_
  refine ev_iload_n 0 dX1_readClause_5 rfl rfl ?_
  refine ev_bipush (v := 111) dX1_readClause_6 (by decide) ?_
  have j29 : fX1_readClause_j29 μ R q1 = some res → Ev E (xcm E d 0 0 QQ) Y_X1_readClause 29 [(0, .ref (E.2.2.2 + iC_reader)), (1, .int q1)] [] (xσ μ R) n 0 0 := by
    intro h
    unfold fX1_readClause_j29 at h
    refine ev_aload_n 0 dX1_readClause_29 rfl rfl ?_
    refine xv_getR cl_1 lk_RX1_22 kd_3 (xl hF rfl) (fun _ => rfl) dX1_readClause_30 ?_
    obtain ⟨a2, ha2, h⟩ := xbd_some h
    refine xv_nn ha2 ?_
    replace ha2 := dy_3_2 hF _ ha2
    obtain ⟨q3, hq3, h⟩ := xbd_some h
    refine ev_callV (ci := 0) (rest := []) 0 (kX0_length (E := E) (d := 0) (QQ := (fun v τ n' => v = some (.int q3) ∧ τ = xσ μ R ∧ n = n')) (Nat.le_refl _) hF ha2 hq3 (⟨rfl, rfl, rfl⟩)) my_X0_length ⟨m_556, m_557, m_558⟩ cl_0 (xIs0_kd ha2) (xIs0_lt ha2) rfl rfl (Nat.le_of_ble_eq_true rfl) (Nat.le_trans (by decide) hd) (xlo (by decide) (Nat.le_trans (by decide) hd)) (Nat.zero_le _) (Nat.zero_le _) dX1_readClause_33 (fun v τ n' hv => ?_)
    obtain ⟨rfl, rfl, rfl⟩ := hv
    show Ev E (xcm E d 0 0 QQ) Y_X1_readClause 36 [(0, .ref (E.2.2.2 + iC_reader)), (1, .int q1)] [.int q3] (xσ μ R) n 0 0
    refine ev_bipush (v := 14) dX1_readClause_36 (by decide) ?_
    refine ev_icmp_lt (tgt := 47) dX1_readClause_38 (by decide) (fun c38 => ?_) (fun c38 => ?_)
    · replace h := xif_t c38 h
      refine ev_aload_n 0 dX1_readClause_47 rfl rfl ?_
      refine ev_dup dX1_readClause_48 rfl ?_
      refine xv_getI cl_1 lk_RX1_42 kd_3 (xl hF rfl) (fun _ => rfl) dX1_readClause_49 ?_
      refine ev_iconst (v := 1) dX1_readClause_52 (by decide) ?_
      refine ev_iadd dX1_readClause_53 ?_
      obtain ⟨μ4, hμ4, h⟩ := xlt_some h
      refine xv_putI cl_1 lk_RX1_42 rfl kd_3 (xl hF rfl) rfl rfl (fun _ => rfl) hμ4 dX1_readClause_54 ?_
      refine ev_aload_n 0 dX1_readClause_57 rfl rfl ?_
      refine xv_getR cl_1 lk_RX1_22 kd_3 (xl hF rfl) (fun _ => rfl) dX1_readClause_58 ?_
      obtain ⟨a5, ha5, h⟩ := xbd_some h
      refine xv_nn ha5 ?_
      replace ha5 := dy_3_2 hF _ ha5
      refine ev_iload_n 1 dX1_readClause_61 rfl rfl ?_
      obtain ⟨q6, hq6, h⟩ := xbd_some h
      refine ev_callV (ci := 0) (rest := []) 1 (kX0_openClause (E := E) (d := 0) (QQ := (fun v τ n' => v = none ∧ τ = xσ q6 R ∧ n = n')) (Nat.le_refl _) hF ha5 hq6 (⟨rfl, rfl, rfl⟩)) my_X0_openClause ⟨m_560, m_561, m_562⟩ cl_0 (xIs0_kd ha5) (xIs0_lt ha5) rfl rfl (Nat.le_of_ble_eq_true rfl) (Nat.le_trans (by decide) hd) (xlo (by decide) (Nat.le_trans (by decide) hd)) (Nat.zero_le _) (Nat.zero_le _) dX1_readClause_62 (fun v τ n' hv => ?_)
      obtain ⟨rfl, rfl, rfl⟩ := hv
      show Ev E (xcm E d 0 0 QQ) Y_X1_readClause 65 [(0, .ref (E.2.2.2 + iC_reader)), (1, .int q1)] [] (xσ q6 R) n 0 0
      refine ev_aload_n 0 dX1_readClause_65 rfl rfl ?_
      refine ev_iconst (v := 0) dX1_readClause_66 (by decide) ?_
      obtain ⟨q7, hq7, h⟩ := xbd_some h
      refine ev_callV (ci := 1) (rest := []) 1 (krX1_readSum (E := E) (d := 30) (QQ := (fun v τ n' => v = none ∧ τ = xσ q7 R ∧ n = n')) (Nat.le_refl _) hF hq7 (⟨rfl, rfl, rfl⟩)) my_X1_readSum ⟨m_564, m_566, m_3⟩ cl_1 kd_3 (xl hF rfl) rfl rfl (Nat.le_of_ble_eq_true rfl) (Nat.le_trans (by decide) hd) (xlo (by decide) (Nat.le_trans (by decide) hd)) (Nat.zero_le _) (Nat.zero_le _) dX1_readClause_67 (fun v τ n' hv => ?_)
      obtain ⟨rfl, rfl, rfl⟩ := hv
      show Ev E (xcm E d 0 0 QQ) Y_X1_readClause 70 [(0, .ref (E.2.2.2 + iC_reader)), (1, .int q1)] [] (xσ q7 R) n 0 0
      refine ev_aload_n 0 dX1_readClause_70 rfl rfl ?_
      refine xv_getR cl_1 lk_RX1_22 kd_3 (xl hF rfl) (fun _ => rfl) dX1_readClause_71 ?_
      obtain ⟨a8, ha8, h⟩ := xbd_some h
      refine xv_nn ha8 ?_
      replace ha8 := dy_3_2 hF _ ha8
      obtain ⟨q9, hq9, h⟩ := xbd_some h
      refine ev_callV (ci := 0) (rest := []) 0 (kX0_openCondition (E := E) (d := 0) (QQ := (fun v τ n' => v = none ∧ τ = xσ q9 R ∧ n = n')) (Nat.le_refl _) hF ha8 hq9 (⟨rfl, rfl, rfl⟩)) my_X0_openCondition ⟨m_593, m_594, m_595⟩ cl_0 (xIs0_kd ha8) (xIs0_lt ha8) rfl rfl (Nat.le_of_ble_eq_true rfl) (Nat.le_trans (by decide) hd) (xlo (by decide) (Nat.le_trans (by decide) hd)) (Nat.zero_le _) (Nat.zero_le _) dX1_readClause_74 (fun v τ n' hv => ?_)
      obtain ⟨rfl, rfl, rfl⟩ := hv
      show Ev E (xcm E d 0 0 QQ) Y_X1_readClause 77 [(0, .ref (E.2.2.2 + iC_reader)), (1, .int q1)] [] (xσ q9 R) n 0 0
      refine ev_aload_n 0 dX1_readClause_77 rfl rfl ?_
      refine ev_bipush (v := 40) dX1_readClause_78 (by decide) ?_
      obtain ⟨q10, hq10, h⟩ := xbd_some h
      refine ev_callV (ci := 1) (rest := []) 1 (kX1_pass (E := E) (d := 1) (QQ := (fun v τ n' => v = none ∧ τ = xσ q10 R ∧ n = n')) (Nat.le_refl _) hF hq10 (⟨rfl, rfl, rfl⟩)) my_X1_pass ⟨m_576, m_578, m_6⟩ cl_1 kd_3 (xl hF rfl) rfl rfl (Nat.le_of_ble_eq_true rfl) (Nat.le_trans (by decide) hd) (xlo (by decide) (Nat.le_trans (by decide) hd)) (Nat.zero_le _) (Nat.zero_le _) dX1_readClause_80 (fun v τ n' hv => ?_)
      obtain ⟨rfl, rfl, rfl⟩ := hv
      show Ev E (xcm E d 0 0 QQ) Y_X1_readClause 83 [(0, .ref (E.2.2.2 + iC_reader)), (1, .int q1)] [] (xσ q10 R) n 0 0
      refine ev_aload_n 0 dX1_readClause_83 rfl rfl ?_
      refine ev_iconst (v := 1) dX1_readClause_84 (by decide) ?_
      obtain ⟨q11, hq11, h⟩ := xbd_some h
      refine ev_callV (ci := 1) (rest := []) 1 (krX1_readChoice (E := E) (d := 60) (QQ := (fun v τ n' => v = none ∧ τ = xσ q11 R ∧ n = n')) (Nat.le_refl _) hF hq11 (⟨rfl, rfl, rfl⟩)) my_X1_readChoice ⟨m_597, m_599, m_7⟩ cl_1 kd_3 (xl hF rfl) rfl rfl (Nat.le_of_ble_eq_true rfl) (Nat.le_trans (by decide) hd) (xlo (by decide) (Nat.le_trans (by decide) hd)) (Nat.zero_le _) (Nat.zero_le _) dX1_readClause_85 (fun v τ n' hv => ?_)
      obtain ⟨rfl, rfl, rfl⟩ := hv
      show Ev E (xcm E d 0 0 QQ) Y_X1_readClause 88 [(0, .ref (E.2.2.2 + iC_reader)), (1, .int q1)] [] (xσ q11 R) n 0 0
      refine ev_aload_n 0 dX1_readClause_88 rfl rfl ?_
      refine ev_bipush (v := 41) dX1_readClause_89 (by decide) ?_
      obtain ⟨q12, hq12, h⟩ := xbd_some h
      refine ev_callV (ci := 1) (rest := []) 1 (kX1_pass (E := E) (d := 1) (QQ := (fun v τ n' => v = none ∧ τ = xσ q12 R ∧ n = n')) (Nat.le_refl _) hF hq12 (⟨rfl, rfl, rfl⟩)) my_X1_pass ⟨m_576, m_578, m_6⟩ cl_1 kd_3 (xl hF rfl) rfl rfl (Nat.le_of_ble_eq_true rfl) (Nat.le_trans (by decide) hd) (xlo (by decide) (Nat.le_trans (by decide) hd)) (Nat.zero_le _) (Nat.zero_le _) dX1_readClause_91 (fun v τ n' hv => ?_)
      obtain ⟨rfl, rfl, rfl⟩ := hv
      show Ev E (xcm E d 0 0 QQ) Y_X1_readClause 94 [(0, .ref (E.2.2.2 + iC_reader)), (1, .int q1)] [] (xσ q12 R) n 0 0
      refine ev_aload_n 0 dX1_readClause_94 rfl rfl ?_
      refine xv_getR cl_1 lk_RX1_22 kd_3 (xl hF rfl) (fun _ => rfl) dX1_readClause_95 ?_
      obtain ⟨a13, ha13, h⟩ := xbd_some h
      refine xv_nn ha13 ?_
      replace ha13 := dy_3_2 hF _ ha13
      obtain ⟨q14, hq14, h⟩ := xbd_some h
      refine ev_callV (ci := 0) (rest := []) 0 (kX0_closeClause (E := E) (d := 0) (QQ := (fun v τ n' => v = none ∧ τ = xσ q14 R ∧ n = n')) (Nat.le_refl _) hF ha13 hq14 (⟨rfl, rfl, rfl⟩)) my_X0_closeClause ⟨m_609, m_610, m_611⟩ cl_0 (xIs0_kd ha13) (xIs0_lt ha13) rfl rfl (Nat.le_of_ble_eq_true rfl) (Nat.le_trans (by decide) hd) (xlo (by decide) (Nat.le_trans (by decide) hd)) (Nat.zero_le _) (Nat.zero_le _) dX1_readClause_98 (fun v τ n' hv => ?_)
      obtain ⟨rfl, rfl, rfl⟩ := hv
      show Ev E (xcm E d 0 0 QQ) Y_X1_readClause 101 [(0, .ref (E.2.2.2 + iC_reader)), (1, .int q1)] [] (xσ q14 R) n 0 0
      cases h
      exact ev_vret rfl (hQ) dX1_readClause_101 (Nat.zero_le _) (Nat.zero_le _)
    · replace h := xif_f c38 h
      refine ev_aload_n 0 dX1_readClause_41 rfl rfl ?_
      refine ev_iconst (v := 4) dX1_readClause_42 (by decide) ?_
      obtain ⟨q15, hq15, h⟩ := xbd_some h
      refine ev_callV (ci := 1) (rest := []) 1 (kX1_stop (E := E) (d := 0) (QQ := (fun v τ n' => v = none ∧ τ = xσ q15 R ∧ n = n')) (Nat.le_refl _) hF hq15 (⟨rfl, rfl, rfl⟩)) my_X1_stop ⟨m_552, m_554, m_2⟩ cl_1 kd_3 (xl hF rfl) rfl rfl (Nat.le_of_ble_eq_true rfl) (Nat.le_trans (by decide) hd) (xlo (by decide) (Nat.le_trans (by decide) hd)) (Nat.zero_le _) (Nat.zero_le _) dX1_readClause_43 (fun v τ n' hv => ?_)
      obtain ⟨rfl, rfl, rfl⟩ := hv
      show Ev E (xcm E d 0 0 QQ) Y_X1_readClause 46 [(0, .ref (E.2.2.2 + iC_reader)), (1, .int q1)] [] (xσ q15 R) n 0 0
      cases h
      exact ev_vret rfl (hQ) dX1_readClause_46 (Nat.zero_le _) (Nat.zero_le _)
  refine ev_icmp_eq (tgt := 29) dX1_readClause_8 (by decide) (fun c8 => ?_) (fun c8 => ?_)
  · replace h := xif_t c8 h
    exact ev_sub [1, 0] rfl (j29 h)
  · replace h := xif_f c8 h
    refine ev_iload_n 0 dX1_readClause_11 rfl rfl ?_
    refine ev_bipush (v := 112) dX1_readClause_12 (by decide) ?_
    refine ev_icmp_eq (tgt := 29) dX1_readClause_14 (by decide) (fun c14 => ?_) (fun c14 => ?_)
    · replace h := xif_t c14 h
      exact ev_sub [1, 0] rfl (j29 h)
    · replace h := xif_f c14 h
      refine ev_iload_n 0 dX1_readClause_17 rfl rfl ?_
      refine ev_bipush (v := 108) dX1_readClause_18 (by decide) ?_
      refine ev_icmp_eq (tgt := 29) dX1_readClause_20 (by decide) (fun c20 => ?_) (fun c20 => ?_)
      · replace h := xif_t c20 h
        exact ev_sub [1, 0] rfl (j29 h)
      · replace h := xif_f c20 h
        refine ev_aload_n 1 dX1_readClause_23 rfl rfl ?_
        refine ev_iconst (v := 1) dX1_readClause_24 (by decide) ?_
        obtain ⟨q16, hq16, h⟩ := xbd_some h
        refine ev_callV (ci := 1) (rest := []) 1 (kX1_stop (E := E) (d := 0) (QQ := (fun v τ n' => v = none ∧ τ = xσ q16 R ∧ n = n')) (Nat.le_refl _) hF hq16 (⟨rfl, rfl, rfl⟩)) my_X1_stop ⟨m_552, m_554, m_2⟩ cl_1 kd_3 (xl hF rfl) rfl rfl (Nat.le_of_ble_eq_true rfl) (Nat.le_trans (by decide) hd) (xlo (by decide) (Nat.le_trans (by decide) hd)) (Nat.zero_le _) (Nat.zero_le _) dX1_readClause_25 (fun v τ n' hv => ?_)
        obtain ⟨rfl, rfl, rfl⟩ := hv
        show Ev E (xcm E d 0 0 QQ) Y_X1_readClause 28 [(1, .int q1), (0, .ref (E.2.2.2 + iC_reader))] [] (xσ q16 R) n 0 0
        cases h
        exact ev_vret rfl (hQ) dX1_readClause_28 (Nat.zero_le _) (Nat.zero_le _)
def fX1_read_b16 (x3 : Int32) (μ4 : xm) : Option ((Int32 × xm) ⊕ (xm)) := if (μ4.1 iC_reader 3) ≤ x3 then (some (.inr μ4)) else (if 200 ≤ x3 then (some (.inr μ4)) else (xbd (fX9_byteAt x3 μ4) fun q6 => xbd (xsB μ4 iC_reader_text 200 x3 q6.toInt8.toInt32) fun μ7 => xlt (x3 + 1) fun x8 => some (.inl (x8, μ7))))
def fX1_read_b74 (x15 : Int32) (μ16 : xm) (R : xr) : Option ((Int32 × xm) ⊕ (xm)) := if 14 ≤ x15 then (some (.inr μ16)) else (if (μ16.1 iC_reader 5) = 0 then (if (μ16.1 iC_reader 3) ≤ (μ16.1 iC_reader 4) then (some (.inr μ16)) else (xbd (fX1_pass 59 μ16) fun q18 => xbd (fX1_readClause q18 R) fun q19 => xlt (x15 + 1) fun x20 => some (.inl (x20, q19)))) else (some (.inr μ16)))
def fX1_read (p1 : Int32) (μ : xm) (R : xr) : Option (Int32 × xm × xr) := xbd (fX11_held p1 0 200) fun q1 => xlt (xpI μ iC_reader 3 q1) fun μ2 => xbd (xloop xfu (fun v => fX1_read_b16 v.1 v.2) (0, μ2)) fun q9 => xlt (xpI q9 iC_reader 4 0) fun μ10 => xlt (xpI μ10 iC_reader 5 0) fun μ11 => xbd (R iC_reader 2) fun a12 => xbd (fX0_empty a12 μ11) fun q13 => xbd (fX1_readClause q13 R) fun q14 => xbd (xloop xfu (fun v => fX1_read_b74 v.1 v.2 R) (0, q14)) fun q21 => if (q21.1 iC_reader 5) = 0 then (xbd (R iC_reader 1) fun a22 => xbd (R iC_reader 2) fun a23 => xlt (xup R iC_reader 1 (some a23)) fun R24 => xlt (xup R24 iC_reader 2 (some a22)) fun R25 => xbd (R25 iC_reader 1) fun a26 => xbd (fX0_length a26 q21) fun q27 => some (q27, q21, R25)) else (some (((-1000) * (q21.1 iC_reader 5)) - (q21.1 iC_reader 4), q21, R))
set_option maxHeartbeats 4000000 in
set_option maxRecDepth 100000 in
theorem kX1_read {E : xE} {d : Nat} {QQ : xP} (hd : 62 ≤ d) {p1 : Int32} {μ : xm} {R : xr} {n : Nat} (hF : xFin R n)  {res : Int32 × xm × xr} (h : fX1_read p1 μ R = some res) (hQ : xFin res.2.2 n → QQ (some (.int res.1)) (xσ res.2.1 res.2.2) n) : xCon E d Y_X1_read 0 0 [.ref (E.2.2.2 + iC_reader), .ref (E.2.2.2 + iC_tape), .int p1] (xσ μ R) n QQ := by
  refine xCon_of pn_RX1 (Nat.le_of_ble_eq_true rfl) (L0 := [(0, .ref (E.2.2.2 + iC_reader)), (1, .ref (E.2.2.2 + iC_tape)), (2, .int p1)]) rfl ?_
  unfold fX1_read at h
  refine ev_aload_n 0 dX1_read_0 rfl rfl ?_
  refine ev_iload_n 2 dX1_read_1 rfl rfl ?_
  refine ev_iconst (v := 0) dX1_read_2 (by decide) ?_
  refine ev_aload_n 0 dX1_read_3 rfl rfl ?_
  refine xv_getF (a := iC_reader_text) cl_1 lk_RX1_9 kd_3 (xl hF rfl) (fun _ => rfl) (fr_3_0 hF) dX1_read_4 ?_
  refine ev_alen (v := 200) 2 (by decide) kd_4 (xl hF rfl) rfl dX1_read_7 ?_
  obtain ⟨q1, hq1, h⟩ := xbd_some h
  refine ev_callSN (As := [.int p1, .int 0, .int 200]) (rest := [.ref (E.2.2.2 + iC_reader)]) 3 (kX11_held (E := E) (d := 1) (QQ := (fun v τ n' => v = some (.int q1) ∧ τ = xσ μ R ∧ n = n')) (Nat.le_refl _)  hq1 (⟨rfl, rfl, rfl⟩)) my_X11_held ⟨⟨_, xnm_6⟩, m_528⟩ rfl rfl (Nat.le_of_ble_eq_true rfl) (Nat.le_trans (by decide) hd) (xlo (by decide) (Nat.le_trans (by decide) hd)) (Nat.zero_le _) (Nat.zero_le _) dX1_read_8 (fun v τ n' hv => ?_)
  obtain ⟨rfl, rfl, rfl⟩ := hv
  show Ev E (xcm E d 0 0 QQ) Y_X1_read 11 [(0, .ref (E.2.2.2 + iC_reader)), (1, .ref (E.2.2.2 + iC_tape)), (2, .int p1)] [.int q1, .ref (E.2.2.2 + iC_reader)] (xσ μ R) n 0 0
  obtain ⟨μ2, hμ2, h⟩ := xlt_some h
  refine xv_putI cl_1 lk_RX1_33 rfl kd_3 (xl hF rfl) rfl rfl (fun _ => rfl) hμ2 dX1_read_11 ?_
  refine ev_iconst (v := 0) dX1_read_14 (by decide) ?_
  refine xv_istore_n (L' := [(3, .int 0), (0, .ref (E.2.2.2 + iC_reader)), (1, .ref (E.2.2.2 + iC_tape)), (2, .int p1)]) rfl dX1_read_15 rfl (Nat.le_of_ble_eq_true rfl) rfl ?_
  obtain ⟨q9, hq9, h⟩ := xbd_some h
  refine ev_sub (L' := [(0, .ref (E.2.2.2 + iC_reader)), (1, .ref (E.2.2.2 + iC_tape)), (3, .int 0)]) [1, 2, 0] rfl ?_
  refine xloop_run (fun v => Ev E (xcm E d 0 0 QQ) Y_X1_read 16 [(0, .ref (E.2.2.2 + iC_reader)), (1, .ref (E.2.2.2 + iC_tape)), (3, .int v.1)] [] (xσ v.2 R) n 0 0) (fun v => Ev E (xcm E d 0 0 QQ) Y_X1_read 51 [(0, .ref (E.2.2.2 + iC_reader))] [] (xσ v R) n 0 0) ?_ _ _ _ hq9 ?_
  · rintro ⟨x3, μ4⟩ y5 h hk
    replace h : fX1_read_b16 x3 μ4 = some y5 := h
    show Ev E (xcm E d 0 0 QQ) Y_X1_read 16 [(0, .ref (E.2.2.2 + iC_reader)), (1, .ref (E.2.2.2 + iC_tape)), (3, .int x3)] [] (xσ μ4 R) n 0 0
    unfold fX1_read_b16 at h
    refine ev_iload_n 2 dX1_read_16 rfl rfl ?_
    refine ev_aload_n 0 dX1_read_17 rfl rfl ?_
    refine xv_getI cl_1 lk_RX1_33 kd_3 (xl hF rfl) (fun _ => rfl) dX1_read_18 ?_
    refine ev_icmp_ge (tgt := 51) dX1_read_21 (by decide) (fun c21 => ?_) (fun c21 => ?_)
    · replace h := xif_t c21 h
      cases h
      replace hk := xel_r hk
      exact ev_sub [0] rfl (hk)
    · replace h := xif_f c21 h
      refine ev_iload_n 2 dX1_read_24 rfl rfl ?_
      refine ev_aload_n 0 dX1_read_25 rfl rfl ?_
      refine xv_getF (a := iC_reader_text) cl_1 lk_RX1_9 kd_3 (xl hF rfl) (fun _ => rfl) (fr_3_0 hF) dX1_read_26 ?_
      refine ev_alen (v := 200) 2 (by decide) kd_4 (xl hF rfl) rfl dX1_read_29 ?_
      refine ev_icmp_ge (tgt := 51) dX1_read_30 (by decide) (fun c30 => ?_) (fun c30 => ?_)
      · replace h := xif_t c30 h
        cases h
        replace hk := xel_r hk
        exact ev_sub [0] rfl (hk)
      · replace h := xif_f c30 h
        refine ev_aload_n 0 dX1_read_33 rfl rfl ?_
        refine xv_getF (a := iC_reader_text) cl_1 lk_RX1_9 kd_3 (xl hF rfl) (fun _ => rfl) (fr_3_0 hF) dX1_read_34 ?_
        refine ev_iload_n 2 dX1_read_37 rfl rfl ?_
        refine ev_aload_n 1 dX1_read_38 rfl rfl ?_
        refine ev_iload_n 2 dX1_read_39 rfl rfl ?_
        obtain ⟨q6, hq6, h⟩ := xbd_some h
        refine ev_callV (ci := 9) (rest := [.int x3, .ref (E.2.2.2 + iC_reader_text)]) 1 (kX9_byteAt (E := E) (d := 0) (QQ := (fun v τ n' => v = some (.int q6) ∧ τ = xσ μ4 R ∧ n = n')) (Nat.le_refl _) hF hq6 (⟨rfl, rfl, rfl⟩)) my_X9_byteAt ⟨m_536, m_537, m_538⟩ cl_9 kd_1 (xl hF rfl) rfl rfl (Nat.le_of_ble_eq_true rfl) (Nat.le_trans (by decide) hd) (xlo (by decide) (Nat.le_trans (by decide) hd)) (Nat.zero_le _) (Nat.zero_le _) dX1_read_40 (fun v τ n' hv => ?_)
        obtain ⟨rfl, rfl, rfl⟩ := hv
        show Ev E (xcm E d 0 0 QQ) Y_X1_read 43 [(0, .ref (E.2.2.2 + iC_reader)), (1, .ref (E.2.2.2 + iC_tape)), (3, .int x3)] [.int q6, .int x3, .ref (E.2.2.2 + iC_reader_text)] (xσ μ4 R) n 0 0
        refine ev_i2b dX1_read_43 ?_
        obtain ⟨μ7, hμ7, h⟩ := xbd_some h
        refine xv_bast kd_4 (xl hF rfl) hμ7 dX1_read_44 ?_
        obtain ⟨x8, hx8, h⟩ := xlt_some h
        refine ev_iinc (L' := [(3, .int x8), (0, .ref (E.2.2.2 + iC_reader)), (1, .ref (E.2.2.2 + iC_tape))]) 2 dX1_read_45 rfl ((by rfl : x3 + Int32.ofInt 1 = x3 + 1).trans hx8) (Nat.le_of_ble_eq_true rfl) rfl ?_
        refine ev_goto (tgt := 16) dX1_read_48 (by decide) ?_
        cases h
        replace hk := xel_l hk
        exact ev_sub [1, 2, 0] rfl (hk)
  · show Ev E (xcm E d 0 0 QQ) Y_X1_read 51 [(0, .ref (E.2.2.2 + iC_reader))] [] (xσ q9 R) n 0 0
    refine ev_aload_n 0 dX1_read_51 rfl rfl ?_
    refine ev_iconst (v := 0) dX1_read_52 (by decide) ?_
    obtain ⟨μ10, hμ10, h⟩ := xlt_some h
    refine xv_putI cl_1 lk_RX1_42 rfl kd_3 (xl hF rfl) rfl rfl (fun _ => rfl) hμ10 dX1_read_53 ?_
    refine ev_aload_n 0 dX1_read_56 rfl rfl ?_
    refine ev_iconst (v := 0) dX1_read_57 (by decide) ?_
    obtain ⟨μ11, hμ11, h⟩ := xlt_some h
    refine xv_putI cl_1 lk_RX1_45 rfl kd_3 (xl hF rfl) rfl rfl (fun _ => rfl) hμ11 dX1_read_58 ?_
    refine ev_aload_n 0 dX1_read_61 rfl rfl ?_
    refine xv_getR cl_1 lk_RX1_22 kd_3 (xl hF rfl) (fun _ => rfl) dX1_read_62 ?_
    obtain ⟨a12, ha12, h⟩ := xbd_some h
    refine xv_nn ha12 ?_
    replace ha12 := dy_3_2 hF _ ha12
    obtain ⟨q13, hq13, h⟩ := xbd_some h
    refine ev_callV (ci := 0) (rest := []) 0 (kX0_empty (E := E) (d := 0) (QQ := (fun v τ n' => v = none ∧ τ = xσ q13 R ∧ n = n')) (Nat.le_refl _) hF ha12 hq13 (⟨rfl, rfl, rfl⟩)) my_X0_empty ⟨m_540, m_541, m_542⟩ cl_0 (xIs0_kd ha12) (xIs0_lt ha12) rfl rfl (Nat.le_of_ble_eq_true rfl) (Nat.le_trans (by decide) hd) (xlo (by decide) (Nat.le_trans (by decide) hd)) (Nat.zero_le _) (Nat.zero_le _) dX1_read_65 (fun v τ n' hv => ?_)
    obtain ⟨rfl, rfl, rfl⟩ := hv
    show Ev E (xcm E d 0 0 QQ) Y_X1_read 68 [(0, .ref (E.2.2.2 + iC_reader))] [] (xσ q13 R) n 0 0
    refine ev_aload_n 0 dX1_read_68 rfl rfl ?_
    obtain ⟨q14, hq14, h⟩ := xbd_some h
    refine ev_callV (ci := 1) (rest := []) 0 (kX1_readClause (E := E) (d := 61) (QQ := (fun v τ n' => v = none ∧ τ = xσ q14 R ∧ n = n')) (Nat.le_refl _) hF hq14 (⟨rfl, rfl, rfl⟩)) my_X1_readClause ⟨m_544, m_546, m_0⟩ cl_1 kd_3 (xl hF rfl) rfl rfl (Nat.le_of_ble_eq_true rfl) (Nat.le_trans (by decide) hd) (xlo (by decide) (Nat.le_trans (by decide) hd)) (Nat.zero_le _) (Nat.zero_le _) dX1_read_69 (fun v τ n' hv => ?_)
    obtain ⟨rfl, rfl, rfl⟩ := hv
    show Ev E (xcm E d 0 0 QQ) Y_X1_read 72 [(0, .ref (E.2.2.2 + iC_reader))] [] (xσ q14 R) n 0 0
    refine ev_iconst (v := 0) dX1_read_72 (by decide) ?_
    refine xv_istore_n (L' := [(3, .int 0), (0, .ref (E.2.2.2 + iC_reader))]) rfl dX1_read_73 rfl (Nat.le_of_ble_eq_true rfl) rfl ?_
    obtain ⟨q21, hq21, h⟩ := xbd_some h
    refine ev_sub (L' := [(0, .ref (E.2.2.2 + iC_reader)), (3, .int 0)]) [1, 0] rfl ?_
    refine xloop_run (fun v => Ev E (xcm E d 0 0 QQ) Y_X1_read 74 [(0, .ref (E.2.2.2 + iC_reader)), (3, .int v.1)] [] (xσ v.2 R) n 0 0) (fun v => Ev E (xcm E d 0 0 QQ) Y_X1_read 114 [(0, .ref (E.2.2.2 + iC_reader))] [] (xσ v R) n 0 0) ?_ _ _ _ hq21 ?_
    · rintro ⟨x15, μ16⟩ y17 h hk
      replace h : fX1_read_b74 x15 μ16 R = some y17 := h
      show Ev E (xcm E d 0 0 QQ) Y_X1_read 74 [(0, .ref (E.2.2.2 + iC_reader)), (3, .int x15)] [] (xσ μ16 R) n 0 0
      unfold fX1_read_b74 at h
      refine ev_iload_n 1 dX1_read_74 rfl rfl ?_
      refine ev_bipush (v := 14) dX1_read_75 (by decide) ?_
      refine ev_icmp_ge (tgt := 114) dX1_read_77 (by decide) (fun c77 => ?_) (fun c77 => ?_)
      · replace h := xif_t c77 h
        cases h
        replace hk := xel_r hk
        exact ev_sub [0] rfl (hk)
      · replace h := xif_f c77 h
        refine ev_aload_n 0 dX1_read_80 rfl rfl ?_
        refine xv_getI cl_1 lk_RX1_45 kd_3 (xl hF rfl) (fun _ => rfl) dX1_read_81 ?_
        refine ev_if_ne (tgt := 114) dX1_read_84 (by decide) (fun c84 => ?_) (fun c84 => ?_)
        · replace h := xif_f c84 h
          cases h
          replace hk := xel_r hk
          exact ev_sub [0] rfl (hk)
        · replace h := xif_t c84 h
          refine ev_aload_n 0 dX1_read_87 rfl rfl ?_
          refine xv_getI cl_1 lk_RX1_42 kd_3 (xl hF rfl) (fun _ => rfl) dX1_read_88 ?_
          refine ev_aload_n 0 dX1_read_91 rfl rfl ?_
          refine xv_getI cl_1 lk_RX1_33 kd_3 (xl hF rfl) (fun _ => rfl) dX1_read_92 ?_
          refine ev_icmp_ge (tgt := 114) dX1_read_95 (by decide) (fun c95 => ?_) (fun c95 => ?_)
          · replace h := xif_t c95 h
            cases h
            replace hk := xel_r hk
            exact ev_sub [0] rfl (hk)
          · replace h := xif_f c95 h
            refine ev_aload_n 0 dX1_read_98 rfl rfl ?_
            refine ev_bipush (v := 59) dX1_read_99 (by decide) ?_
            obtain ⟨q18, hq18, h⟩ := xbd_some h
            refine ev_callV (ci := 1) (rest := []) 1 (kX1_pass (E := E) (d := 1) (QQ := (fun v τ n' => v = none ∧ τ = xσ q18 R ∧ n = n')) (Nat.le_refl _) hF hq18 (⟨rfl, rfl, rfl⟩)) my_X1_pass ⟨m_576, m_578, m_6⟩ cl_1 kd_3 (xl hF rfl) rfl rfl (Nat.le_of_ble_eq_true rfl) (Nat.le_trans (by decide) hd) (xlo (by decide) (Nat.le_trans (by decide) hd)) (Nat.zero_le _) (Nat.zero_le _) dX1_read_101 (fun v τ n' hv => ?_)
            obtain ⟨rfl, rfl, rfl⟩ := hv
            show Ev E (xcm E d 0 0 QQ) Y_X1_read 104 [(0, .ref (E.2.2.2 + iC_reader)), (3, .int x15)] [] (xσ q18 R) n 0 0
            refine ev_aload_n 0 dX1_read_104 rfl rfl ?_
            obtain ⟨q19, hq19, h⟩ := xbd_some h
            refine ev_callV (ci := 1) (rest := []) 0 (kX1_readClause (E := E) (d := 61) (QQ := (fun v τ n' => v = none ∧ τ = xσ q19 R ∧ n = n')) (Nat.le_refl _) hF hq19 (⟨rfl, rfl, rfl⟩)) my_X1_readClause ⟨m_544, m_546, m_0⟩ cl_1 kd_3 (xl hF rfl) rfl rfl (Nat.le_of_ble_eq_true rfl) (Nat.le_trans (by decide) hd) (xlo (by decide) (Nat.le_trans (by decide) hd)) (Nat.zero_le _) (Nat.zero_le _) dX1_read_105 (fun v τ n' hv => ?_)
            obtain ⟨rfl, rfl, rfl⟩ := hv
            show Ev E (xcm E d 0 0 QQ) Y_X1_read 108 [(0, .ref (E.2.2.2 + iC_reader)), (3, .int x15)] [] (xσ q19 R) n 0 0
            obtain ⟨x20, hx20, h⟩ := xlt_some h
            refine ev_iinc (L' := [(3, .int x20), (0, .ref (E.2.2.2 + iC_reader))]) 1 dX1_read_108 rfl ((by rfl : x15 + Int32.ofInt 1 = x15 + 1).trans hx20) (Nat.le_of_ble_eq_true rfl) rfl ?_
            refine ev_goto (tgt := 74) dX1_read_111 (by decide) ?_
            cases h
            replace hk := xel_l hk
            exact ev_sub [1, 0] rfl (hk)
    · show Ev E (xcm E d 0 0 QQ) Y_X1_read 114 [(0, .ref (E.2.2.2 + iC_reader))] [] (xσ q21 R) n 0 0
      refine ev_aload_n 0 dX1_read_114 rfl rfl ?_
      refine xv_getI cl_1 lk_RX1_45 kd_3 (xl hF rfl) (fun _ => rfl) dX1_read_115 ?_
      refine ev_if_eq (tgt := 135) dX1_read_118 (by decide) (fun c118 => ?_) (fun c118 => ?_)
      · replace h := xif_t c118 h
        refine ev_aload_n 0 dX1_read_135 rfl rfl ?_
        refine xv_getR cl_1 lk_RX1_18 kd_3 (xl hF rfl) (fun _ => rfl) dX1_read_136 ?_
        obtain ⟨a22, ha22, h⟩ := xbd_some h
        refine xv_nn ha22 ?_
        replace ha22 := dy_3_1 hF _ ha22
        refine ev_astore_n (L' := [(3, .ref (E.2.2.2 + a22)), (0, .ref (E.2.2.2 + iC_reader))]) dX1_read_139 rfl (Nat.le_of_ble_eq_true rfl) rfl ?_
        refine ev_aload_n 1 dX1_read_140 rfl rfl ?_
        refine ev_aload_n 1 dX1_read_141 rfl rfl ?_
        refine xv_getR cl_1 lk_RX1_22 kd_3 (xl hF rfl) (fun _ => rfl) dX1_read_142 ?_
        obtain ⟨a23, ha23, h⟩ := xbd_some h
        refine xv_nn ha23 ?_
        replace ha23 := dy_3_2 hF _ ha23
        obtain ⟨R24, hR24, h⟩ := xlt_some h
        refine xv_putR cl_1 lk_RX1_18 rfl kd_3 (xl hF rfl) (fun _ => rfl) (fun _ => rfl) (fun _ => rfl) hR24 dX1_read_145 ?_
        replace hF := dw_3_1 hF ha23 hR24
        refine ev_aload_n 1 dX1_read_148 rfl rfl ?_
        refine ev_aload_n 0 dX1_read_149 rfl rfl ?_
        obtain ⟨R25, hR25, h⟩ := xlt_some h
        refine xv_putR cl_1 lk_RX1_22 rfl kd_3 (xl hF rfl) (fun _ => rfl) (fun _ => rfl) (fun _ => rfl) hR25 dX1_read_150 ?_
        replace hF := dw_3_2 hF ha22 hR25
        refine ev_aload_n 1 dX1_read_153 rfl rfl ?_
        refine xv_getR cl_1 lk_RX1_18 kd_3 (xl hF rfl) (fun _ => rfl) dX1_read_154 ?_
        obtain ⟨a26, ha26, h⟩ := xbd_some h
        refine xv_nn ha26 ?_
        replace ha26 := dy_3_1 hF _ ha26
        obtain ⟨q27, hq27, h⟩ := xbd_some h
        refine ev_callV (ci := 0) (rest := []) 0 (kX0_length (E := E) (d := 0) (QQ := (fun v τ n' => v = some (.int q27) ∧ τ = xσ q21 R25 ∧ n = n')) (Nat.le_refl _) hF ha26 hq27 (⟨rfl, rfl, rfl⟩)) my_X0_length ⟨m_556, m_557, m_558⟩ cl_0 (xIs0_kd ha26) (xIs0_lt ha26) rfl rfl (Nat.le_of_ble_eq_true rfl) (Nat.le_trans (by decide) hd) (xlo (by decide) (Nat.le_trans (by decide) hd)) (Nat.zero_le _) (Nat.zero_le _) dX1_read_157 (fun v τ n' hv => ?_)
        obtain ⟨rfl, rfl, rfl⟩ := hv
        show Ev E (xcm E d 0 0 QQ) Y_X1_read 160 [(3, .ref (E.2.2.2 + a22)), (0, .ref (E.2.2.2 + iC_reader))] [.int q27] (xσ q21 R25) n 0 0
        cases h
        exact ev_iret rfl (hQ hF) dX1_read_160 (Nat.zero_le _) (Nat.zero_le _)
      · replace h := xif_f c118 h
        refine ev_sipush (v := (-1000)) dX1_read_121 (by decide) ?_
        refine ev_aload_n 0 dX1_read_124 rfl rfl ?_
        refine xv_getI cl_1 lk_RX1_45 kd_3 (xl hF rfl) (fun _ => rfl) dX1_read_125 ?_
        refine ev_imul dX1_read_128 ?_
        refine ev_aload_n 0 dX1_read_129 rfl rfl ?_
        refine xv_getI cl_1 lk_RX1_42 kd_3 (xl hF rfl) (fun _ => rfl) dX1_read_130 ?_
        refine ev_isub dX1_read_133 ?_
        cases h
        exact ev_iret rfl (hQ hF) dX1_read_134 (Nat.zero_le _) (Nat.zero_le _)
def fX11_law (p0 : Int32) (μ : xm) (R : xr) : Option (Int32 × xm × xr) := xbd (fX11_within p0 1 200) fun q1 => if q1 = 0 then (some ((-1), μ, R)) else (xbd (fX9_length μ) fun q2 => if p0 ≤ q2 then (xbd (fX1_read p0 μ R) fun q3 => xbd (fX9_empty q3.2.1) fun q4 => some (q3.1, q4, q3.2.2)) else (some ((-1), μ, R)))
set_option maxHeartbeats 4000000 in
set_option maxRecDepth 100000 in
theorem kX11_law {E : xE} {d : Nat} {QQ : xP} (hd : 63 ≤ d) {p0 : Int32} {μ : xm} {R : xr} {n : Nat} (hF : xFin R n)  {res : Int32 × xm × xr} (h : fX11_law p0 μ R = some res) (hQ : xFin res.2.2 n → QQ (some (.int res.1)) (xσ res.2.1 res.2.2) n) : xCon E d Y_X11_law 0 0 [.ref (E.2.2.2 + iC), .int p0] (xσ μ R) n QQ := by
  refine xCon_of pn_RX11 (Nat.le_of_ble_eq_true rfl) (L0 := [(0, .ref (E.2.2.2 + iC)), (1, .int p0)]) rfl ?_
  unfold fX11_law at h
  refine ev_iload_n 1 dX11_law_0 rfl rfl ?_
  refine ev_iconst (v := 1) dX11_law_1 (by decide) ?_
  refine ev_sipush (v := 200) dX11_law_2 (by decide) ?_
  obtain ⟨q1, hq1, h⟩ := xbd_some h
  refine ev_callS (As := [.int p0, .int 1, .int 200]) (rest := []) 3 (kX11_within (E := E) (d := 0) (QQ := (fun v τ n' => v = some (.int q1) ∧ τ = xσ μ R ∧ n = n')) (Nat.le_refl _)  hq1 (⟨rfl, rfl, rfl⟩)) my_X11_within ⟨m_424, m_425⟩ rfl rfl (Nat.le_of_ble_eq_true rfl) (Nat.le_trans (by decide) hd) (xlo (by decide) (Nat.le_trans (by decide) hd)) (Nat.zero_le _) (Nat.zero_le _) dX11_law_5 (fun v τ n' hv => ?_)
  obtain ⟨rfl, rfl, rfl⟩ := hv
  show Ev E (xcm E d 0 0 QQ) Y_X11_law 8 [(0, .ref (E.2.2.2 + iC)), (1, .int p0)] [.int q1] (xσ μ R) n 0 0
  refine ev_if_eq (tgt := 22) dX11_law_8 (by decide) (fun c8 => ?_) (fun c8 => ?_)
  · replace h := xif_t c8 h
    refine ev_iconst (v := (-1)) dX11_law_22 (by decide) ?_
    cases h
    exact ev_iret rfl (hQ hF) dX11_law_23 (Nat.zero_le _) (Nat.zero_le _)
  · replace h := xif_f c8 h
    refine ev_iload_n 1 dX11_law_11 rfl rfl ?_
    refine ev_aload_n 0 dX11_law_12 rfl rfl ?_
    refine xv_getF (a := iC_tape) cl_11 lk_RX11_10 kd_0 (xl hF rfl) (fun _ => rfl) (fr_0_0 hF) dX11_law_13 ?_
    obtain ⟨q2, hq2, h⟩ := xbd_some h
    refine ev_callV (ci := 9) (rest := [.int p0]) 0 (kX9_length (E := E) (d := 0) (QQ := (fun v τ n' => v = some (.int q2) ∧ τ = xσ μ R ∧ n = n')) (Nat.le_refl _) hF hq2 (⟨rfl, rfl, rfl⟩)) my_X9_length ⟨m_511, m_512, m_513⟩ cl_9 kd_1 (xl hF rfl) rfl rfl (Nat.le_of_ble_eq_true rfl) (Nat.le_trans (by decide) hd) (xlo (by decide) (Nat.le_trans (by decide) hd)) (Nat.zero_le _) (Nat.zero_le _) dX11_law_16 (fun v τ n' hv => ?_)
    obtain ⟨rfl, rfl, rfl⟩ := hv
    show Ev E (xcm E d 0 0 QQ) Y_X11_law 19 [(0, .ref (E.2.2.2 + iC)), (1, .int p0)] [.int q2, .int p0] (xσ μ R) n 0 0
    refine ev_icmp_le (tgt := 24) dX11_law_19 (by decide) (fun c19 => ?_) (fun c19 => ?_)
    · replace h := xif_t c19 h
      refine ev_aload_n 0 dX11_law_24 rfl rfl ?_
      refine xv_getF (a := iC_reader) cl_11 lk_RX11_19 kd_0 (xl hF rfl) (fun _ => rfl) (fr_0_1 hF) dX11_law_25 ?_
      refine ev_aload_n 0 dX11_law_28 rfl rfl ?_
      refine xv_getF (a := iC_tape) cl_11 lk_RX11_10 kd_0 (xl hF rfl) (fun _ => rfl) (fr_0_0 hF) dX11_law_29 ?_
      refine ev_iload_n 1 dX11_law_32 rfl rfl ?_
      obtain ⟨q3, hq3, h⟩ := xbd_some h
      refine ev_callV (ci := 1) (rest := []) 2 (kX1_read (E := E) (d := 62) (QQ := (fun v τ n' => v = some (.int q3.1) ∧ τ = xσ q3.2.1 q3.2.2 ∧ n = n' ∧ xFin q3.2.2 n)) (Nat.le_refl _) hF hq3 (fun z0 => ⟨rfl, rfl, rfl, z0⟩)) my_X1_read ⟨m_523, m_524, m_525⟩ cl_1 kd_3 (xl hF rfl) rfl rfl (Nat.le_of_ble_eq_true rfl) (Nat.le_trans (by decide) hd) (xlo (by decide) (Nat.le_trans (by decide) hd)) (Nat.zero_le _) (Nat.zero_le _) dX11_law_33 (fun v τ n' hv => ?_)
      obtain ⟨rfl, rfl, rfl, hF⟩ := hv
      show Ev E (xcm E d 0 0 QQ) Y_X11_law 36 [(0, .ref (E.2.2.2 + iC)), (1, .int p0)] [.int q3.1] (xσ q3.2.1 q3.2.2) n 0 0
      refine xv_istore_n (L' := [(2, .int q3.1), (0, .ref (E.2.2.2 + iC)), (1, .int p0)]) rfl dX11_law_36 rfl (Nat.le_of_ble_eq_true rfl) rfl ?_
      refine ev_aload_n 1 dX11_law_37 rfl rfl ?_
      refine xv_getF (a := iC_tape) cl_11 lk_RX11_10 kd_0 (xl hF rfl) (fun _ => rfl) (fr_0_0 hF) dX11_law_38 ?_
      obtain ⟨q4, hq4, h⟩ := xbd_some h
      refine ev_callV (ci := 9) (rest := []) 0 (kX9_empty (E := E) (d := 0) (QQ := (fun v τ n' => v = none ∧ τ = xσ q4 q3.2.2 ∧ n = n')) (Nat.le_refl _) hF hq4 (⟨rfl, rfl, rfl⟩)) my_X9_empty ⟨m_613, m_614, m_615⟩ cl_9 kd_1 (xl hF rfl) rfl rfl (Nat.le_of_ble_eq_true rfl) (Nat.le_trans (by decide) hd) (xlo (by decide) (Nat.le_trans (by decide) hd)) (Nat.zero_le _) (Nat.zero_le _) dX11_law_41 (fun v τ n' hv => ?_)
      obtain ⟨rfl, rfl, rfl⟩ := hv
      show Ev E (xcm E d 0 0 QQ) Y_X11_law 44 [(2, .int q3.1), (0, .ref (E.2.2.2 + iC)), (1, .int p0)] [] (xσ q4 q3.2.2) n 0 0
      refine ev_iload_n 0 dX11_law_44 rfl rfl ?_
      cases h
      exact ev_iret rfl (hQ hF) dX11_law_45 (Nat.zero_le _) (Nat.zero_le _)
    · replace h := xif_f c19 h
      refine ev_iconst (v := (-1)) dX11_law_22 (by decide) ?_
      cases h
      exact ev_iret rfl (hQ hF) dX11_law_23 (Nat.zero_le _) (Nat.zero_le _)
