def xwl8 : List Cond := [Cond.classLink RL 7 RX11, Cond.instantiable RX11 9, Cond.methodLink RL 9 yX11_init, Cond.instanceMethod yX11_init, Cond.classLink RL 10 RX12, Cond.instantiable RX12 66, Cond.methodLink RL 12 yX12_init, Cond.instanceMethod yX12_init]
set_option maxRecDepth 100000 in
theorem xwi8 : ∀ w ∈ xwl8, w ∈ xtb := xwi [125, 126, 127, 128, 1240, 1241, 1242, 1243] (by decide +kernel) (by decide +kernel)
theorem m_125 : Cond.classLink RL 7 RX11 ∈ xtb := xwi8 _ (List.mem_of_getElem? (i := 0) rfl)
theorem m_126 : Cond.instantiable RX11 9 ∈ xtb := xwi8 _ (List.mem_of_getElem? (i := 1) rfl)
theorem m_127 : Cond.methodLink RL 9 yX11_init ∈ xtb := xwi8 _ (List.mem_of_getElem? (i := 2) rfl)
theorem m_128 : Cond.instanceMethod yX11_init ∈ xtb := xwi8 _ (List.mem_of_getElem? (i := 3) rfl)
theorem m_1240 : Cond.classLink RL 10 RX12 ∈ xtb := xwi8 _ (List.mem_of_getElem? (i := 4) rfl)
theorem m_1241 : Cond.instantiable RX12 66 ∈ xtb := xwi8 _ (List.mem_of_getElem? (i := 5) rfl)
theorem m_1242 : Cond.methodLink RL 12 yX12_init ∈ xtb := xwi8 _ (List.mem_of_getElem? (i := 6) rfl)
theorem m_1243 : Cond.instanceMethod yX12_init ∈ xtb := xwi8 _ (List.mem_of_getElem? (i := 7) rfl)
theorem xwl {l : List Cond} (ps : List Nat) (hp : l = ps.filterMap (fun i => lw_tbl[i]?)) : ∀ w ∈ l, w ∈ lw_tbl := by
  intro w hw
  rw [hp] at hw
  obtain ⟨i, -, hi⟩ := List.mem_filterMap.mp hw
  exact List.mem_of_getElem? hi
set_option maxRecDepth 100000 in
theorem xnf_in : ∀ w ∈ xnf.map (fun q => Cond.fieldLinkNest q.1 q.2.1 q.2.2.1 q.2.2.2.1 q.2.2.2.2.1 q.2.2.2.2.2), w ∈ lw_tbl := xwl [466, 467, 469, 470, 471, 472] (by decide +kernel)
set_option maxRecDepth 100000 in
theorem xnm_in : ∀ w ∈ xnm.map (fun q => Cond.methodLinkNest q.1 q.2.1 q.2.2.1 q.2.2.2), w ∈ lw_tbl := xwl [135, 149, 155, 256, 284, 356, 527, 730, 784, 901, 962, 1008, 1063, 1196] (by decide +kernel)
set_option maxRecDepth 100000 in
theorem xao_in : ∀ w ∈ [Cond.arrayOver (.object RX2)], w ∈ lw_tbl := xwl [231] (by decide +kernel)
theorem xcl_some {s : State} {b : Nat} (hts : ∀ w ∈ xtb, w.before #[Value.ref b] s = true) : ∃ c : ClassId, c = c := by
  obtain ⟨cC, -, -⟩ := Cond.instantiable_spec (hts _ m_154)
  exact ⟨cC, rfl⟩
noncomputable def xcl_dummy {s : State} {b : Nat} (hts : ∀ w ∈ xtb, w.before #[Value.ref b] s = true) : ClassId := Classical.choose (xcl_some hts)
def μ00 : xm := (fun _ _ => 0, fun _ _ => 0)
def R00 : xr := fun _ _ => none
theorem xcl_known {s : State} {b : Nat} (hts : ∀ w ∈ xtb, w.before #[Value.ref b] s = true) : ∀ k : Nat, ∃ (cC : ClassId) (iS : Nat → Nat), ∀ q : vw_C, xcls[k]? = some q → u_Kn s q.1 q.2.1 q.2.2 cC iS := by
  intro k
  by_cases hk : k < 13
  · have hall : ∀ ci, ci < 13 → ∃ (cC : ClassId) (iS : Nat → Nat), u_Kn s (xCn ci) (xT ci) (xN ci) cC iS := by
      intro ci hci
      rcases (show ci = 0 ∨ ci = 1 ∨ ci = 2 ∨ ci = 3 ∨ ci = 4 ∨ ci = 5 ∨ ci = 6 ∨ ci = 7 ∨ ci = 8 ∨ ci = 9 ∨ ci = 10 ∨ ci = 11 ∨ ci = 12 by omega) with rfl | rfl | rfl | rfl | rfl | rfl | rfl | rfl | rfl | rfl | rfl | rfl | rfl
      · exact u_known hts cl_0.2.1 (hts _ m_154)
      · exact u_known hts cl_1.2.1 (hts _ m_148)
      · exact u_known hts cl_2.2.1 (hts _ m_459)
      · exact u_known hts cl_3.2.1 (hts _ m_225)
      · exact u_known hts cl_4.2.1 (hts _ m_255)
      · exact u_known hts cl_5.2.1 (hts _ m_206)
      · exact u_known hts cl_6.2.1 (hts _ m_349)
      · exact u_known hts cl_7.2.1 (hts _ m_283)
      · exact u_known hts cl_8.2.1 (hts _ m_355)
      · exact u_known hts cl_9.2.1 (hts _ m_134)
      · exact u_known hts cl_10.2.1 (hts _ m_308)
      · exact u_known hts cl_11.2.1 (hts _ m_126)
      · exact u_known hts cl_12.2.1 (hts _ m_1241)
    obtain ⟨cC, iS, h⟩ := hall k hk
    have hx : ∀ ci, ci < 13 → xcls[ci]? = some (xCn ci, xT ci, xN ci) := by
      intro ci hci
      rcases (show ci = 0 ∨ ci = 1 ∨ ci = 2 ∨ ci = 3 ∨ ci = 4 ∨ ci = 5 ∨ ci = 6 ∨ ci = 7 ∨ ci = 8 ∨ ci = 9 ∨ ci = 10 ∨ ci = 11 ∨ ci = 12 by omega) with rfl | rfl | rfl | rfl | rfl | rfl | rfl | rfl | rfl | rfl | rfl | rfl | rfl
      · exact cl_0.1
      · exact cl_1.1
      · exact cl_2.1
      · exact cl_3.1
      · exact cl_4.1
      · exact cl_5.1
      · exact cl_6.1
      · exact cl_7.1
      · exact cl_8.1
      · exact cl_9.1
      · exact cl_10.1
      · exact cl_11.1
      · exact cl_12.1
    exact ⟨cC, iS, fun q hq => by rw [hx k hk] at hq; cases hq; exact h⟩
  · refine ⟨(xcl_dummy hts), fun _ => 0, fun q hq => ?_⟩
    rw [List.getElem?_eq_none (by show 13 ≤ k; omega)] at hq
    cases hq
/-- what the two constructors leave -/
def xq0 : Option (xm × xr) := xbd (fX11_init_0 (xz0I (xz0J μ00 0) 0) (xz0R R00 0)) fun q1 => fX12_init_61 (xz0I (xz0J q1.1 61) 61) (xz0R q1.2 61)
set_option maxHeartbeats 4000000 in
set_option maxRecDepth 100000 in
theorem lw_enter {E : xE} {b L : Nat} {xs : Nat → Int32} {nm : String} {J : xm → xr → Nat → Prop} (HS : lwS J) (HJ : ∀ μ R n, J μ R n → xFin R n ∧ ∃ k, n = 107 + 2 * k) (H0 : ∃ q, xq0 = some q ∧ J q.1 q.2 107) (hL : L ≤ 3584) : Ev E (lwC b L xs E.2.2.2) (lwY nm) 0 [(0, .ref b)] [] (xσ μ00 R00) 0 0 0 := by
  obtain ⟨q2, h, hJ⟩ := H0
  unfold xq0 at h
  obtain ⟨q1, hq1, hq2⟩ := xbd_some h
  refine xv_new cl_11 (N := 9) rfl (xdf_ok xdf_11) m_125 m_126 m_109 kd_0 (Nat.le_of_ble_eq_true rfl) (Nat.le_of_ble_eq_true rfl) rfl rfl dL_law_0 ?_
  show Ev E (lwC b L xs E.2.2.2) (lwY nm) 3 [(0, .ref b)] [.ref (E.2.2.2 + iC)] (xσ (xz0I (xz0J μ00 0) 0) (xz0R R00 0)) 1 1 9
  refine ev_dup dL_law_3 rfl ?_
  refine ev_callI (As := []) (rest := [.ref (E.2.2.2 + iC)]) 0 rfl (kX11_init_0 (E := E) (d := 3) (QQ := (fun v τ n' => v = none ∧ τ = xσ q1.1 q1.2 ∧ n' = 61)) (Nat.le_refl _) hq1 ⟨rfl, rfl, rfl⟩) my_X11_init ⟨m_127, rfl, m_128⟩ rfl rfl (Nat.le_of_ble_eq_true rfl) (Nat.le_of_ble_eq_true rfl) (Nat.le_of_ble_eq_true rfl) (Nat.le_of_ble_eq_true rfl) (Nat.le_of_ble_eq_true rfl) dL_law_4 (fun v τ n' hv => ?_)
  obtain ⟨rfl, rfl, rfl⟩ := hv
  show Ev E (lwC b L xs E.2.2.2) (lwY nm) 7 [(0, .ref b)] [.ref (E.2.2.2 + iC)] (xσ q1.1 q1.2) 61 61 2920
  refine ev_astore_n (L' := [(1, .ref (E.2.2.2 + iC)), (0, .ref b)]) dL_law_7 rfl (Nat.le_of_ble_eq_true rfl) rfl ?_
  refine xv_new cl_12 (N := 66) rfl (xdf_ok xdf_12) m_1240 m_1241 m_121 kd_61 (Nat.le_of_ble_eq_true rfl) (Nat.le_of_ble_eq_true rfl) rfl rfl dL_law_8 ?_
  show Ev E (lwC b L xs E.2.2.2) (lwY nm) 11 [(1, .ref (E.2.2.2 + iC)), (0, .ref b)] [.ref (E.2.2.2 + iM)] (xσ (xz0I (xz0J q1.1 61) 61) (xz0R q1.2 61)) 62 62 2986
  refine ev_dup dL_law_11 rfl ?_
  refine ev_callI (As := []) (rest := [.ref (E.2.2.2 + iM)]) 0 rfl (kX12_init_61 (E := E) (d := 1) (QQ := (fun v τ n' => v = none ∧ τ = xσ q2.1 q2.2 ∧ n' = 107)) (Nat.le_refl _) hq2 ⟨rfl, rfl, rfl⟩) my_X12_init ⟨m_1242, rfl, m_1243⟩ rfl rfl (Nat.le_of_ble_eq_true rfl) (Nat.le_of_ble_eq_true rfl) (Nat.le_of_ble_eq_true rfl) (Nat.le_of_ble_eq_true rfl) (Nat.le_of_ble_eq_true rfl) dL_law_12 (fun v τ n' hv => ?_)
  obtain ⟨rfl, rfl, rfl⟩ := hv
  show Ev E (lwC b L xs E.2.2.2) (lwY nm) 15 [(1, .ref (E.2.2.2 + iC)), (0, .ref b)] [.ref (E.2.2.2 + iM)] (xσ q2.1 q2.2) 107 107 6298
  refine ev_astore_n (L' := [(2, .ref (E.2.2.2 + iM)), (1, .ref (E.2.2.2 + iC)), (0, .ref b)]) dL_law_15 rfl (Nat.le_of_ble_eq_true rfl) rfl ?_
  refine ev_iconst (v := 0) dL_law_16 (by decide) ?_
  refine ev_istore_n (L' := [(3, .int 0), (2, .ref (E.2.2.2 + iM)), (1, .ref (E.2.2.2 + iC)), (0, .ref b)]) dL_law_17 rfl (Nat.le_of_ble_eq_true rfl) rfl ?_
  refine ev_widen (ce' := 200) (sl' := 20000) (Nat.le_of_ble_eq_true rfl) (Nat.le_of_ble_eq_true rfl) ?_
  exact ev_sub [3, 2, 1, 0] rfl (lw_loop HS HJ hL (L + 1) 0 q2.1 q2.2 107 (by omega) (by omega) hJ)
set_option maxHeartbeats 4000000 in
set_option maxRecDepth 100000 in
theorem lw_start {J : xm → xr → Nat → Prop} (HS : lwS J) (HJ : ∀ μ R n, J μ R n → xFin R n ∧ ∃ k, n = 107 + 2 * k) (H0 : ∃ q, xq0 = some q ∧ J q.1 q.2 107) {p : Program} {e : Env} {s : State} {m : MethodId} {below : List Frame} {meth : Method} {c : Code} (l : Launch) {b L : Nat} {xs : Nat → Int32} (hL : L ≤ 3584) (C0 : lw_At p s m meth c b L xs) : W p l e room_1 s m #[Value.ref b] below meth c s.heap [] 0 0 (lw_Z below #[Value.ref b] s) (entryFrame m ([Value.ref b] : List Value).toArray 4) := by
  obtain ⟨hx, hb, hr, hml, hown, hts0, hX, hbl, hlocks, hgv⟩ := id C0
  have hts : ∀ w ∈ xtb, w.before #[Value.ref b] s = true := fun w h => hts0 w (List.mem_filter.mp h).1
  have hcl := xcl_known hts
  obtain ⟨c0, k0, p0, i1, i2, i3⟩ := Cond.arrayClass_spec (hts _ m_184)
  obtain ⟨c1, k1, p1, j1, j2, j3⟩ := Cond.arrayClass_spec (hts _ m_185)
  obtain ⟨c2, k2, p2, b1, b2, b3⟩ := Cond.arrayClass_spec (hts _ m_146)
  obtain ⟨c3, k3, p3, z1, z2, z3⟩ := Cond.arrayClass_spec (hts _ m_347)
  have hao : (Cond.arrayOver (.object RX2)).before #[Value.ref b] s = true := hts0 _ (xao_in _ List.mem_cons_self)
  obtain ⟨p4, c4, k4, q1, q2, q3, q4, q5⟩ := Cond.arrayOver_spec hao
  have hE : ∃ E : xE, E.1 = l ∧ E.2.2.2 = s.heap.size ∧ (∀ (c : Nat) (q : vw_C), xcls[c]? = some q → u_Kn s q.1 q.2.1 q.2.2 (E.2.1.1 c) (E.2.1.2 c)) ∧ E.2.2.1 0 = c0 ∧ E.2.2.1 1 = c1 ∧ E.2.2.1 2 = c2 ∧ E.2.2.1 3 = c3 ∧ E.2.2.1 4 = c4 :=
    ⟨(l, (fun k => Classical.choose (hcl k), fun k => Classical.choose (Classical.choose_spec (hcl k))), (fun k => match k with | 0 => c0 | 1 => c1 | 2 => c2 | 3 => c3 | _ => c4), s.heap.size), rfl, rfl, fun c q h => Classical.choose_spec (Classical.choose_spec (hcl c)) q h, rfl, rfl, rfl, rfl, rfl⟩
  obtain ⟨E, rfl, hsz, hKc, e0, e1, e2, e3, e4⟩ := hE
  have hK : xK E s := by
    refine ⟨⟨hKc, fun k q hq => ?_⟩, ⟨fun q hq => ?_, fun q hq => ?_⟩, va_AO.of (A := #[]) ?_⟩
    · unfold xty at hq
      match k, hq with
      | 0, hq => cases hq; rw [e0]; exact ⟨fun n z => ⟨fun k h => (by cases h), k0, i2, p0, i3⟩, i1⟩
      | 1, hq => cases hq; rw [e1]; exact ⟨fun n z => ⟨fun k h => (by cases h), k1, j2, p1, j3⟩, j1⟩
      | 2, hq => cases hq; rw [e2]; exact ⟨fun n z => ⟨fun k h => (by cases h), k2, b2, p2, b3⟩, b1⟩
      | 3, hq => cases hq; rw [e3]; exact ⟨fun n z => ⟨fun k h => (by cases h), k3, z2, p3, z3⟩, z1⟩
      | 4, hq => cases hq; rw [e4]; exact ⟨fun n z => ⟨fun k h => (by cases h), k4, q3, p4, q4⟩, k4, p4, q3, q4, q1, q5⟩
      | k + 5, hq => simp at hq
    · exact va_Nw.of rfl (hts0 _ (xnf_in _ (List.mem_map.mpr ⟨q, hq, rfl⟩)))
    · exact va_Nw.of rfl (hts0 _ (xnm_in _ (List.mem_map.mpr ⟨q, hq, rfl⟩)))
    · exact hao
  have hl := lv_entry ([.ref b]) (n := 4) (Nat.le_of_ble_eq_true rfl)
  rw [lg_entry_eq]
  generalize (lg_sl ([.ref b]) ++ List.replicate (4 - (lg_sl ([.ref b])).length) Slot.unset).toArray = ls at hl ⊢
  have hl : lv_has ls 4 [(0, .ref b)] := hl
  have hR : xR E (xσ μ00 R00) 0 s.heap := ⟨by rw [hsz]; rfl, fun id hid => absurd hid (Nat.not_lt_zero _)⟩
  refine lw_enter (E := E) (b := b) (L := L) (xs := xs) (nm := meth.name) HS HJ H0 hL p e s m #[Value.ref b] below meth c s.heap [] ls ⟨hx, hb, hr, hml, hown, hts, hlocks, rfl, hK, by rw [hsz]; exact Nat.le_refl _, rfl, hX, by rw [hsz]; exact hbl, hsz⟩ hR va_S.rf hl
