section EVA
variable {E : xE} {C : xC} {Y : xY} {pc : Nat} {L : List (Nat × Value)} {st : List Value} {σ : xM} {n ce sl : Nat}
theorem ev_iald {o len : Nat} {i : Int32} (hk : xkd o = (1, len)) (ho : o < n) (hin : vp_in i len) (hd : decode Y.2.1 pc = .ok (.iaload, 1)) (h : Ev E C Y (pc + 1) L (.int (σ.1 o i.toNatClampNeg) :: st) σ n ce sl) : Ev E C Y pc L (.int i :: .ref (E.2.2.2 + o) :: st) σ n ce sl := by
  intro p e s m args below meth c H locs ls hC hR hS hl
  obtain ⟨hx, hb, hr, hml, hown, hts, -, -, hK, -⟩ := id hC
  have hP := xR_one hR ho
  rw [xent_i hk] at hP
  exact va_iald hx hb hK.1 hP 0 0 rfl rfl hin hd (h p e s m args below meth c H locs ls hC hR hS hl)
theorem ev_bald {o len : Nat} {i : Int32} (hk : xkd o = (3, len)) (ho : o < n) (hin : vp_in i len) (hd : decode Y.2.1 pc = .ok (.baload, 1)) (h : Ev E C Y (pc + 1) L (.int (σ.1 o i.toNatClampNeg) :: st) σ n ce sl) : Ev E C Y pc L (.int i :: .ref (E.2.2.2 + o) :: st) σ n ce sl := by
  intro p e s m args below meth c H locs ls hC hR hS hl
  obtain ⟨hx, hb, hr, hml, hown, hts, -, -, hK, -⟩ := id hC
  have hP := xR_one hR ho
  rw [xent_b hk] at hP
  exact va_bald hx hb hK.1 hP 0 2 rfl rfl hin hd (h p e s m args below meth c H locs ls hC hR hS hl)
theorem ev_zald {o len : Nat} {i : Int32} (hk : xkd o = (4, len)) (ho : o < n) (hin : vp_in i len) (hd : decode Y.2.1 pc = .ok (.baload, 1)) (h : Ev E C Y (pc + 1) L (.int (σ.1 o i.toNatClampNeg) :: st) σ n ce sl) : Ev E C Y pc L (.int i :: .ref (E.2.2.2 + o) :: st) σ n ce sl := by
  intro p e s m args below meth c H locs ls hC hR hS hl
  obtain ⟨hx, hb, hr, hml, hown, hts, -, -, hK, -⟩ := id hC
  have hP := xR_one hR ho
  rw [xent_z hk] at hP
  exact va_zald hx hb hK.1 hP 0 3 rfl rfl hin hd (h p e s m args below meth c H locs ls hC hR hS hl)
theorem ev_lald {o len : Nat} {i : Int32} (hk : xkd o = (2, len)) (ho : o < n) (hin : vp_in i len) (hd : decode Y.2.1 pc = .ok (.laload, 1)) (h : Ev E C Y (pc + 1) L (.long (σ.2.1 o i.toNatClampNeg) :: st) σ n ce sl) : Ev E C Y pc L (.int i :: .ref (E.2.2.2 + o) :: st) σ n ce sl := by
  intro p e s m args below meth c H locs ls hC hR hS hl
  obtain ⟨hx, hb, hr, hml, hown, hts, -, -, hK, -⟩ := id hC
  have hP := xR_one hR ho
  rw [xent_l hk] at hP
  exact va_lald hx hb hK.1 hP 0 1 rfl rfl hin hd (h p e s m args below meth c H locs ls hC hR hS hl)
theorem ev_aald {o len : Nat} {i : Int32} (hk : xkd o = (5, len)) (ho : o < n) (hin : vp_in i len) (hd : decode Y.2.1 pc = .ok (.aaload, 1)) (h : Ev E C Y (pc + 1) L (xrf E.2.2.2 (σ.2.2 o i.toNatClampNeg) :: st) σ n ce sl) : Ev E C Y pc L (.int i :: .ref (E.2.2.2 + o) :: st) σ n ce sl := by
  intro p e s m args below meth c H locs ls hC hR hS hl
  obtain ⟨hx, hb, hr, hml, hown, hts, -, -, hK, -⟩ := id hC
  have hP := xR_one hR ho
  rw [xent_q hk] at hP
  exact va_aldq hx hb hK.1 hP 0 4 rfl rfl hin hd (h p e s m args below meth c H locs ls hC hR hS hl)
/-- kinds of arrays -/
theorem xent_arr {o t len : Nat} (hk : xkd o = (t + 1, len)) (ht : t < 5) : ∃ x : vp_A, xent E σ o = .inl (E.2.2.1 t, x) ∧ x.1 = len := by
  rcases (show t = 0 ∨ t = 1 ∨ t = 2 ∨ t = 3 ∨ t = 4 by omega) with rfl | rfl | rfl | rfl | rfl
  · exact ⟨_, xent_i hk, rfl⟩
  · exact ⟨_, xent_l hk, rfl⟩
  · exact ⟨_, xent_b hk, rfl⟩
  · exact ⟨_, xent_z hk, rfl⟩
  · exact ⟨_, xent_q hk, rfl⟩
theorem ev_alen {o len : Nat} {v : Int32} (t : Nat) (ht : t < 5) (hk : xkd o = (t + 1, len)) (ho : o < n) (hv : Int32.ofNat len = v) (hd : decode Y.2.1 pc = .ok (.arraylength, 1)) (h : Ev E C Y (pc + 1) L (.int v :: st) σ n ce sl) : Ev E C Y pc L (.ref (E.2.2.2 + o) :: st) σ n ce sl := by
  intro p e s m args below meth c H locs ls hC hR hS hl
  obtain ⟨hx, hb, hr, hml, hown, hts, -, -, hK, -⟩ := id hC
  have hP := xR_one hR ho
  obtain ⟨x, e1, e2⟩ := xent_arr (E := E) (σ := σ) hk ht
  rw [e1] at hP
  have htt : ∃ ty, (xty E)[t]? = some (E.2.2.1 t, ty) := by
    rcases (show t = 0 ∨ t = 1 ∨ t = 2 ∨ t = 3 ∨ t = 4 by omega) with rfl | rfl | rfl | rfl | rfl <;> exact ⟨_, rfl⟩
  obtain ⟨ty, h1⟩ := htt
  exact va_alen hx hb hK.1 hP 0 t rfl h1 (by rw [e2]; exact hv) hd (h p e s m args below meth c H locs ls hC hR hS hl)
theorem xupd {α : Type} {f : Nat → Nat → α} {o k : Nat} {v : α} : xup f o k v o = fun j => if j = k then v else f o j := by
  funext j; simp [xup]
theorem ev_iast {o len : Nat} {i x : Int32} (hk : xkd o = (1, len)) (ho : o < n) (hin : vp_in i len) (hd : decode Y.2.1 pc = .ok (.iastore, 1)) (h : Ev E C Y (pc + 1) L st (xwI σ o i.toNatClampNeg x) n ce sl) : Ev E C Y pc L (.int x :: .int i :: .ref (E.2.2.2 + o) :: st) σ n ce sl := by
  intro p e s m args below meth c H locs ls hC hR hS hl
  obtain ⟨hx, hb, hr, hml, hown, hts, -, -, hK, -⟩ := id hC
  have hP := xR_one hR ho
  rw [xent_i hk] at hP
  refine W.iast hx hb (hP 0 _ rfl) ((hK.1.2 0 _ rfl).1 len (fun j => .int (σ.1 o j))) (fun q => by cases q) (by show ¬ (i < 0 ∨ (arrV _ _ _).slots.size ≤ _); rw [arrV_size]; exact hin) rfl rfl hd fun H1 e1 e2 e3 => ?_
  refine h p e s m args below meth c H1 _ ls hC (xR_set hR ho e2 e3 ?_ (fun a ha => xent_wI ha)) (hS.put e2 e3 (Nat.le_add_right _ _)) hl
  rw [xent_i hk]
  show H1[E.2.2.2 + o]? = some (vp_cell _ _)
  rw [e1, vp_cell_i, vp_cell_i, arrV_store]
  congr 2
  funext q
  by_cases hq : q = i.toNatClampNeg
  · subst hq; simp [updV, xwI, xup]
  · simp [updV, xwI, xup, hq]
theorem ev_bast {o len : Nat} {i x : Int32} (hk : xkd o = (3, len)) (ho : o < n) (hin : vp_in i len) (hd : decode Y.2.1 pc = .ok (.bastore, 1)) (h : Ev E C Y (pc + 1) L st (xwI σ o i.toNatClampNeg (vp_nar .byte x)) n ce sl) : Ev E C Y pc L (.int x :: .int i :: .ref (E.2.2.2 + o) :: st) σ n ce sl := by
  intro p e s m args below meth c H locs ls hC hR hS hl
  obtain ⟨hx, hb, hr, hml, hown, hts, -, -, hK, -⟩ := id hC
  have hP := xR_one hR ho
  rw [xent_b hk] at hP
  refine W.bast hx hb (hP 0 _ rfl) ((hK.1.2 2 _ rfl).1 len (fun j => .int (σ.1 o j))) (fun q => by cases q) (by show ¬ (i < 0 ∨ (arrV _ _ _).slots.size ≤ _); rw [arrV_size]; exact hin) rfl rfl hd fun H1 e1 e2 e3 => ?_
  refine h p e s m args below meth c H1 _ ls hC (xR_set hR ho e2 e3 ?_ (fun a ha => xent_wI ha)) (hS.put e2 e3 (Nat.le_add_right _ _)) hl
  rw [xent_b hk]
  show H1[E.2.2.2 + o]? = some (vp_cell _ _)
  rw [e1, vp_cell_i, vp_cell_i, arrV_store]
  congr 2
  funext q
  by_cases hq : q = i.toNatClampNeg
  · subst hq; simp [updV, xwI, xup, vp_nar]; try rfl
  · simp [updV, xwI, xup, hq]
theorem ev_zast {o len : Nat} {i x : Int32} (hk : xkd o = (4, len)) (ho : o < n) (hin : vp_in i len) (hd : decode Y.2.1 pc = .ok (.bastore, 1)) (h : Ev E C Y (pc + 1) L st (xwI σ o i.toNatClampNeg (vp_nar .boolean x)) n ce sl) : Ev E C Y pc L (.int x :: .int i :: .ref (E.2.2.2 + o) :: st) σ n ce sl := by
  intro p e s m args below meth c H locs ls hC hR hS hl
  obtain ⟨hx, hb, hr, hml, hown, hts, -, -, hK, -⟩ := id hC
  have hP := xR_one hR ho
  rw [xent_z hk] at hP
  refine W.zast hx hb (hP 0 _ rfl) ((hK.1.2 3 _ rfl).1 len (fun j => .int (σ.1 o j))) (fun q => by cases q) (by show ¬ (i < 0 ∨ (arrV _ _ _).slots.size ≤ _); rw [arrV_size]; exact hin) rfl rfl hd fun H1 e1 e2 e3 => ?_
  refine h p e s m args below meth c H1 _ ls hC (xR_set hR ho e2 e3 ?_ (fun a ha => xent_wI ha)) (hS.put e2 e3 (Nat.le_add_right _ _)) hl
  rw [xent_z hk]
  show H1[E.2.2.2 + o]? = some (vp_cell _ _)
  rw [e1, vp_cell_i, vp_cell_i, arrV_store]
  congr 2
  funext q
  by_cases hq : q = i.toNatClampNeg
  · subst hq; simp [updV, xwI, xup, vp_nar]; try rfl
  · simp [updV, xwI, xup, hq]
theorem ev_last {o len : Nat} {i : Int32} {x : Int64} (hk : xkd o = (2, len)) (ho : o < n) (hin : vp_in i len) (hd : decode Y.2.1 pc = .ok (.lastore, 1)) (h : Ev E C Y (pc + 1) L st (xwJ σ o i.toNatClampNeg x) n ce sl) : Ev E C Y pc L (.long x :: .int i :: .ref (E.2.2.2 + o) :: st) σ n ce sl := by
  intro p e s m args below meth c H locs ls hC hR hS hl
  obtain ⟨hx, hb, hr, hml, hown, hts, -, -, hK, -⟩ := id hC
  have hP := xR_one hR ho
  rw [xent_l hk] at hP
  refine W.last hx hb (hP 0 _ rfl) ((hK.1.2 1 _ rfl).1 len (fun j => .long (σ.2.1 o j))) (fun q => by cases q) (by show ¬ (i < 0 ∨ (arrV _ _ _).slots.size ≤ _); rw [arrV_size]; exact hin) rfl rfl hd fun H1 e1 e2 e3 => ?_
  refine h p e s m args below meth c H1 _ ls hC (xR_set hR ho e2 e3 ?_ (fun a ha => xent_wJ ha)) (hS.put e2 e3 (Nat.le_add_right _ _)) hl
  rw [xent_l hk]
  show H1[E.2.2.2 + o]? = some (vp_cell _ _)
  rw [e1, vp_cell_l, vp_cell_l, arrV_store]
  congr 2
  funext q
  by_cases hq : q = i.toNatClampNeg
  · subst hq; simp [updV, xwJ, xup]
  · simp [updV, xwJ, xup, hq]
theorem ev_aast {o len x : Nat} {i : Int32} (hk : xkd o = (5, len)) (ho : o < n) (hkx : xkd x = (0, 2)) (hxn : x < n) (hin : vp_in i len) (hcl : xCl 2) (hd : decode Y.2.1 pc = .ok (.aastore, 1)) (h : Ev E C Y (pc + 1) L st (xwR σ o i.toNatClampNeg (some x)) n ce sl) : Ev E C Y pc L (.ref (E.2.2.2 + x) :: .int i :: .ref (E.2.2.2 + o) :: st) σ n ce sl := by
  intro p e s m args below meth c H locs ls hC hR hS hl
  obtain ⟨hx, hb, hr, hml, hown, hts, -, -, hK, -⟩ := id hC
  have hP := xR_one hR ho
  rw [xent_q hk] at hP
  have hPx := xR_one hR hxn
  rw [xent_obj hkx] at hPx
  have hlt : i.toNatClampNeg < len := Nat.not_le.mp fun q => hin (Or.inr q)
  have h0 : ¬ i < 0 := fun q => hin (Or.inl q)
  obtain ⟨r', hr', cellV, g1, g2, g3, -⟩ := hPx 0 _ rfl
  have hcls := (hK.1.1 2 _ hcl.1).2
  obtain ⟨kA, comp, k1, k2, k3, -⟩ := (hK.1.2 4 _ rfl).2
  have hcomp : comp = E.2.1.1 2 := Option.some.inj (k3.symm.trans hcls.1)
  subst hcomp
  obtain ⟨kC, hkC, -⟩ := hcls.2
  refine W.aast hx hb (hP 0 _ rfl) (fun q h => by cases h) (fun h => by cases h) k1 k2 rfl hkC ⟨h0, by show _ < (arrV _ _ _).slots.size; rw [arrV_size]; exact hlt⟩ g1 (fun q h => by rw [g3] at h; cases h) (by rw [g2]; exact hkC) (by rw [g2]; exact va_assign hcls) rfl rfl hd fun H1 e1 e2 e3 => ?_
  refine h p e s m args below meth c H1 _ ls hC (xR_set hR ho e2 e3 ?_ (fun a ha => xent_wR ha)) (hS.put e2 e3 (Nat.le_add_right _ _)) hl
  rw [xent_q hk]
  show H1[E.2.2.2 + o]? = some (vp_cell _ _)
  rw [e1, vp_cell_q, vp_cell_q, arrV_store]
  congr 2
  funext q
  by_cases hq : q = i.toNatClampNeg
  · subst hq; simp [updV, xwR, xup, va_rf]
  · simp [updV, xwR, xup, hq]
/-- the memory grows by a cell -/
theorem xR_push {τ : xM} {H H1 : Heap} (hR : xR E σ n H) (hz : H1.size = H.size + 1) (ho : ∀ q, q < H.size → H1[q]? = H[q]?) (hs : va_at E.2.1 xcls (E.2.2.2 + n, xent E τ n) H1) (he : ∀ a, a < n → xent E τ a = xent E σ a) : xR E τ (n + 1) H1 := by
  refine ⟨by rw [hz, hR.1]; rfl, fun a ha => ?_⟩
  by_cases h : a = n
  · rw [h]; exact hs
  · rw [he a (by omega)]
    exact (hR.2 a (by omega)).kept (ho _ (by show E.2.2.2 + a < _; rw [hR.1]; omega))
theorem xS_push {s : State} {H H1 : Heap} {locs : List Loc} (hS : va_S (xA E) s.heap H locs) (hz : H1.size = H.size + 1) (ho : ∀ q, q < H.size → H1[q]? = H[q]?) : va_S (xA E) s.heap H1 locs :=
  ⟨Nat.le_trans hS.1 (by omega), fun q h1 h2 => (ho q (Nat.lt_of_lt_of_le h1 hS.1)).trans (hS.2.1 q h1 h2), hS.2.2⟩
def xw0I (σ : xM) (o : Nat) : xM := (fun a j => if a = o then 0 else σ.1 a j, σ.2)
def xw0J (σ : xM) (o : Nat) : xM := (σ.1, fun a j => if a = o then 0 else σ.2.1 a j, σ.2.2)
def xw0R (σ : xM) (o : Nat) : xM := (σ.1, σ.2.1, fun a j => if a = o then none else σ.2.2 a j)
theorem ev_newI {N : Nat} {z : Int32} (hw : Cond.arrayClass .int ∈ xtb) (hk : xkd n = (1, N)) (hz0 : ¬ z < 0) (hN : z.toNatClampNeg = N) (hN2 : N ≤ 100000) (hce : ce + 1 ≤ C.1.cells) (hsl : sl + N ≤ C.1.slots) (hd : decode Y.2.1 pc = .ok (.newarray .int, 2)) (h : Ev E C Y (pc + 2) L (.ref (E.2.2.2 + n) :: st) (xw0I σ n) (n + 1) (ce + 1) (sl + N)) : Ev E C Y pc L (.int z :: st) σ n ce sl := by
  intro p e s m args below meth c H locs ls hC hR hS hl
  obtain ⟨hx, hb, hr, hml, hown, hts, -, -, hK, -⟩ := id hC
  refine va_newaK (atype := .int) hx hb (hts _ hw) rfl hd rfl hz0 hN (by show N * 4 ≤ _; omega) hce hsl hR.1 fun H1 cA e1 z1 o1 hAr hNm => ?_
  have hcA : cA = E.2.2.1 0 := Option.some.inj (hNm.symm.trans (hK.1.2 0 _ rfl).2)
  rw [← hR.1] at z1 o1
  refine h p e s m args below meth c H1 locs ls hC (xR_push hR z1 o1 ?_ (fun a ha => xent_congr (by funext j; simp [xw0I, Nat.ne_of_lt ha]) rfl rfl)) (xS_push hS z1 o1) hl
  rw [xent_i hk]
  show H1[E.2.2.2 + n]? = some (vp_cell _ _)
  rw [e1, vp_cell_i, hcA]
  simp [xw0I, defaultValue, newarray.typeOf]
theorem ev_newJ {N : Nat} {z : Int32} (hw : Cond.arrayClass .long ∈ xtb) (hk : xkd n = (2, N)) (hz0 : ¬ z < 0) (hN : z.toNatClampNeg = N) (hN2 : N ≤ 100000) (hce : ce + 1 ≤ C.1.cells) (hsl : sl + N ≤ C.1.slots) (hd : decode Y.2.1 pc = .ok (.newarray .long, 2)) (h : Ev E C Y (pc + 2) L (.ref (E.2.2.2 + n) :: st) (xw0J σ n) (n + 1) (ce + 1) (sl + N)) : Ev E C Y pc L (.int z :: st) σ n ce sl := by
  intro p e s m args below meth c H locs ls hC hR hS hl
  obtain ⟨hx, hb, hr, hml, hown, hts, -, -, hK, -⟩ := id hC
  refine va_newaK (atype := .long) hx hb (hts _ hw) rfl hd rfl hz0 hN (by show N * 8 ≤ _; omega) hce hsl hR.1 fun H1 cA e1 z1 o1 hAr hNm => ?_
  have hcA : cA = E.2.2.1 1 := Option.some.inj (hNm.symm.trans (hK.1.2 1 _ rfl).2)
  rw [← hR.1] at z1 o1
  refine h p e s m args below meth c H1 locs ls hC (xR_push hR z1 o1 ?_ (fun a ha => xent_congr rfl (by funext j; simp [xw0J, Nat.ne_of_lt ha]) rfl)) (xS_push hS z1 o1) hl
  rw [xent_l hk]
  show H1[E.2.2.2 + n]? = some (vp_cell _ _)
  rw [e1, vp_cell_l, hcA]
  simp [xw0J, defaultValue, newarray.typeOf]
theorem ev_newB {N : Nat} {z : Int32} (hw : Cond.arrayClass .byte ∈ xtb) (hk : xkd n = (3, N)) (hz0 : ¬ z < 0) (hN : z.toNatClampNeg = N) (hN2 : N ≤ 100000) (hce : ce + 1 ≤ C.1.cells) (hsl : sl + N ≤ C.1.slots) (hd : decode Y.2.1 pc = .ok (.newarray .byte, 2)) (h : Ev E C Y (pc + 2) L (.ref (E.2.2.2 + n) :: st) (xw0I σ n) (n + 1) (ce + 1) (sl + N)) : Ev E C Y pc L (.int z :: st) σ n ce sl := by
  intro p e s m args below meth c H locs ls hC hR hS hl
  obtain ⟨hx, hb, hr, hml, hown, hts, -, -, hK, -⟩ := id hC
  refine va_newaK (atype := .byte) hx hb (hts _ hw) rfl hd rfl hz0 hN (by show N * 1 ≤ _; omega) hce hsl hR.1 fun H1 cA e1 z1 o1 hAr hNm => ?_
  have hcA : cA = E.2.2.1 2 := Option.some.inj (hNm.symm.trans (hK.1.2 2 _ rfl).2)
  rw [← hR.1] at z1 o1
  refine h p e s m args below meth c H1 locs ls hC (xR_push hR z1 o1 ?_ (fun a ha => xent_congr (by funext j; simp [xw0I, Nat.ne_of_lt ha]) rfl rfl)) (xS_push hS z1 o1) hl
  rw [xent_b hk]
  show H1[E.2.2.2 + n]? = some (vp_cell _ _)
  rw [e1, vp_cell_i, hcA]
  simp [xw0I, defaultValue, newarray.typeOf]
theorem ev_newZ {N : Nat} {z : Int32} (hw : Cond.arrayClass .boolean ∈ xtb) (hk : xkd n = (4, N)) (hz0 : ¬ z < 0) (hN : z.toNatClampNeg = N) (hN2 : N ≤ 100000) (hce : ce + 1 ≤ C.1.cells) (hsl : sl + N ≤ C.1.slots) (hd : decode Y.2.1 pc = .ok (.newarray .boolean, 2)) (h : Ev E C Y (pc + 2) L (.ref (E.2.2.2 + n) :: st) (xw0I σ n) (n + 1) (ce + 1) (sl + N)) : Ev E C Y pc L (.int z :: st) σ n ce sl := by
  intro p e s m args below meth c H locs ls hC hR hS hl
  obtain ⟨hx, hb, hr, hml, hown, hts, -, -, hK, -⟩ := id hC
  refine va_newaK (atype := .boolean) hx hb (hts _ hw) rfl hd rfl hz0 hN (by show N * 1 ≤ _; omega) hce hsl hR.1 fun H1 cA e1 z1 o1 hAr hNm => ?_
  have hcA : cA = E.2.2.1 3 := Option.some.inj (hNm.symm.trans (hK.1.2 3 _ rfl).2)
  rw [← hR.1] at z1 o1
  refine h p e s m args below meth c H1 locs ls hC (xR_push hR z1 o1 ?_ (fun a ha => xent_congr (by funext j; simp [xw0I, Nat.ne_of_lt ha]) rfl rfl)) (xS_push hS z1 o1) hl
  rw [xent_z hk]
  show H1[E.2.2.2 + n]? = some (vp_cell _ _)
  rw [e1, vp_cell_i, hcA]
  simp [xw0I, defaultValue, newarray.typeOf]
theorem ev_newQ {N ix : Nat} {z : Int32} (hw : Cond.classLink Y.1.cls ix RX2 ∈ xtb) (hk : xkd n = (5, N)) (hz0 : ¬ z < 0) (hN : z.toNatClampNeg = N) (hN2 : N ≤ 100000) (hce : ce + 1 ≤ C.1.cells) (hsl : sl + N ≤ C.1.slots) (hd : decode Y.2.1 pc = .ok (.anewarray ix, 3)) (h : Ev E C Y (pc + 3) L (.ref (E.2.2.2 + n) :: st) (xw0R σ n) (n + 1) (ce + 1) (sl + N)) : Ev E C Y pc L (.int z :: st) σ n ce sl := by
  intro p e s m args below meth c H locs ls hC hR hS hl
  obtain ⟨hx, hb, hr, hml, hown, hts, -, -, hK, -⟩ := id hC
  subst hN
  refine W.anew hx hb hown (hts _ hw) (va_AO.use hK.2.2) rfl hd rfl hz0 (by omega) hce hsl fun cA kA comp f1 f2 f3 f4 => ?_
  generalize hH1 : H.push ({ cls := cA, slots := Array.replicate z.toNatClampNeg .null, vm := .none } : Cell) = H1
  have z1 : H1.size = H.size + 1 := by rw [← hH1, Array.size_push]
  have e1 : H1[H.size]? = some (arrV cA z.toNatClampNeg (fun _ => .null)) := by rw [← hH1, Array.getElem?_push_size, ← arrV_new]
  have o1 : ∀ q : Nat, q < H.size → H1[q]? = H[q]? := fun q hq => by rw [← hH1, Array.getElem?_push, if_neg (Nat.ne_of_lt hq)]
  obtain ⟨kA', comp', g1, g2, g3, g4⟩ := (hK.1.2 4 _ rfl).2
  have hcA : cA = E.2.2.1 4 := Option.some.inj (f1.symm.trans g4)
  rw [hR.1] at e1 ⊢
  refine h p e s m args below meth c H1 locs ls hC (xR_push hR z1 o1 ?_ (fun a ha => xent_congr rfl rfl (by funext j; simp [xw0R, Nat.ne_of_lt ha]))) (xS_push hS z1 o1) hl
  rw [xent_q hk]
  show H1[E.2.2.2 + n]? = some (vp_cell _ _)
  rw [e1, vp_cell_q, hcA]
  simp [xw0R, va_rf]
def xw0 (σ : xM) (o : Nat) : xM := (fun a j => if a = o then 0 else σ.1 a j, fun a j => if a = o then 0 else σ.2.1 a j, fun a j => if a = o then none else σ.2.2 a j)
theorem ev_new {ix ci N : Nat} (hc : xCl ci) (hNN : xN ci = N) (hdef : ∀ j, j < xN ci → defaultValue (xft ci j) = xfv E.2.2.2 (xw0 σ n) (xft ci j) n j) (hw : Cond.classLink Y.1.cls ix (xCn ci) ∈ xtb) (hw2 : Cond.instantiable (xCn ci) (xN ci) ∈ xtb) (hw3 : Cond.initialized (xCn ci) ∈ xtb) (hk : xkd n = (0, ci)) (hce : ce + 1 ≤ C.1.cells) (hsl : sl + N ≤ C.1.slots) (hd : decode Y.2.1 pc = .ok (.new ix, 3)) (h : Ev E C Y (pc + 3) L (.ref (E.2.2.2 + n) :: st) (xw0 σ n) (n + 1) (ce + 1) (sl + N)) : Ev E C Y pc L st σ n ce sl := by
  intro p e s m args below meth c H locs ls hC hR hS hl
  obtain ⟨hx, hb, hr, hml, hown, hts, -, -, hK, -⟩ := id hC
  subst hNN
  have hKn := hK.1.1 ci _ hc.1
  refine W.newcK hx hb hown (hts _ hw) (hts _ hw2) (hts _ hw3) rfl hd hce hsl hKn.2.1 hR.1 fun H1 kC hkC e1 z1 o1 => ?_
  rw [← hR.1] at z1 o1
  refine h p e s m args below meth c H1 locs ls hC (xR_push hR z1 o1 ?_ (fun a ha => xent_congr (by funext j; simp [xw0, Nat.ne_of_lt ha]) (by funext j; simp [xw0, Nat.ne_of_lt ha]) (by funext j; simp [xw0, Nat.ne_of_lt ha]))) (xS_push hS z1 o1) hl
  rw [xent_obj hk]
  exact ⟨_, hc.1, (u_born (xft ci) hts hc.2.1 hKn hkC e1 hc.2.2.1).to (fun j hj => by rw [hdef j hj]; simp [vp_V, hj])⟩
end EVA
