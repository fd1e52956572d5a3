section EVC
variable {E : xE} {C : xC} {Y : xY} {pc : Nat} {L : List (Nat × Value)} {st : List Value} {σ : xM} {n ce sl : Nat}
theorem xtb_good : ∀ w ∈ xtb, (w.onTables && w.keeps) = true ∨ ∃ ty, w = .arrayClass ty := fun _ h => good_of_word (List.mem_filter.mp h).2
theorem xPc_blind {av : List Value} : FrameBlind (xPc E σ n av) := by
  intro a U g mk h
  obtain ⟨h1, h2, h3, h4, h5⟩ := h
  exact ⟨h1, h2, va_K.moved (u := U) (U := U.calling g mk a) (Vm.Alike.refl U.vm) h3, xnw_vm (s := U) (U := U.calling g mk a) rfl h4, va_AO.moved (u := U) (U := U.calling g mk a) (Vm.Alike.refl U.vm) h5⟩
/-- what a method's name, code and descriptor need -/
def xMy (Y' : xY) (np : Nat) : Prop := Cond.code Y'.1 Y'.2.1 Y'.2.2.1 Y'.2.2.2 ∈ xtb ∧ Cond.initialized Y'.1.cls ∈ xtb ∧ (Y'.1.cls ≠ "java/lang/invoke/MethodHandle" ∧ Y'.1.cls ≠ "java/lang/invoke/VarHandle") ∧ (parseMethodDescriptor Y'.1.desc).map (fun d => d.parameters.length) = some np
theorem xws_warm {s : State} {args : Array Value} {Y' : xY} {np : Nat} (hts : ∀ w ∈ xtb, w.before args s = true) (hY : xMy Y' np) : ∀ w ∈ xws Y', ∀ (a' : Array Value) (U : State), s.WarmedH U.vm → w.before a' U = true := by
  intro w hw a' U hW
  rcases List.mem_cons.mp hw with rfl | hw
  · exact word_at hW (xtb_good _ hY.1) (hts _ hY.1)
  · exact word_at hW (xtb_good _ hw) (hts _ hw)
theorem xarity {Y' : xY} {np : Nat} (hY : xMy Y' np) : ∀ sig, parseMethodDescriptor Y'.1.desc = some sig → np = sig.parameters.length := by
  intro sig h
  have h2 := hY.2.2.2
  rw [h] at h2
  exact (Option.some.inj h2).symm
theorem xCont {QQ : xP} {mc ms : Nat} {av : List Value} {rest : List Value} {p : Program} {e : Env} {s : State} {m : MethodId} {args : Array Value} {below : List Frame} {meth : Method} {c : Code} {H : Heap} {locs : List Loc} {ls : Array Slot}
    (hr : va_Run p E.1 e C.1 s m args below meth c H locs ce sl mc ms (F0 m pc ls st) rest (xQc E QQ av.toArray) (xA E)) (hC : xCx E C Y p s m args meth c) (hS : va_S (xA E) s.heap H locs) (hl : lv_has ls Y.2.2.1 L)
    (h : ∀ (v : Option Value) (τ : xM) (n' : Nat), QQ v τ n' → Ev E C Y (pc + 3) L (v.toList ++ rest) τ n' (ce + mc) (sl + ms)) : W p E.1 e C.1 s m args below meth c H locs ce sl (C.2.1 below args s) (F0 m pc ls st) := by
  intro T hT X
  obtain ⟨v, st₀, t, T', L1, h0, X', hL, e1, e2, ⟨⟨v', τ, n', hv, hq, hR⟩, hz, hk⟩, hst⟩ := hr T hT X
  cases hv
  rw [h0] at hz hk
  obtain ⟨t2, a1, b1⟩ := h v τ n' hq p e s m args below meth c t.heap (locs ++ L1) ls hC hR ⟨Nat.le_trans hS.1 hz, fun q h1 h2 => by rw [hk q (Nat.lt_of_lt_of_le h1 hS.1) h2]; exact hS.2.1 q h1 h2, fun q hq => by
      rcases List.mem_append.mp hq with h | h
      · exact hS.2.2 q h
      · exact hL q h⟩ hl T' e1 X'
  exact ⟨t2, hst t2 a1, b1⟩
theorem ev_callV {Y' : xY} {QQ : xP} {d mc ms ix ci o : Nat} {As rest : List Value} (np : Nat) (hM : xCon E d Y' mc ms (.ref (E.2.2.2 + o) :: As) σ n QQ) (hY : xMy Y' np) (hw : Cond.methodLink Y.1.cls ix Y'.1 ∈ xtb ∧ Cond.instanceMethod Y'.1 ∈ xtb ∧ Cond.selects (xCn ci) Y'.1 Y'.1 ∈ xtb) (hc : xCl ci) (hk : xkd o = (0, ci)) (ho : o < n)
    (hn : As.length = np) (hst : st = As.reverse ++ .ref (E.2.2.2 + o) :: rest) (hcat : (rest.map fun v => v.category).sum ≤ 8) (hfr : d + 1 ≤ C.1.frames) (hlo : Y'.2.2.1 + 19 + 80 * d ≤ C.1.locals) (hce : ce + mc ≤ C.1.cells) (hsl : sl + ms ≤ C.1.slots)
    (hd : decode Y.2.1 pc = .ok (.invokevirtual ix, 3)) (h : ∀ (v : Option Value) (τ : xM) (n' : Nat), QQ v τ n' → Ev E C Y (pc + 3) L (v.toList ++ rest) τ n' (ce + mc) (sl + ms)) : Ev E C Y pc L st σ n ce sl := by
  intro p e s m args below meth c H locs ls hC hR hS hl
  obtain ⟨hx, hb, hr, hml, hown, hts, -, -, hK, -⟩ := id hC
  have hP := xR_one hR ho
  rw [xent_obj hk] at hP
  refine xCont (va_runV (Ts := xtb) (own := Y.1.cls) (C := xCn ci) (As := As) (rest := rest) (b := E.2.2.2 + o) ⟨hx, hb, hml, hown, hts⟩ hM ⟨⟨rfl, rfl, hfr, ?_, xws_warm hts hY, List.mem_cons_self, hts _ hY.1, hts _ hY.2.1, hY.2.2.1, xarity hY, hts _ hw.1⟩, hts _ hw.2.1, hts _ hw.2.2⟩ ⟨xPc_blind, va_recv hK.1 hP hc.1 (q0 := 0) rfl, fun U hU hW => ⟨rfl, by rw [hU]; exact hR, xK_warm hW hK⟩⟩ rfl hn hl.1 hst (lv_room hcat) hd ⟨hce, hsl⟩) hC hS hl h
  show 8 + (Y'.2.2.1 + 11) + 80 * d ≤ _
  omega
theorem ev_callVN {Y' : xY} {QQ : xP} {d mc ms ix ci o : Nat} {As rest : List Value} (np : Nat) (hM : xCon E d Y' mc ms (.ref (E.2.2.2 + o) :: As) σ n QQ) (hY : xMy Y' np) (hw : (∃ host, (Y.1.cls, ix, Y'.1, host) ∈ xnm) ∧ Cond.instanceMethod Y'.1 ∈ xtb ∧ Cond.selects (xCn ci) Y'.1 Y'.1 ∈ xtb) (hc : xCl ci) (hk : xkd o = (0, ci)) (ho : o < n)
    (hn : As.length = np) (hst : st = As.reverse ++ .ref (E.2.2.2 + o) :: rest) (hcat : (rest.map fun v => v.category).sum ≤ 8) (hfr : d + 1 ≤ C.1.frames) (hlo : Y'.2.2.1 + 19 + 80 * d ≤ C.1.locals) (hce : ce + mc ≤ C.1.cells) (hsl : sl + ms ≤ C.1.slots)
    (hd : decode Y.2.1 pc = .ok (.invokevirtual ix, 3)) (h : ∀ (v : Option Value) (τ : xM) (n' : Nat), QQ v τ n' → Ev E C Y (pc + 3) L (v.toList ++ rest) τ n' (ce + mc) (sl + ms)) : Ev E C Y pc L st σ n ce sl := by
  intro p e s m args below meth c H locs ls hC hR hS hl
  obtain ⟨hx, hb, hr, hml, hown, hts, -, -, hK, -⟩ := id hC
  have hP := xR_one hR ho
  rw [xent_obj hk] at hP
  obtain ⟨⟨host, hmem⟩, hw2⟩ := hw
  refine xCont (va_runVN (Ts := xtb) (own := Y.1.cls) (C := xCn ci) (host := host) (As := As) (rest := rest) (b := E.2.2.2 + o) ⟨hx, hb, hml, hown, hts⟩ hM ⟨⟨⟨rfl, rfl, hfr, ?_, xws_warm hts hY, List.mem_cons_self⟩, hts _ hY.1, hts _ hY.2.1, hY.2.2.1, xarity hY, va_Nw.use rfl (hK.2.1.2 _ hmem)⟩, hts _ hw2.1, hts _ hw2.2⟩ ⟨xPc_blind, va_recv hK.1 hP hc.1 (q0 := 0) rfl, fun U hU hW => ⟨rfl, by rw [hU]; exact hR, xK_warm hW hK⟩⟩ rfl hn hl.1 hst (lv_room hcat) hd ⟨hce, hsl⟩) hC hS hl h
  show 8 + (Y'.2.2.1 + 11) + 80 * d ≤ _
  omega
theorem ev_callS {Y' : xY} {QQ : xP} {d mc ms ix : Nat} {As rest : List Value} (np : Nat) (hM : xCon E d Y' mc ms As σ n QQ) (hY : xMy Y' np) (hw : Cond.methodLink Y.1.cls ix Y'.1 ∈ xtb ∧ Cond.static Y'.1 ∈ xtb)
    (hn : As.length = np) (hst : st = As.reverse ++ rest) (hcat : (rest.map fun v => v.category).sum ≤ 8) (hfr : d + 1 ≤ C.1.frames) (hlo : Y'.2.2.1 + 19 + 80 * d ≤ C.1.locals) (hce : ce + mc ≤ C.1.cells) (hsl : sl + ms ≤ C.1.slots)
    (hd : decode Y.2.1 pc = .ok (.invokestatic ix, 3)) (h : ∀ (v : Option Value) (τ : xM) (n' : Nat), QQ v τ n' → Ev E C Y (pc + 3) L (v.toList ++ rest) τ n' (ce + mc) (sl + ms)) : Ev E C Y pc L st σ n ce sl := by
  intro p e s m args below meth c H locs ls hC hR hS hl
  obtain ⟨hx, hb, hr, hml, hown, hts, -, -, hK, -⟩ := id hC
  refine xCont (va_runS (Ts := xtb) (own := Y.1.cls) (As := As) (rest := rest) ⟨hx, hb, hml, hown, hts⟩ hM ⟨⟨rfl, rfl, hfr, ?_, xws_warm hts hY, List.mem_cons_self, hts _ hY.1, hts _ hY.2.1, hY.2.2.1, xarity hY, hts _ hw.1⟩, hts _ hw.2⟩ ⟨xPc_blind, fun U hU hW => ⟨rfl, by rw [hU]; exact hR, xK_warm hW hK⟩⟩ rfl hn hl.1 hst (lv_room hcat) hd ⟨hce, hsl⟩) hC hS hl h
  show 8 + (Y'.2.2.1 + 11) + 80 * d ≤ _
  omega
theorem ev_callSN {Y' : xY} {QQ : xP} {d mc ms ix : Nat} {As rest : List Value} (np : Nat) (hM : xCon E d Y' mc ms As σ n QQ) (hY : xMy Y' np) (hw : (∃ host, (Y.1.cls, ix, Y'.1, host) ∈ xnm) ∧ Cond.static Y'.1 ∈ xtb)
    (hn : As.length = np) (hst : st = As.reverse ++ rest) (hcat : (rest.map fun v => v.category).sum ≤ 8) (hfr : d + 1 ≤ C.1.frames) (hlo : Y'.2.2.1 + 19 + 80 * d ≤ C.1.locals) (hce : ce + mc ≤ C.1.cells) (hsl : sl + ms ≤ C.1.slots)
    (hd : decode Y.2.1 pc = .ok (.invokestatic ix, 3)) (h : ∀ (v : Option Value) (τ : xM) (n' : Nat), QQ v τ n' → Ev E C Y (pc + 3) L (v.toList ++ rest) τ n' (ce + mc) (sl + ms)) : Ev E C Y pc L st σ n ce sl := by
  intro p e s m args below meth c H locs ls hC hR hS hl
  obtain ⟨hx, hb, hr, hml, hown, hts, -, -, hK, -⟩ := id hC
  obtain ⟨⟨host, hmem⟩, hw2⟩ := hw
  refine xCont (va_runSN (Ts := xtb) (own := Y.1.cls) (host := host) (As := As) (rest := rest) ⟨hx, hb, hml, hown, hts⟩ hM ⟨⟨⟨rfl, rfl, hfr, ?_, xws_warm hts hY, List.mem_cons_self⟩, hts _ hY.1, hts _ hY.2.1, hY.2.2.1, xarity hY, va_Nw.use rfl (hK.2.1.2 _ hmem)⟩, hts _ hw2, trivial⟩ ⟨xPc_blind, fun U hU hW => ⟨rfl, by rw [hU]; exact hR, xK_warm hW hK⟩⟩ rfl hn hl.1 hst (lv_room hcat) hd ⟨hce, hsl⟩) hC hS hl h
  show 8 + (Y'.2.2.1 + 11) + 80 * d ≤ _
  omega
theorem ev_callI {Y' : xY} {QQ : xP} {d mc ms ix : Nat} {b : Nat} {As rest : List Value} (np : Nat) (hret : Y'.2.2.2 = none) (hM : xCon E d Y' mc ms (.ref b :: As) σ n QQ) (hY : xMy Y' np) (hw : Cond.methodLink Y.1.cls ix Y'.1 ∈ xtb ∧ Y'.1.name = "<init>" ∧ Cond.instanceMethod Y'.1 ∈ xtb)
    (hn : As.length = np) (hst : st = As.reverse ++ .ref b :: rest) (hcat : (rest.map fun v => v.category).sum ≤ 8) (hfr : d + 1 ≤ C.1.frames) (hlo : Y'.2.2.1 + 19 + 80 * d ≤ C.1.locals) (hce : ce + mc ≤ C.1.cells) (hsl : sl + ms ≤ C.1.slots)
    (hd : decode Y.2.1 pc = .ok (.invokespecial ix, 3)) (h : ∀ (v : Option Value) (τ : xM) (n' : Nat), QQ v τ n' → Ev E C Y (pc + 3) L (v.toList ++ rest) τ n' (ce + mc) (sl + ms)) : Ev E C Y pc L st σ n ce sl := by
  intro p e s m args below meth c H locs ls hC hR hS hl
  obtain ⟨hx, hb, hr, hml, hown, hts, -, -, hK, -⟩ := id hC
  obtain ⟨y1, y2, y3, y4⟩ := Y'
  subst hret
  refine xCont (va_runI (Ts := xtb) (own := Y.1.cls) (As := As) (rest := rest) (b := b) ⟨hx, hb, hml, hown, hts⟩ hM ⟨⟨rfl, rfl, hfr, ?_, xws_warm hts hY, List.mem_cons_self, hts _ hY.1, hts _ hY.2.1, hY.2.2.1, xarity hY, hts _ hw.1⟩, hw.2.1, hts _ hw.2.2⟩ ⟨xPc_blind, fun U hU hW => ⟨rfl, by rw [hU]; exact hR, xK_warm hW hK⟩⟩ rfl hn hl.1 hst (lv_room hcat) hd ⟨hce, hsl⟩) hC hS hl h
  show 8 + (y3 + 11) + 80 * d ≤ _
  have := hlo
  dsimp only at this
  omega
theorem ev_callIN {Y' : xY} {QQ : xP} {d mc ms ix : Nat} {b : Nat} {As rest : List Value} (np : Nat) (hret : Y'.2.2.2 = none) (hM : xCon E d Y' mc ms (.ref b :: As) σ n QQ) (hY : xMy Y' np) (hw : (∃ host, (Y.1.cls, ix, Y'.1, host) ∈ xnm) ∧ Y'.1.name = "<init>" ∧ Cond.instanceMethod Y'.1 ∈ xtb)
    (hn : As.length = np) (hst : st = As.reverse ++ .ref b :: rest) (hcat : (rest.map fun v => v.category).sum ≤ 8) (hfr : d + 1 ≤ C.1.frames) (hlo : Y'.2.2.1 + 19 + 80 * d ≤ C.1.locals) (hce : ce + mc ≤ C.1.cells) (hsl : sl + ms ≤ C.1.slots)
    (hd : decode Y.2.1 pc = .ok (.invokespecial ix, 3)) (h : ∀ (v : Option Value) (τ : xM) (n' : Nat), QQ v τ n' → Ev E C Y (pc + 3) L (v.toList ++ rest) τ n' (ce + mc) (sl + ms)) : Ev E C Y pc L st σ n ce sl := by
  intro p e s m args below meth c H locs ls hC hR hS hl
  obtain ⟨hx, hb, hr, hml, hown, hts, -, -, hK, -⟩ := id hC
  obtain ⟨y1, y2, y3, y4⟩ := Y'
  subst hret
  obtain ⟨⟨host, hmem⟩, hw2⟩ := hw
  refine xCont (va_runIN (Ts := xtb) (own := Y.1.cls) (host := host) (As := As) (rest := rest) (b := b) ⟨hx, hb, hml, hown, hts⟩ hM ⟨⟨⟨rfl, rfl, hfr, ?_, xws_warm hts hY, List.mem_cons_self⟩, hts _ hY.1, hts _ hY.2.1, hY.2.2.1, xarity hY, va_Nw.use rfl (hK.2.1.2 _ hmem)⟩, hw2.1, hts _ hw2.2⟩ ⟨xPc_blind, fun U hU hW => ⟨rfl, by rw [hU]; exact hR, xK_warm hW hK⟩⟩ rfl hn hl.1 hst (lv_room hcat) hd ⟨hce, hsl⟩) hC hS hl h
  show 8 + (y3 + 11) + 80 * d ≤ _
  have := hlo
  dsimp only at this
  omega
/-- Object's own constructor -/
theorem ev_objInit {ix b : Nat} {rest : List Value} (hw : Cond.methodLink Y.1.cls ix objectInit ∈ xtb ∧ Cond.instanceMethod objectInit ∈ xtb ∧ Cond.code objectInit ⟨#[0xb1]⟩ 1 none ∈ xtb) (hcat : (rest.map fun v => v.category).sum ≤ 8) (hfr : 1 ≤ C.1.frames) (hlo : 20 ≤ C.1.locals) (hd : decode Y.2.1 pc = .ok (.invokespecial ix, 3)) (h : Ev E C Y (pc + 3) L rest σ n ce sl) : Ev E C Y pc L (.ref b :: rest) σ n ce sl := by
  intro p e s m args below meth c H locs ls hC hR hS hl
  obtain ⟨hx, hb, hr, hml, hown, hts, -, -, hK, -⟩ := id hC
  have := lv_room (m := m) (pc := pc) (ls := ls) (rest := Value.ref b :: rest) hcat
  exact W.objInit hx hb hown (hts _ hw.1) (hts _ hw.2.1) (hts _ hw.2.2) rfl (by rw [hml]; exact hl.1) rfl hd hfr (by omega) (h p e s m args below meth c H locs ls hC hR hS hl)
/-- the counters may be taken larger -/
theorem ev_widen {ce' sl' : Nat} (h1 : ce ≤ ce') (h2 : sl ≤ sl') (h : Ev E C Y pc L st σ n ce' sl') : Ev E C Y pc L st σ n ce sl :=
  fun p e s m args below meth c H locs ls hC hR hS hl => W.widen h1 h2 (h p e s m args below meth c H locs ls hC hR hS hl)
end EVC
section EVR
variable {E : xE} {Y : xY} {pc : Nat} {L : List (Nat × Value)} {σ : xM} {n ce sl d mc ms : Nat} {QQ : xP}
theorem xRet {v : Option Value} {st : State} {args : Array Value} {H : Heap} {locs : List Loc} (hq : QQ v σ n) (hR : xR E σ n H) (hS : va_S (xA E) st.heap H locs) : ∀ t : State, t.heap = H → st.WarmedH t.vm → xQc E QQ args st (.returned v) t := by
  intro t ht _
  exact ⟨⟨v, σ, n, rfl, hq, by rw [ht]; exact hR⟩, hS.F ht⟩
theorem ev_iret {v : Int32} (hrt : Y.2.2.2 = some .int) (hq : QQ (some (.int v)) σ n) (hd : decode Y.2.1 pc = .ok (.ireturn, 1)) (hce : ce ≤ mc) (hsl : sl ≤ ms) : Ev E (xcm E d mc ms QQ) Y pc L [.int v] σ n ce sl := by
  intro p e s m args below meth c H locs ls hC hR hS hl
  obtain ⟨hx, hb, hr, hml, hown, hts, hlk, -⟩ := id hC
  exact W.widen hce hsl (W.iret hx hb (hr.trans hrt) (xRet hq hR hS) hS.2.2 hd hlk)
theorem ev_zret {v : Int32} (hrt : Y.2.2.2 = some .boolean) (hv : v = 0 ∨ v = 1) (hq : QQ (some (.int v)) σ n) (hd : decode Y.2.1 pc = .ok (.ireturn, 1)) (hce : ce ≤ mc) (hsl : sl ≤ ms) : Ev E (xcm E d mc ms QQ) Y pc L [.int v] σ n ce sl := by
  intro p e s m args below meth c H locs ls hC hR hS hl
  obtain ⟨hx, hb, hr, hml, hown, hts, hlk, -⟩ := id hC
  exact W.widen hce hsl (W.zret (ty := .boolean) hx hb (hr.trans hrt) (by rcases hv with rfl | rfl <;> rfl) (xRet hq hR hS) hS.2.2 hd hlk)
theorem ev_lret {v : Int64} (hrt : Y.2.2.2 = some .long) (hq : QQ (some (.long v)) σ n) (hd : decode Y.2.1 pc = .ok (.lreturn, 1)) (hce : ce ≤ mc) (hsl : sl ≤ ms) : Ev E (xcm E d mc ms QQ) Y pc L [.long v] σ n ce sl := by
  intro p e s m args below meth c H locs ls hC hR hS hl
  obtain ⟨hx, hb, hr, hml, hown, hts, hlk, -⟩ := id hC
  exact W.widen hce hsl (W.lret hx hb (hr.trans hrt) (xRet hq hR hS) hS.2.2 hd hlk)
theorem ev_vret (hrt : Y.2.2.2 = none) (hq : QQ none σ n) (hd : decode Y.2.1 pc = .ok (.return_, 1)) (hce : ce ≤ mc) (hsl : sl ≤ ms) : Ev E (xcm E d mc ms QQ) Y pc L [] σ n ce sl := by
  intro p e s m args below meth c H locs ls hC hR hS hl
  obtain ⟨hx, hb, hr, hml, hown, hts, hlk, -⟩ := id hC
  exact W.widen hce hsl (W.vret hx hb (hr.trans hrt) (xRet hq hR hS) hS.2.2 hd hlk)
theorem ev_aret {v : Option Nat} {rt : FieldType} (hrt : Y.2.2.2 = some rt) (hob : (∃ nm, rt = .object nm) ∨ ∃ t, rt = .array t) (hq : QQ (some (xrf E.2.2.2 v)) σ n) (hd : decode Y.2.1 pc = .ok (.areturn, 1)) (hce : ce ≤ mc) (hsl : sl ≤ ms) : Ev E (xcm E d mc ms QQ) Y pc L [xrf E.2.2.2 v] σ n ce sl := by
  intro p e s m args below meth c H locs ls hC hR hS hl
  obtain ⟨hx, hb, hr, hml, hown, hts, hlk, -⟩ := id hC
  exact W.widen hce hsl (W.aret hx hb (hr.trans hrt) hob (va_rf_or _) (xRet hq hR hS) hS.2.2 hd hlk)
/-- a contract out of a walk from the method's entry -/
theorem xCon_of {av : List Value} {L0 : List (Nat × Value)} (hy : plainName Y.1.cls = true) (hlen : (lg_sl av).length ≤ Y.2.2.1) (hL : lv_args 0 av = L0) (h : Ev E (xcm E d mc ms QQ) Y 0 L0 [] σ n 0 0) : xCon E d Y mc ms av σ n QQ := by
  refine Met.ofW (cc := Y.2.1) (maxL := Y.2.2.1) (ret := Y.2.2.2) hy rfl ?_
  intro p e s m args below meth c s₁ B hml hv
  obtain ⟨rfl, hR, hK⟩ := hv
  have hl := lv_entry av hlen
  rw [hL] at hl
  rw [lg_entry_eq]
  have hts := atoms_spec (ws := xws Y) B.pre
  refine h p e s m _ below meth c s.heap [] _ ⟨B.exec, B.bytes, B.returns, hml, findClass_of_methodNamed B.named, fun w hw => hts w (List.mem_cons_of_mem _ hw), B.notSynchronized, (name_of_methodNamed B.named B.method).1, hK, by rw [hR.1]; exact Nat.le_add_right _ _, trivial⟩ hR va_S.rf hl
end EVR
