/-! The machine once more, over a memory of numbered cells: 'Ev' is W at a frame whose heap holds the memory σ of n cells behind the base; every instruction has one row. -/
abbrev xM : Type := (Nat → Nat → Int32) × (Nat → Nat → Int64) × (Nat → Nat → Option Nat)
def xup {α : Type} (f : Nat → Nat → α) (i k : Nat) (v : α) : Nat → Nat → α := fun a j => if a = i then (if j = k then v else f a j) else f a j
def xwI (σ : xM) (i k : Nat) (v : Int32) : xM := (xup σ.1 i k v, σ.2)
def xwJ (σ : xM) (i k : Nat) (v : Int64) : xM := (σ.1, xup σ.2.1 i k v, σ.2.2)
def xwR (σ : xM) (i k : Nat) (v : Option Nat) : xM := (σ.1, σ.2.1, xup σ.2.2 i k v)
abbrev xE : Type := Launch × va_G × (Nat → ClassId) × Nat
def xrf (z : Nat) (r : Option Nat) : Value := va_rf (r.map (fun a => z + a))
def xfv (z : Nat) (σ : xM) (ft : FieldType) (id k : Nat) : Value := match ft with
  | .long => .long (σ.2.1 id k)
  | .object _ => xrf z (σ.2.2 id k)
  | .array _ => xrf z (σ.2.2 id k)
  | _ => .int (σ.1 id k)
def xent (E : xE) (σ : xM) (id : Nat) : va_E := match xkd id with
  | (0, ci) => .inr (ci, (List.range (xN ci)).map (fun k => xfv E.2.2.2 σ (xft ci k) id k))
  | (2, n) => .inl (E.2.2.1 1, n, .inr (.inl (σ.2.1 id)))
  | (5, n) => .inl (E.2.2.1 4, n, .inr (.inr (.inr (.inr (fun k => (σ.2.2 id k).map (fun a => E.2.2.2 + a))))))
  | (t + 1, n) => .inl (E.2.2.1 t, n, .inl (σ.1 id))
def xR (E : xE) (σ : xM) (n : Nat) (H : Heap) : Prop := H.size = E.2.2.2 + n ∧ ∀ id, id < n → va_at E.2.1 xcls (E.2.2.2 + id, xent E σ id) H
def xty (E : xE) : List (ClassId × FieldType) := [(E.2.2.1 0, .int), (E.2.2.1 1, .long), (E.2.2.1 2, .byte), (E.2.2.1 3, .boolean), (E.2.2.1 4, .object RX2)]
def xA (E : xE) : Nat → Prop := fun q => E.2.2.2 ≤ q
def xtb : List Cond := lw_tbl.filter goodWord
def xnw (fl : List (String × Nat × String × String × String × String)) (ml : List (String × Nat × MethodName × String)) (U : State) : Prop :=
  (∀ q ∈ fl, va_Nw (.fieldLinkNest q.1 q.2.1 q.2.2.1 q.2.2.2.1 q.2.2.2.2.1 q.2.2.2.2.2) U) ∧ ∀ q ∈ ml, va_Nw (.methodLinkNest q.1 q.2.1 q.2.2.1 q.2.2.2) U
theorem xnw_warm {fl : List (String × Nat × String × String × String × String)} {ml : List (String × Nat × MethodName × String)} {s U : State} (hW : s.WarmedH U.vm) (h : xnw fl ml s) : xnw fl ml U := ⟨fun q hq => va_Nw.warmF hW (h.1 q hq), fun q hq => va_Nw.warmM hW (h.2 q hq)⟩
theorem xnw_vm {fl : List (String × Nat × String × String × String × String)} {ml : List (String × Nat × MethodName × String)} {s U : State} (hW : s.vm = U.vm) (h : xnw fl ml s) : xnw fl ml U := ⟨fun q hq => va_Nw.same rfl hW (h.1 q hq), fun q hq => va_Nw.same rfl hW (h.2 q hq)⟩
/-- what stands of the classes at a state -/
def xK (E : xE) (U : State) : Prop := va_K E.2.1 xcls (xty E) U ∧ xnw xnf xnm U ∧ va_AO RX2 U
theorem xK_warm {E : xE} {s U : State} (hW : s.WarmedH U.vm) (h : xK E s) : xK E U := ⟨va_K.moved hW.alike h.1, xnw_warm hW h.2.1, va_AO.moved hW.alike h.2.2⟩
abbrev xY : Type := MethodName × ByteArray × Nat × Option FieldType
def xws (Y : xY) : List Cond := .code Y.1 Y.2.1 Y.2.2.1 Y.2.2.2 :: xtb
def xrm (d mc ms : Nat) : Room := { frames := d, cells := mc, slots := ms, locals := 80 * d }
def xPc (E : xE) (σ : xM) (n : Nat) (av : List Value) : Array Value → State → Prop := va_Pc av (fun U => xR E σ n U.heap ∧ xK E U)
abbrev xP : Type := Option Value → xM → Nat → Prop
def xQc (E : xE) (QQ : xP) : Array Value → State → Outcome → State → Prop := fun _ st oc t => (∃ (v : Option Value) (σ : xM) (n : Nat), oc = .returned v ∧ QQ v σ n ∧ xR E σ n t.heap) ∧ va_F (xA E) st t
def xCon (E : xE) (d : Nat) (Y : xY) (mc ms : Nat) (av : List Value) (σ : xM) (n : Nat) (QQ : xP) : Prop :=
  Met E.1 Y.1 (xws Y) (xrm d mc ms) (xPc E σ n av) (xQc E QQ) mc ms (xA E)
abbrev xC : Type := Room × (List Frame → Array Value → State → State → Prop) × (Array Value → State → Prop)
def xcm (E : xE) (d mc ms : Nat) (QQ : xP) : xC := (xrm d mc ms, fun below args s => MQ below (xQc E QQ) args s mc ms (xA E), fun _ _ => True)
def xCx (E : xE) (C : xC) (Y : xY) (p : Program) (s : State) (m : MethodId) (args : Array Value) (meth : Method) (c : Code) : Prop :=
  p.tables.exec = Jvm.exec ∧ c.code = Y.2.1 ∧ meth.sig.returnType = Y.2.2.2 ∧ c.maxLocals = Y.2.2.1 ∧ s.vm.findClass Y.1.cls = some m.cls ∧ (∀ w ∈ xtb, w.before args s = true) ∧ meth.locks = false ∧ meth.name = Y.1.name ∧ xK E s ∧ E.2.2.2 ≤ s.heap.size ∧ C.2.2 args s
def Ev (E : xE) (C : xC) (Y : xY) (pc : Nat) (L : List (Nat × Value)) (st : List Value) (σ : xM) (n ce sl : Nat) : Prop :=
  ∀ (p : Program) (e : Env) (s : State) (m : MethodId) (args : Array Value) (below : List Frame) (meth : Method) (c : Code) (H : Heap) (locs : List Loc) (ls : Array Slot),
    xCx E C Y p s m args meth c → xR E σ n H → va_S (xA E) s.heap H locs → lv_has ls Y.2.2.1 L →
    W p E.1 e C.1 s m args below meth c H locs ce sl (C.2.1 below args s) (F0 m pc ls st)
section EV
variable {E : xE} {C : xC} {Y : xY} {pc : Nat} {L : List (Nat × Value)} {st : List Value} {σ : xM} {n ce sl : Nat}
theorem ev_iload {i : Nat} {x : Int32} (k : Nat) (hd : decode Y.2.1 pc = .ok (.iload i, 2)) (hk : L[k]? = some (i, .int x)) (h : Ev E C Y (pc + 2) L (.int x :: st) σ n ce sl) : Ev E C Y pc L st σ n ce sl := by
  intro p e s m args below meth c H locs ls hC hR hS hl
  obtain ⟨hx, hb, -⟩ := id hC
  exact lv_iload hx hb hd (lv_at hl k hk) (h p e s m args below meth c H locs ls hC hR hS hl)
theorem ev_iload_n {i : Nat} {f : Fin 4} {x : Int32} (k : Nat) (hd : decode Y.2.1 pc = .ok (.iload_n f, 1)) (hf : (f : Nat) = i) (hk : L[k]? = some (i, .int x)) (h : Ev E C Y (pc + 1) L (.int x :: st) σ n ce sl) : Ev E C Y pc L st σ n ce sl := by
  intro p e s m args below meth c H locs ls hC hR hS hl
  obtain ⟨hx, hb, -⟩ := id hC
  exact lv_iload_n hx hb hd hf (lv_at hl k hk) (h p e s m args below meth c H locs ls hC hR hS hl)
theorem ev_lload {i : Nat} {x : Int64} (k : Nat) (hd : decode Y.2.1 pc = .ok (.lload i, 2)) (hk : L[k]? = some (i, .long x)) (h : Ev E C Y (pc + 2) L (.long x :: st) σ n ce sl) : Ev E C Y pc L st σ n ce sl := by
  intro p e s m args below meth c H locs ls hC hR hS hl
  obtain ⟨hx, hb, -⟩ := id hC
  exact lv_lload hx hb hd (lv_at hl k hk) (h p e s m args below meth c H locs ls hC hR hS hl)
theorem ev_lload_n {i : Nat} {f : Fin 4} {x : Int64} (k : Nat) (hd : decode Y.2.1 pc = .ok (.lload_n f, 1)) (hf : (f : Nat) = i) (hk : L[k]? = some (i, .long x)) (h : Ev E C Y (pc + 1) L (.long x :: st) σ n ce sl) : Ev E C Y pc L st σ n ce sl := by
  intro p e s m args below meth c H locs ls hC hR hS hl
  obtain ⟨hx, hb, -⟩ := id hC
  exact lv_lload_n hx hb hd hf (lv_at hl k hk) (h p e s m args below meth c H locs ls hC hR hS hl)
theorem ev_aload {i : Nat} {x : Nat} (k : Nat) (hd : decode Y.2.1 pc = .ok (.aload i, 2)) (hk : L[k]? = some (i, .ref x)) (h : Ev E C Y (pc + 2) L (.ref x :: st) σ n ce sl) : Ev E C Y pc L st σ n ce sl := by
  intro p e s m args below meth c H locs ls hC hR hS hl
  obtain ⟨hx, hb, -⟩ := id hC
  exact lv_aload hx hb hd (lv_at hl k hk) (h p e s m args below meth c H locs ls hC hR hS hl)
theorem ev_aload_n {i : Nat} {f : Fin 4} {x : Nat} (k : Nat) (hd : decode Y.2.1 pc = .ok (.aload_n f, 1)) (hf : (f : Nat) = i) (hk : L[k]? = some (i, .ref x)) (h : Ev E C Y (pc + 1) L (.ref x :: st) σ n ce sl) : Ev E C Y pc L st σ n ce sl := by
  intro p e s m args below meth c H locs ls hC hR hS hl
  obtain ⟨hx, hb, -⟩ := id hC
  exact lv_aload_n hx hb hd hf (lv_at hl k hk) (h p e s m args below meth c H locs ls hC hR hS hl)
theorem ev_aloadN {i : Nat} (k : Nat) (hd : decode Y.2.1 pc = .ok (.aload i, 2)) (hk : L[k]? = some (i, .null)) (h : Ev E C Y (pc + 2) L (.null :: st) σ n ce sl) : Ev E C Y pc L st σ n ce sl := by
  intro p e s m args below meth c H locs ls hC hR hS hl
  obtain ⟨hx, hb, -⟩ := id hC
  exact lv_aloadN hx hb hd (lv_at hl k hk) (h p e s m args below meth c H locs ls hC hR hS hl)
theorem ev_aload_nN {i : Nat} {f : Fin 4} (k : Nat) (hd : decode Y.2.1 pc = .ok (.aload_n f, 1)) (hf : (f : Nat) = i) (hk : L[k]? = some (i, .null)) (h : Ev E C Y (pc + 1) L (.null :: st) σ n ce sl) : Ev E C Y pc L st σ n ce sl := by
  intro p e s m args below meth c H locs ls hC hR hS hl
  obtain ⟨hx, hb, -⟩ := id hC
  exact lv_aload_nN hx hb hd hf (lv_at hl k hk) (h p e s m args below meth c H locs ls hC hR hS hl)
theorem ev_istore {i : Nat} {x : Int32} {L' : List (Nat × Value)} (hd : decode Y.2.1 pc = .ok (.istore i, 2)) (hi : i < Y.2.2.1) (hL : (i, Value.int x) :: L.filter (fun q => !(q.1 == i) && !(q.1 + 1 == i && q.2.category == 2)) = L') (h : Ev E C Y (pc + 2) L' st σ n ce sl) : Ev E C Y pc L (.int x :: st) σ n ce sl := by
  intro p e s m args below meth c H locs ls hC hR hS hl
  obtain ⟨hx, hb, -⟩ := id hC
  exact lv_istore hx hb hd hl hi hL (fun ls' hl' => h p e s m args below meth c H locs ls' hC hR hS hl')
theorem ev_istore_n {i : Nat} {f : Fin 4} {x : Int32} {L' : List (Nat × Value)} (hd : decode Y.2.1 pc = .ok (.istore_n f, 1)) (hf : (f : Nat) = i) (hi : i < Y.2.2.1) (hL : (i, Value.int x) :: L.filter (fun q => !(q.1 == i) && !(q.1 + 1 == i && q.2.category == 2)) = L') (h : Ev E C Y (pc + 1) L' st σ n ce sl) : Ev E C Y pc L (.int x :: st) σ n ce sl := by
  intro p e s m args below meth c H locs ls hC hR hS hl
  obtain ⟨hx, hb, -⟩ := id hC
  exact lv_istore_n hx hb hd hf hl hi hL (fun ls' hl' => h p e s m args below meth c H locs ls' hC hR hS hl')
theorem ev_lstore {i : Nat} {x : Int64} {L' : List (Nat × Value)} (hd : decode Y.2.1 pc = .ok (.lstore i, 2)) (hi : i + 1 < Y.2.2.1) (hL : (i, Value.long x) :: L.filter (fun q => !(q.1 == i) && (!(q.1 == i + 1) && !(q.1 + 1 == i && q.2.category == 2))) = L') (h : Ev E C Y (pc + 2) L' st σ n ce sl) : Ev E C Y pc L (.long x :: st) σ n ce sl := by
  intro p e s m args below meth c H locs ls hC hR hS hl
  obtain ⟨hx, hb, -⟩ := id hC
  exact lv_lstore hx hb hd hl hi hL (fun ls' hl' => h p e s m args below meth c H locs ls' hC hR hS hl')
theorem ev_lstore_n {i : Nat} {f : Fin 4} {x : Int64} {L' : List (Nat × Value)} (hd : decode Y.2.1 pc = .ok (.lstore_n f, 1)) (hf : (f : Nat) = i) (hi : i + 1 < Y.2.2.1) (hL : (i, Value.long x) :: L.filter (fun q => !(q.1 == i) && (!(q.1 == i + 1) && !(q.1 + 1 == i && q.2.category == 2))) = L') (h : Ev E C Y (pc + 1) L' st σ n ce sl) : Ev E C Y pc L (.long x :: st) σ n ce sl := by
  intro p e s m args below meth c H locs ls hC hR hS hl
  obtain ⟨hx, hb, -⟩ := id hC
  exact lv_lstore_n hx hb hd hf hl hi hL (fun ls' hl' => h p e s m args below meth c H locs ls' hC hR hS hl')
theorem ev_astore {i x : Nat} {L' : List (Nat × Value)} (hd : decode Y.2.1 pc = .ok (.astore i, 2)) (hi : i < Y.2.2.1) (hL : (i, Value.ref x) :: L.filter (fun q => !(q.1 == i) && !(q.1 + 1 == i && q.2.category == 2)) = L') (h : Ev E C Y (pc + 2) L' st σ n ce sl) : Ev E C Y pc L (.ref x :: st) σ n ce sl := by
  intro p e s m args below meth c H locs ls hC hR hS hl
  obtain ⟨hx, hb, -⟩ := id hC
  exact lv_astore hx hb hd hl hi hL (fun ls' hl' => h p e s m args below meth c H locs ls' hC hR hS hl')
theorem ev_astore_n {i x : Nat} {f : Fin 4} {L' : List (Nat × Value)} (hd : decode Y.2.1 pc = .ok (.astore_n f, 1)) (hf : (f : Nat) = i) (hi : i < Y.2.2.1) (hL : (i, Value.ref x) :: L.filter (fun q => !(q.1 == i) && !(q.1 + 1 == i && q.2.category == 2)) = L') (h : Ev E C Y (pc + 1) L' st σ n ce sl) : Ev E C Y pc L (.ref x :: st) σ n ce sl := by
  intro p e s m args below meth c H locs ls hC hR hS hl
  obtain ⟨hx, hb, -⟩ := id hC
  exact lv_astore_n hx hb hd hf hl hi hL (fun ls' hl' => h p e s m args below meth c H locs ls' hC hR hS hl')
theorem ev_astoreN {i : Nat} {L' : List (Nat × Value)} (hd : decode Y.2.1 pc = .ok (.astore i, 2)) (hi : i < Y.2.2.1) (hL : (i, Value.null) :: L.filter (fun q => !(q.1 == i) && !(q.1 + 1 == i && q.2.category == 2)) = L') (h : Ev E C Y (pc + 2) L' st σ n ce sl) : Ev E C Y pc L (.null :: st) σ n ce sl := by
  intro p e s m args below meth c H locs ls hC hR hS hl
  obtain ⟨hx, hb, -⟩ := id hC
  exact lv_astoreN hx hb hd hl hi hL (fun ls' hl' => h p e s m args below meth c H locs ls' hC hR hS hl')
theorem ev_astore_nN {i : Nat} {f : Fin 4} {L' : List (Nat × Value)} (hd : decode Y.2.1 pc = .ok (.astore_n f, 1)) (hf : (f : Nat) = i) (hi : i < Y.2.2.1) (hL : (i, Value.null) :: L.filter (fun q => !(q.1 == i) && !(q.1 + 1 == i && q.2.category == 2)) = L') (h : Ev E C Y (pc + 1) L' st σ n ce sl) : Ev E C Y pc L (.null :: st) σ n ce sl := by
  intro p e s m args below meth c H locs ls hC hR hS hl
  obtain ⟨hx, hb, -⟩ := id hC
  exact lv_astore_nN hx hb hd hf hl hi hL (fun ls' hl' => h p e s m args below meth c H locs ls' hC hR hS hl')
theorem ev_iinc {i : Nat} {z : Int} {x v : Int32} {L' : List (Nat × Value)} (k : Nat) (hd : decode Y.2.1 pc = .ok (.iinc i z, 3)) (hk : L[k]? = some (i, .int x)) (hv : x + Int32.ofInt z = v) (hi : i < Y.2.2.1) (hL : (i, Value.int v) :: L.filter (fun q => !(q.1 == i) && !(q.1 + 1 == i && q.2.category == 2)) = L') (h : Ev E C Y (pc + 3) L' st σ n ce sl) : Ev E C Y pc L st σ n ce sl := by
  intro p e s m args below meth c H locs ls hC hR hS hl
  obtain ⟨hx, hb, -⟩ := id hC
  exact lv_iinc hx hb hd hl hk hv hi hL (fun ls' hl' => h p e s m args below meth c H locs ls' hC hR hS hl')
/-- the locals in another order, or fewer -/
theorem ev_sub {L' : List (Nat × Value)} (ks : List Nat) (hL : lv_pick L ks = L') (h : Ev E C Y pc L' st σ n ce sl) : Ev E C Y pc L st σ n ce sl :=
  fun p e s m args below meth c H locs ls hC hR hS hl => h p e s m args below meth c H locs ls hC hR hS (lv_sub hl ks hL)
theorem ev_iconst {z : Int} {v : Int32} (hd : decode Y.2.1 pc = .ok (.iconst z, 1)) (hv : Int32.ofInt z = v) (h : Ev E C Y (pc + 1) L (.int v :: st) σ n ce sl) : Ev E C Y pc L st σ n ce sl := by
  intro p e s m args below meth c H locs ls hC hR hS hl
  obtain ⟨hx, hb, -⟩ := id hC
  exact lv_iconst hx hb hd hv (h p e s m args below meth c H locs ls hC hR hS hl)
theorem ev_bipush {z : Int} {v : Int32} (hd : decode Y.2.1 pc = .ok (.bipush z, 2)) (hv : (Int8.ofInt z).toInt32 = v) (h : Ev E C Y (pc + 2) L (.int v :: st) σ n ce sl) : Ev E C Y pc L st σ n ce sl := by
  intro p e s m args below meth c H locs ls hC hR hS hl
  obtain ⟨hx, hb, -⟩ := id hC
  exact lv_bipush hx hb hd hv (h p e s m args below meth c H locs ls hC hR hS hl)
theorem ev_sipush {z : Int} {v : Int32} (hd : decode Y.2.1 pc = .ok (.sipush z, 3)) (hv : (Int16.ofInt z).toInt32 = v) (h : Ev E C Y (pc + 3) L (.int v :: st) σ n ce sl) : Ev E C Y pc L st σ n ce sl := by
  intro p e s m args below meth c H locs ls hC hR hS hl
  obtain ⟨hx, hb, -⟩ := id hC
  exact lv_sipush hx hb hd hv (h p e s m args below meth c H locs ls hC hR hS hl)
theorem ev_lconst {z : Fin 2} {v : Int64} (hd : decode Y.2.1 pc = .ok (.lconst z, 1)) (hv : Int64.ofNat (z : Nat) = v) (h : Ev E C Y (pc + 1) L (.long v :: st) σ n ce sl) : Ev E C Y pc L st σ n ce sl := by
  intro p e s m args below meth c H locs ls hC hR hS hl
  obtain ⟨hx, hb, -⟩ := id hC
  exact lv_lconst hx hb hd hv (h p e s m args below meth c H locs ls hC hR hS hl)
theorem ev_ldc {ix : Nat} {v : Int32} (hw : Cond.constant Y.1.cls ix v ∈ xtb) (hd : decode Y.2.1 pc = .ok (.ldc ix, 2)) (h : Ev E C Y (pc + 2) L (.int v :: st) σ n ce sl) : Ev E C Y pc L st σ n ce sl := by
  intro p e s m args below meth c H locs ls hC hR hS hl
  obtain ⟨hx, hb, hr, hml, hown, hts, -⟩ := id hC
  exact lv_ldc hx hb hown (hts _ hw) hd (h p e s m args below meth c H locs ls hC hR hS hl)
theorem ev_ldcw {ix : Nat} {v : Int32} (hw : Cond.constant Y.1.cls ix v ∈ xtb) (hd : decode Y.2.1 pc = .ok (.ldc_w ix, 3)) (h : Ev E C Y (pc + 3) L (.int v :: st) σ n ce sl) : Ev E C Y pc L st σ n ce sl := by
  intro p e s m args below meth c H locs ls hC hR hS hl
  obtain ⟨hx, hb, hr, hml, hown, hts, -⟩ := id hC
  exact lv_ldcw hx hb hown (hts _ hw) hd (h p e s m args below meth c H locs ls hC hR hS hl)
theorem ev_ldc2 {ix : Nat} {v : Int64} (hw : Cond.constantLong Y.1.cls ix v ∈ xtb) (hd : decode Y.2.1 pc = .ok (.ldc2_w ix, 3)) (h : Ev E C Y (pc + 3) L (.long v :: st) σ n ce sl) : Ev E C Y pc L st σ n ce sl := by
  intro p e s m args below meth c H locs ls hC hR hS hl
  obtain ⟨hx, hb, hr, hml, hown, hts, -⟩ := id hC
  exact lv_ldc2 hx hb hown (hts _ hw) hd (h p e s m args below meth c H locs ls hC hR hS hl)
theorem ev_null (hd : decode Y.2.1 pc = .ok (.aconst_null, 1)) (h : Ev E C Y (pc + 1) L (.null :: st) σ n ce sl) : Ev E C Y pc L st σ n ce sl := by
  intro p e s m args below meth c H locs ls hC hR hS hl
  obtain ⟨hx, hb, -⟩ := id hC
  exact lv_null hx hb hd (h p e s m args below meth c H locs ls hC hR hS hl)
theorem ev_dup {v : Value} (hd : decode Y.2.1 pc = .ok (.dup, 1)) (hv : v.category = 1) (h : Ev E C Y (pc + 1) L (v :: v :: st) σ n ce sl) : Ev E C Y pc L (v :: st) σ n ce sl := by
  intro p e s m args below meth c H locs ls hC hR hS hl
  obtain ⟨hx, hb, -⟩ := id hC
  exact lv_dup hx hb hd hv (h p e s m args below meth c H locs ls hC hR hS hl)
theorem ev_dup2 {v w : Value} (hd : decode Y.2.1 pc = .ok (.dup2, 1)) (hv : v.category = 1) (hw : w.category = 1) (h : Ev E C Y (pc + 1) L (v :: w :: v :: w :: st) σ n ce sl) : Ev E C Y pc L (v :: w :: st) σ n ce sl := by
  intro p e s m args below meth c H locs ls hC hR hS hl
  obtain ⟨hx, hb, -⟩ := id hC
  exact lv_dup2_11 hx hb hd hv hw (h p e s m args below meth c H locs ls hC hR hS hl)
theorem ev_pop {v : Value} (hd : decode Y.2.1 pc = .ok (.pop, 1)) (hv : v.category = 1) (h : Ev E C Y (pc + 1) L st σ n ce sl) : Ev E C Y pc L (v :: st) σ n ce sl := by
  intro p e s m args below meth c H locs ls hC hR hS hl
  obtain ⟨hx, hb, -⟩ := id hC
  exact lv_pop hx hb hd hv (h p e s m args below meth c H locs ls hC hR hS hl)
end EV
section EV2
variable {E : xE} {C : xC} {Y : xY} {pc : Nat} {L : List (Nat × Value)} {st : List Value} {σ : xM} {n ce sl : Nat}
theorem ev_iadd {x y : Int32} (hd : decode Y.2.1 pc = .ok (.iadd, 1)) (h : Ev E C Y (pc + 1) L (.int (x + y) :: st) σ n ce sl) : Ev E C Y pc L (.int y :: .int x :: st) σ n ce sl := by
  intro p e s m args below meth c H locs ls hC hR hS hl
  obtain ⟨hx, hb, -⟩ := id hC
  exact lv_iadd hx hb hd (h p e s m args below meth c H locs ls hC hR hS hl)
theorem ev_isub {x y : Int32} (hd : decode Y.2.1 pc = .ok (.isub, 1)) (h : Ev E C Y (pc + 1) L (.int (x - y) :: st) σ n ce sl) : Ev E C Y pc L (.int y :: .int x :: st) σ n ce sl := by
  intro p e s m args below meth c H locs ls hC hR hS hl
  obtain ⟨hx, hb, -⟩ := id hC
  exact lv_isub hx hb hd (h p e s m args below meth c H locs ls hC hR hS hl)
theorem ev_imul {x y : Int32} (hd : decode Y.2.1 pc = .ok (.imul, 1)) (h : Ev E C Y (pc + 1) L (.int (x * y) :: st) σ n ce sl) : Ev E C Y pc L (.int y :: .int x :: st) σ n ce sl := by
  intro p e s m args below meth c H locs ls hC hR hS hl
  obtain ⟨hx, hb, -⟩ := id hC
  exact lv_imul hx hb hd (h p e s m args below meth c H locs ls hC hR hS hl)
theorem ev_iand {x y : Int32} (hd : decode Y.2.1 pc = .ok (.iand, 1)) (h : Ev E C Y (pc + 1) L (.int (x &&& y) :: st) σ n ce sl) : Ev E C Y pc L (.int y :: .int x :: st) σ n ce sl := by
  intro p e s m args below meth c H locs ls hC hR hS hl
  obtain ⟨hx, hb, -⟩ := id hC
  exact lv_iand hx hb hd (h p e s m args below meth c H locs ls hC hR hS hl)
theorem ev_ior {x y : Int32} (hd : decode Y.2.1 pc = .ok (.ior, 1)) (h : Ev E C Y (pc + 1) L (.int (x ||| y) :: st) σ n ce sl) : Ev E C Y pc L (.int y :: .int x :: st) σ n ce sl := by
  intro p e s m args below meth c H locs ls hC hR hS hl
  obtain ⟨hx, hb, -⟩ := id hC
  exact lv_ior hx hb hd (h p e s m args below meth c H locs ls hC hR hS hl)
theorem ev_ixor {x y : Int32} (hd : decode Y.2.1 pc = .ok (.ixor, 1)) (h : Ev E C Y (pc + 1) L (.int (x ^^^ y) :: st) σ n ce sl) : Ev E C Y pc L (.int y :: .int x :: st) σ n ce sl := by
  intro p e s m args below meth c H locs ls hC hR hS hl
  obtain ⟨hx, hb, -⟩ := id hC
  exact lv_ixor hx hb hd (h p e s m args below meth c H locs ls hC hR hS hl)
theorem ev_idiv {x y : Int32} (hd : decode Y.2.1 pc = .ok (.idiv, 1)) (hne : ¬ y = 0) (h : Ev E C Y (pc + 1) L (.int (x / y) :: st) σ n ce sl) : Ev E C Y pc L (.int y :: .int x :: st) σ n ce sl := by
  intro p e s m args below meth c H locs ls hC hR hS hl
  obtain ⟨hx, hb, -⟩ := id hC
  exact lv_idiv hx hb hd hne (h p e s m args below meth c H locs ls hC hR hS hl)
theorem ev_irem {x y : Int32} (hd : decode Y.2.1 pc = .ok (.irem, 1)) (hne : ¬ y = 0) (h : Ev E C Y (pc + 1) L (.int (x - x / y * y) :: st) σ n ce sl) : Ev E C Y pc L (.int y :: .int x :: st) σ n ce sl := by
  intro p e s m args below meth c H locs ls hC hR hS hl
  obtain ⟨hx, hb, -⟩ := id hC
  exact lv_irem hx hb hd hne (h p e s m args below meth c H locs ls hC hR hS hl)
theorem ev_ishl {x y : Int32} (hd : decode Y.2.1 pc = .ok (.ishl, 1)) (h : Ev E C Y (pc + 1) L (.int (x <<< (y &&& 31)) :: st) σ n ce sl) : Ev E C Y pc L (.int y :: .int x :: st) σ n ce sl := by
  intro p e s m args below meth c H locs ls hC hR hS hl
  obtain ⟨hx, hb, -⟩ := id hC
  exact lv_ishl hx hb hd (h p e s m args below meth c H locs ls hC hR hS hl)
theorem ev_ishr {x y : Int32} (hd : decode Y.2.1 pc = .ok (.ishr, 1)) (h : Ev E C Y (pc + 1) L (.int (x >>> (y &&& 31)) :: st) σ n ce sl) : Ev E C Y pc L (.int y :: .int x :: st) σ n ce sl := by
  intro p e s m args below meth c H locs ls hC hR hS hl
  obtain ⟨hx, hb, -⟩ := id hC
  exact lv_ishr hx hb hd (h p e s m args below meth c H locs ls hC hR hS hl)
theorem ev_iushr {x y : Int32} (hd : decode Y.2.1 pc = .ok (.iushr, 1)) (h : Ev E C Y (pc + 1) L (.int ((x.toUInt32 >>> (y.toUInt32 &&& Int32.toUInt32 31)).toInt32) :: st) σ n ce sl) : Ev E C Y pc L (.int y :: .int x :: st) σ n ce sl := by
  intro p e s m args below meth c H locs ls hC hR hS hl
  obtain ⟨hx, hb, -⟩ := id hC
  exact lv_iushr hx hb hd rfl (h p e s m args below meth c H locs ls hC hR hS hl)
theorem ev_ladd {x y : Int64} (hd : decode Y.2.1 pc = .ok (.ladd, 1)) (h : Ev E C Y (pc + 1) L (.long (x + y) :: st) σ n ce sl) : Ev E C Y pc L (.long y :: .long x :: st) σ n ce sl := by
  intro p e s m args below meth c H locs ls hC hR hS hl
  obtain ⟨hx, hb, -⟩ := id hC
  exact lv_ladd hx hb hd (h p e s m args below meth c H locs ls hC hR hS hl)
theorem ev_lsub {x y : Int64} (hd : decode Y.2.1 pc = .ok (.lsub, 1)) (h : Ev E C Y (pc + 1) L (.long (x - y) :: st) σ n ce sl) : Ev E C Y pc L (.long y :: .long x :: st) σ n ce sl := by
  intro p e s m args below meth c H locs ls hC hR hS hl
  obtain ⟨hx, hb, -⟩ := id hC
  exact lv_lsub hx hb hd (h p e s m args below meth c H locs ls hC hR hS hl)
theorem ev_lmul {x y : Int64} (hd : decode Y.2.1 pc = .ok (.lmul, 1)) (h : Ev E C Y (pc + 1) L (.long (x * y) :: st) σ n ce sl) : Ev E C Y pc L (.long y :: .long x :: st) σ n ce sl := by
  intro p e s m args below meth c H locs ls hC hR hS hl
  obtain ⟨hx, hb, -⟩ := id hC
  exact lv_lmul hx hb hd (h p e s m args below meth c H locs ls hC hR hS hl)
theorem ev_ineg {x : Int32} (hd : decode Y.2.1 pc = .ok (.ineg, 1)) (h : Ev E C Y (pc + 1) L (.int (-x) :: st) σ n ce sl) : Ev E C Y pc L (.int x :: st) σ n ce sl := by
  intro p e s m args below meth c H locs ls hC hR hS hl
  obtain ⟨hx, hb, -⟩ := id hC
  exact lv_ineg hx hb hd (h p e s m args below meth c H locs ls hC hR hS hl)
theorem ev_i2l {x : Int32} (hd : decode Y.2.1 pc = .ok (.i2l, 1)) (h : Ev E C Y (pc + 1) L (.long (x.toInt64) :: st) σ n ce sl) : Ev E C Y pc L (.int x :: st) σ n ce sl := by
  intro p e s m args below meth c H locs ls hC hR hS hl
  obtain ⟨hx, hb, -⟩ := id hC
  exact lv_i2l hx hb hd rfl (h p e s m args below meth c H locs ls hC hR hS hl)
theorem ev_l2i {x : Int64} (hd : decode Y.2.1 pc = .ok (.l2i, 1)) (h : Ev E C Y (pc + 1) L (.int (x.toInt32) :: st) σ n ce sl) : Ev E C Y pc L (.long x :: st) σ n ce sl := by
  intro p e s m args below meth c H locs ls hC hR hS hl
  obtain ⟨hx, hb, -⟩ := id hC
  exact lv_l2i hx hb hd rfl (h p e s m args below meth c H locs ls hC hR hS hl)
theorem ev_i2b {x : Int32} (hd : decode Y.2.1 pc = .ok (.i2b, 1)) (h : Ev E C Y (pc + 1) L (.int (x.toInt8.toInt32) :: st) σ n ce sl) : Ev E C Y pc L (.int x :: st) σ n ce sl := by
  intro p e s m args below meth c H locs ls hC hR hS hl
  obtain ⟨hx, hb, -⟩ := id hC
  exact lv_i2b hx hb hd rfl (h p e s m args below meth c H locs ls hC hR hS hl)
theorem ev_lcmp {x y : Int64} (hd : decode Y.2.1 pc = .ok (.lcmp, 1)) (h : Ev E C Y (pc + 1) L (.int (lg_cmp x y) :: st) σ n ce sl) : Ev E C Y pc L (.long y :: .long x :: st) σ n ce sl := by
  intro p e s m args below meth c H locs ls hC hR hS hl
  obtain ⟨hx, hb, -⟩ := id hC
  exact W.lcmp hx hb hd (h p e s m args below meth c H locs ls hC hR hS hl)
theorem ev_icmp_eq {x y : Int32} {off : Int} {tgt : Nat} (hd : decode Y.2.1 pc = .ok (.if_icmp .eq off, 3)) (ht : (pc : Int) + off = (tgt : Int)) (kt : x = y → Ev E C Y tgt L st σ n ce sl) (kf : ¬ (x = y) → Ev E C Y (pc + 3) L st σ n ce sl) : Ev E C Y pc L (.int y :: .int x :: st) σ n ce sl := by
  intro p e s m args below meth c H locs ls hC hR hS hl
  obtain ⟨hx, hb, -⟩ := id hC
  exact lv_icmp_eq hx hb hd ht (fun q => kt q p e s m args below meth c H locs ls hC hR hS hl) (fun q => kf q p e s m args below meth c H locs ls hC hR hS hl)
theorem ev_if_eq {x : Int32} {off : Int} {tgt : Nat} (hd : decode Y.2.1 pc = .ok (.ifCond .eq off, 3)) (ht : (pc : Int) + off = (tgt : Int)) (kt : x = 0 → Ev E C Y tgt L st σ n ce sl) (kf : ¬ (x = 0) → Ev E C Y (pc + 3) L st σ n ce sl) : Ev E C Y pc L (.int x :: st) σ n ce sl := by
  intro p e s m args below meth c H locs ls hC hR hS hl
  obtain ⟨hx, hb, -⟩ := id hC
  exact lv_if_eq hx hb hd ht (fun q => kt q p e s m args below meth c H locs ls hC hR hS hl) (fun q => kf q p e s m args below meth c H locs ls hC hR hS hl)
theorem ev_icmp_ne {x y : Int32} {off : Int} {tgt : Nat} (hd : decode Y.2.1 pc = .ok (.if_icmp .ne off, 3)) (ht : (pc : Int) + off = (tgt : Int)) (kt : x ≠ y → Ev E C Y tgt L st σ n ce sl) (kf : x = y → Ev E C Y (pc + 3) L st σ n ce sl) : Ev E C Y pc L (.int y :: .int x :: st) σ n ce sl := by
  intro p e s m args below meth c H locs ls hC hR hS hl
  obtain ⟨hx, hb, -⟩ := id hC
  exact lv_icmp_ne hx hb hd ht (fun q => kt q p e s m args below meth c H locs ls hC hR hS hl) (fun q => kf q p e s m args below meth c H locs ls hC hR hS hl)
theorem ev_if_ne {x : Int32} {off : Int} {tgt : Nat} (hd : decode Y.2.1 pc = .ok (.ifCond .ne off, 3)) (ht : (pc : Int) + off = (tgt : Int)) (kt : x ≠ 0 → Ev E C Y tgt L st σ n ce sl) (kf : x = 0 → Ev E C Y (pc + 3) L st σ n ce sl) : Ev E C Y pc L (.int x :: st) σ n ce sl := by
  intro p e s m args below meth c H locs ls hC hR hS hl
  obtain ⟨hx, hb, -⟩ := id hC
  exact lv_if_ne hx hb hd ht (fun q => kt q p e s m args below meth c H locs ls hC hR hS hl) (fun q => kf q p e s m args below meth c H locs ls hC hR hS hl)
theorem ev_icmp_lt {x y : Int32} {off : Int} {tgt : Nat} (hd : decode Y.2.1 pc = .ok (.if_icmp .lt off, 3)) (ht : (pc : Int) + off = (tgt : Int)) (kt : x < y → Ev E C Y tgt L st σ n ce sl) (kf : ¬ (x < y) → Ev E C Y (pc + 3) L st σ n ce sl) : Ev E C Y pc L (.int y :: .int x :: st) σ n ce sl := by
  intro p e s m args below meth c H locs ls hC hR hS hl
  obtain ⟨hx, hb, -⟩ := id hC
  exact lv_icmp_lt hx hb hd ht (fun q => kt q p e s m args below meth c H locs ls hC hR hS hl) (fun q => kf q p e s m args below meth c H locs ls hC hR hS hl)
theorem ev_if_lt {x : Int32} {off : Int} {tgt : Nat} (hd : decode Y.2.1 pc = .ok (.ifCond .lt off, 3)) (ht : (pc : Int) + off = (tgt : Int)) (kt : x < 0 → Ev E C Y tgt L st σ n ce sl) (kf : ¬ (x < 0) → Ev E C Y (pc + 3) L st σ n ce sl) : Ev E C Y pc L (.int x :: st) σ n ce sl := by
  intro p e s m args below meth c H locs ls hC hR hS hl
  obtain ⟨hx, hb, -⟩ := id hC
  exact lv_if_lt hx hb hd ht (fun q => kt q p e s m args below meth c H locs ls hC hR hS hl) (fun q => kf q p e s m args below meth c H locs ls hC hR hS hl)
theorem ev_icmp_ge {x y : Int32} {off : Int} {tgt : Nat} (hd : decode Y.2.1 pc = .ok (.if_icmp .ge off, 3)) (ht : (pc : Int) + off = (tgt : Int)) (kt : y ≤ x → Ev E C Y tgt L st σ n ce sl) (kf : ¬ (y ≤ x) → Ev E C Y (pc + 3) L st σ n ce sl) : Ev E C Y pc L (.int y :: .int x :: st) σ n ce sl := by
  intro p e s m args below meth c H locs ls hC hR hS hl
  obtain ⟨hx, hb, -⟩ := id hC
  exact lv_icmp_ge hx hb hd ht (fun q => kt q p e s m args below meth c H locs ls hC hR hS hl) (fun q => kf q p e s m args below meth c H locs ls hC hR hS hl)
theorem ev_if_ge {x : Int32} {off : Int} {tgt : Nat} (hd : decode Y.2.1 pc = .ok (.ifCond .ge off, 3)) (ht : (pc : Int) + off = (tgt : Int)) (kt : 0 ≤ x → Ev E C Y tgt L st σ n ce sl) (kf : ¬ (0 ≤ x) → Ev E C Y (pc + 3) L st σ n ce sl) : Ev E C Y pc L (.int x :: st) σ n ce sl := by
  intro p e s m args below meth c H locs ls hC hR hS hl
  obtain ⟨hx, hb, -⟩ := id hC
  exact lv_if_ge hx hb hd ht (fun q => kt q p e s m args below meth c H locs ls hC hR hS hl) (fun q => kf q p e s m args below meth c H locs ls hC hR hS hl)
theorem ev_icmp_gt {x y : Int32} {off : Int} {tgt : Nat} (hd : decode Y.2.1 pc = .ok (.if_icmp .gt off, 3)) (ht : (pc : Int) + off = (tgt : Int)) (kt : y < x → Ev E C Y tgt L st σ n ce sl) (kf : ¬ (y < x) → Ev E C Y (pc + 3) L st σ n ce sl) : Ev E C Y pc L (.int y :: .int x :: st) σ n ce sl := by
  intro p e s m args below meth c H locs ls hC hR hS hl
  obtain ⟨hx, hb, -⟩ := id hC
  exact lv_icmp_gt hx hb hd ht (fun q => kt q p e s m args below meth c H locs ls hC hR hS hl) (fun q => kf q p e s m args below meth c H locs ls hC hR hS hl)
theorem ev_if_gt {x : Int32} {off : Int} {tgt : Nat} (hd : decode Y.2.1 pc = .ok (.ifCond .gt off, 3)) (ht : (pc : Int) + off = (tgt : Int)) (kt : 0 < x → Ev E C Y tgt L st σ n ce sl) (kf : ¬ (0 < x) → Ev E C Y (pc + 3) L st σ n ce sl) : Ev E C Y pc L (.int x :: st) σ n ce sl := by
  intro p e s m args below meth c H locs ls hC hR hS hl
  obtain ⟨hx, hb, -⟩ := id hC
  exact lv_if_gt hx hb hd ht (fun q => kt q p e s m args below meth c H locs ls hC hR hS hl) (fun q => kf q p e s m args below meth c H locs ls hC hR hS hl)
theorem ev_icmp_le {x y : Int32} {off : Int} {tgt : Nat} (hd : decode Y.2.1 pc = .ok (.if_icmp .le off, 3)) (ht : (pc : Int) + off = (tgt : Int)) (kt : x ≤ y → Ev E C Y tgt L st σ n ce sl) (kf : ¬ (x ≤ y) → Ev E C Y (pc + 3) L st σ n ce sl) : Ev E C Y pc L (.int y :: .int x :: st) σ n ce sl := by
  intro p e s m args below meth c H locs ls hC hR hS hl
  obtain ⟨hx, hb, -⟩ := id hC
  exact lv_icmp_le hx hb hd ht (fun q => kt q p e s m args below meth c H locs ls hC hR hS hl) (fun q => kf q p e s m args below meth c H locs ls hC hR hS hl)
theorem ev_if_le {x : Int32} {off : Int} {tgt : Nat} (hd : decode Y.2.1 pc = .ok (.ifCond .le off, 3)) (ht : (pc : Int) + off = (tgt : Int)) (kt : x ≤ 0 → Ev E C Y tgt L st σ n ce sl) (kf : ¬ (x ≤ 0) → Ev E C Y (pc + 3) L st σ n ce sl) : Ev E C Y pc L (.int x :: st) σ n ce sl := by
  intro p e s m args below meth c H locs ls hC hR hS hl
  obtain ⟨hx, hb, -⟩ := id hC
  exact lv_if_le hx hb hd ht (fun q => kt q p e s m args below meth c H locs ls hC hR hS hl) (fun q => kf q p e s m args below meth c H locs ls hC hR hS hl)
theorem ev_goto {off : Int} {tgt : Nat} (hd : decode Y.2.1 pc = .ok (.goto off, 3)) (ht : (pc : Int) + off = (tgt : Int)) (h : Ev E C Y tgt L st σ n ce sl) : Ev E C Y pc L st σ n ce sl := by
  intro p e s m args below meth c H locs ls hC hR hS hl
  obtain ⟨hx, hb, -⟩ := id hC
  exact lv_goto hx hb hd ht (h p e s m args below meth c H locs ls hC hR hS hl)
theorem ev_ifnull {r : Option Nat} {z : Nat} {off : Int} {tgt : Nat} (hd : decode Y.2.1 pc = .ok (.ifnull off, 3)) (ht : (pc : Int) + off = (tgt : Int)) (kt : r = none → Ev E C Y tgt L st σ n ce sl) (kf : ∀ a, r = some a → Ev E C Y (pc + 3) L st σ n ce sl) : Ev E C Y pc L (xrf z r :: st) σ n ce sl := by
  intro p e s m args below meth c H locs ls hC hR hS hl
  obtain ⟨hx, hb, -⟩ := id hC
  cases r with
  | none => exact lv_ifnullN hx hb hd ht (kt rfl p e s m args below meth c H locs ls hC hR hS hl)
  | some a => exact lv_ifnull hx hb hd (kf a rfl p e s m args below meth c H locs ls hC hR hS hl)
theorem ev_ifnonnull {r : Option Nat} {z : Nat} {off : Int} {tgt : Nat} (hd : decode Y.2.1 pc = .ok (.ifnonnull off, 3)) (ht : (pc : Int) + off = (tgt : Int)) (kt : ∀ a, r = some a → Ev E C Y tgt L st σ n ce sl) (kf : r = none → Ev E C Y (pc + 3) L st σ n ce sl) : Ev E C Y pc L (xrf z r :: st) σ n ce sl := by
  intro p e s m args below meth c H locs ls hC hR hS hl
  obtain ⟨hx, hb, -⟩ := id hC
  cases r with
  | none => exact lv_ifnonnullN hx hb hd (kf rfl p e s m args below meth c H locs ls hC hR hS hl)
  | some a => exact lv_ifnonnull hx hb hd ht (kt a rfl p e s m args below meth c H locs ls hC hR hS hl)
theorem ev_switch {dflt lo hi : Int} {offs : Array Int} {len : Nat} {x : Int32} {tgt : Nat} {off : Int} (hd : decode Y.2.1 pc = .ok (.tableswitch dflt lo hi offs, len)) (ho : (x.toInt < lo ∨ hi < x.toInt) ∧ off = dflt ∨ (¬ x.toInt < lo ∧ ¬ hi < x.toInt) ∧ offs[(x.toInt - lo).toNat]? = some off) (ht : (pc : Int) + off = (tgt : Int)) (h : Ev E C Y tgt L st σ n ce sl) : Ev E C Y pc L (.int x :: st) σ n ce sl := by
  intro p e s m args below meth c H locs ls hC hR hS hl
  obtain ⟨hx, hb, -⟩ := id hC
  rcases ho with ⟨h1, rfl⟩ | ⟨⟨h1, h2⟩, h3⟩
  · exact lv_tableOut hx hb hd h1 ht (h p e s m args below meth c H locs ls hC hR hS hl)
  · exact lv_tableIn hx hb hd h1 h2 h3 ht (h p e s m args below meth c H locs ls hC hR hS hl)
end EV2
