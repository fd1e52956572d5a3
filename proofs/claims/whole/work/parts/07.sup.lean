/-! What the printed functions are made of, and the rows by which a walk follows them -/
abbrev xm : Type := (Nat → Nat → Int32) × (Nat → Nat → Int64)
abbrev xr : Type := Nat → Nat → Option Nat
def xσ (μ : xm) (R : xr) : xM := (μ.1, μ.2, R)
def xin (i : Int32) (n : Nat) : Bool := !(decide (i < 0) || decide (n ≤ i.toNatClampNeg))
theorem xin_vp {i : Int32} {n : Nat} (h : xin i n = true) : vp_in i n := by
  unfold xin at h
  intro q
  rcases q with q | q <;> simp [q] at h
def xgI (μ : xm) (o len : Nat) (i : Int32) : Option Int32 := if xin i len = true then some (μ.1 o i.toNatClampNeg) else none
def xgJ (μ : xm) (o len : Nat) (i : Int32) : Option Int64 := if xin i len = true then some (μ.2 o i.toNatClampNeg) else none
def xgR (R : xr) (o len : Nat) (i : Int32) : Option (Option Nat) := if xin i len = true then some (R o i.toNatClampNeg) else none
def xpI (μ : xm) (o k : Nat) (x : Int32) : xm := (xup μ.1 o k x, μ.2)
def xpJ (μ : xm) (o k : Nat) (x : Int64) : xm := (μ.1, xup μ.2 o k x)
def xsI (μ : xm) (o len : Nat) (i x : Int32) : Option xm := if xin i len = true then some (xpI μ o i.toNatClampNeg x) else none
def xsB (μ : xm) (o len : Nat) (i x : Int32) : Option xm := if xin i len = true then some (xpI μ o i.toNatClampNeg (vp_nar .byte x)) else none
def xsZ (μ : xm) (o len : Nat) (i x : Int32) : Option xm := if xin i len = true then some (xpI μ o i.toNatClampNeg (vp_nar .boolean x)) else none
def xsJ (μ : xm) (o len : Nat) (i : Int32) (x : Int64) : Option xm := if xin i len = true then some (xpJ μ o i.toNatClampNeg x) else none
def xsR (R : xr) (o len : Nat) (i : Int32) (x : Nat) : Option xr := if xin i len = true then some (xup R o i.toNatClampNeg (some x)) else none
def xbd {α β : Type} (x : Option α) (f : α → Option β) : Option β := x.bind f
def xlt {α β : Type} (x : α) (f : α → Option β) : Option β := f x
def xdiv (x y : Int32) : Option Int32 := if y = 0 then none else some (x / y)
def xrem (x y : Int32) : Option Int32 := if y = 0 then none else some (x - x / y * y)
def xz (r : Int32) : Option Int32 := if r = 0 ∨ r = 1 then some r else none
theorem xbd_some {α β : Type} {x : Option α} {f : α → Option β} {r : β} (h : xbd x f = some r) : ∃ v, x = some v ∧ f v = some r := Option.bind_eq_some_iff.mp h
theorem xlt_some {α β : Type} {x : α} {f : α → Option β} {r : β} (h : xlt x f = some r) : ∃ v, x = v ∧ f v = some r := ⟨x, rfl, h⟩
theorem xbd_mk {α β : Type} {x : Option α} {f : α → Option β} {v : α} (h : x = some v) : xbd x f = f v := by rw [h]; rfl
theorem xlt_mk {α β : Type} {x : α} {f : α → Option β} : xlt x f = f x := rfl
theorem xgI_some {μ : xm} {o len : Nat} {i v : Int32} (h : xgI μ o len i = some v) : vp_in i len ∧ v = μ.1 o i.toNatClampNeg := by
  unfold xgI at h; split at h
  · exact ⟨xin_vp ‹_›, (Option.some.inj h).symm⟩
  · cases h
theorem xgJ_some {μ : xm} {o len : Nat} {i : Int32} {v : Int64} (h : xgJ μ o len i = some v) : vp_in i len ∧ v = μ.2 o i.toNatClampNeg := by
  unfold xgJ at h; split at h
  · exact ⟨xin_vp ‹_›, (Option.some.inj h).symm⟩
  · cases h
theorem xgR_some {R : xr} {o len : Nat} {i : Int32} {v : Option Nat} (h : xgR R o len i = some v) : vp_in i len ∧ v = R o i.toNatClampNeg := by
  unfold xgR at h; split at h
  · exact ⟨xin_vp ‹_›, (Option.some.inj h).symm⟩
  · cases h
theorem xite_some {α : Type} {c : Prop} [Decidable c] {x y : α} (h : (if c then some x else none) = some y) : c ∧ x = y := by
  split at h
  · exact ⟨‹_›, Option.some.inj h⟩
  · cases h
theorem xdiv_some {x y v : Int32} (h : xdiv x y = some v) : ¬ y = 0 ∧ v = x / y := by
  unfold xdiv at h; split at h
  · cases h
  · exact ⟨‹_›, (Option.some.inj h).symm⟩
theorem xrem_some {x y v : Int32} (h : xrem x y = some v) : ¬ y = 0 ∧ v = x - x / y * y := by
  unfold xrem at h; split at h
  · cases h
  · exact ⟨‹_›, (Option.some.inj h).symm⟩
theorem xz_some {x v : Int32} (h : xz x = some v) : (v = 0 ∨ v = 1) ∧ x = v := by
  obtain ⟨h1, h2⟩ := xite_some h
  subst h2; exact ⟨h1, rfl⟩
def xloop {α β : Type} (n : Nat) (b : α → Option (α ⊕ β)) (a : α) : Option β := match n with
  | 0 => none
  | n + 1 => match b a with
    | none => none
    | some (.inl a') => xloop n b a'
    | some (.inr r) => some r
def xfu : Nat := 1000000
theorem xloop_run {α β : Type} {b : α → Option (α ⊕ β)} (G : α → Prop) (X : β → Prop) (hs : ∀ a x, b a = some x → Sum.elim G X x → G a) : ∀ (n : Nat) (a : α) (r : β), xloop n b a = some r → X r → G a := by
  intro n
  induction n with
  | zero => intro a r h _; cases h
  | succ n ih =>
    intro a r h hx
    unfold xloop at h
    cases hb : b a with
    | none => rw [hb] at h; cases h
    | some x =>
      rw [hb] at h
      cases x with
      | inl a' => exact hs a _ hb (ih a' r h hx)
      | inr q => cases h; exact hs a _ hb hx
section XV
variable {E : xE} {C : xC} {Y : xY} {pc : Nat} {L : List (Nat × Value)} {st : List Value} {μ ν : xm} {R S : xr} {n ce sl : Nat}
theorem xv_iald {o len : Nat} {i v : Int32} (hk : xkd o = (1, len)) (ho : o < n) (hg : xgI μ o len i = some v) (hd : decode Y.2.1 pc = .ok (.iaload, 1)) (h : Ev E C Y (pc + 1) L (.int v :: st) (xσ μ R) n ce sl) : Ev E C Y pc L (.int i :: .ref (E.2.2.2 + o) :: st) (xσ μ R) n ce sl := by
  obtain ⟨h1, rfl⟩ := xgI_some hg
  exact ev_iald hk ho h1 hd h
theorem xv_bald {o len : Nat} {i v : Int32} (hk : xkd o = (3, len)) (ho : o < n) (hg : xgI μ o len i = some v) (hd : decode Y.2.1 pc = .ok (.baload, 1)) (h : Ev E C Y (pc + 1) L (.int v :: st) (xσ μ R) n ce sl) : Ev E C Y pc L (.int i :: .ref (E.2.2.2 + o) :: st) (xσ μ R) n ce sl := by
  obtain ⟨h1, rfl⟩ := xgI_some hg
  exact ev_bald hk ho h1 hd h
theorem xv_zald {o len : Nat} {i v : Int32} (hk : xkd o = (4, len)) (ho : o < n) (hg : xgI μ o len i = some v) (hd : decode Y.2.1 pc = .ok (.baload, 1)) (h : Ev E C Y (pc + 1) L (.int v :: st) (xσ μ R) n ce sl) : Ev E C Y pc L (.int i :: .ref (E.2.2.2 + o) :: st) (xσ μ R) n ce sl := by
  obtain ⟨h1, rfl⟩ := xgI_some hg
  exact ev_zald hk ho h1 hd h
theorem xv_lald {o len : Nat} {i : Int32} {v : Int64} (hk : xkd o = (2, len)) (ho : o < n) (hg : xgJ μ o len i = some v) (hd : decode Y.2.1 pc = .ok (.laload, 1)) (h : Ev E C Y (pc + 1) L (.long v :: st) (xσ μ R) n ce sl) : Ev E C Y pc L (.int i :: .ref (E.2.2.2 + o) :: st) (xσ μ R) n ce sl := by
  obtain ⟨h1, rfl⟩ := xgJ_some hg
  exact ev_lald hk ho h1 hd h
theorem xv_aald {o len : Nat} {i : Int32} {v : Option Nat} (hk : xkd o = (5, len)) (ho : o < n) (hg : xgR R o len i = some v) (hd : decode Y.2.1 pc = .ok (.aaload, 1)) (h : Ev E C Y (pc + 1) L (xrf E.2.2.2 v :: st) (xσ μ R) n ce sl) : Ev E C Y pc L (.int i :: .ref (E.2.2.2 + o) :: st) (xσ μ R) n ce sl := by
  obtain ⟨h1, rfl⟩ := xgR_some hg
  exact ev_aald hk ho h1 hd h
theorem xv_iast {o len : Nat} {i x : Int32} (hk : xkd o = (1, len)) (ho : o < n) (hs : xsI μ o len i x = some ν) (hd : decode Y.2.1 pc = .ok (.iastore, 1)) (h : Ev E C Y (pc + 1) L st (xσ ν R) n ce sl) : Ev E C Y pc L (.int x :: .int i :: .ref (E.2.2.2 + o) :: st) (xσ μ R) n ce sl := by
  obtain ⟨h1, rfl⟩ := xite_some hs
  exact ev_iast hk ho (xin_vp h1) hd h
theorem xv_bast {o len : Nat} {i x : Int32} (hk : xkd o = (3, len)) (ho : o < n) (hs : xsB μ o len i x = some ν) (hd : decode Y.2.1 pc = .ok (.bastore, 1)) (h : Ev E C Y (pc + 1) L st (xσ ν R) n ce sl) : Ev E C Y pc L (.int x :: .int i :: .ref (E.2.2.2 + o) :: st) (xσ μ R) n ce sl := by
  obtain ⟨h1, rfl⟩ := xite_some hs
  exact ev_bast hk ho (xin_vp h1) hd h
theorem xv_zast {o len : Nat} {i x : Int32} (hk : xkd o = (4, len)) (ho : o < n) (hs : xsZ μ o len i x = some ν) (hd : decode Y.2.1 pc = .ok (.bastore, 1)) (h : Ev E C Y (pc + 1) L st (xσ ν R) n ce sl) : Ev E C Y pc L (.int x :: .int i :: .ref (E.2.2.2 + o) :: st) (xσ μ R) n ce sl := by
  obtain ⟨h1, rfl⟩ := xite_some hs
  exact ev_zast hk ho (xin_vp h1) hd h
theorem xv_last {o len : Nat} {i : Int32} {x : Int64} (hk : xkd o = (2, len)) (ho : o < n) (hs : xsJ μ o len i x = some ν) (hd : decode Y.2.1 pc = .ok (.lastore, 1)) (h : Ev E C Y (pc + 1) L st (xσ ν R) n ce sl) : Ev E C Y pc L (.long x :: .int i :: .ref (E.2.2.2 + o) :: st) (xσ μ R) n ce sl := by
  obtain ⟨h1, rfl⟩ := xite_some hs
  exact ev_last hk ho (xin_vp h1) hd h
theorem xv_aast {o len x : Nat} {i : Int32} (hk : xkd o = (5, len)) (ho : o < n) (hkx : xkd x = (0, 2)) (hxn : x < n) (hcl : xCl 2) (hs : xsR R o len i x = some S) (hd : decode Y.2.1 pc = .ok (.aastore, 1)) (h : Ev E C Y (pc + 1) L st (xσ μ S) n ce sl) : Ev E C Y pc L (.ref (E.2.2.2 + x) :: .int i :: .ref (E.2.2.2 + o) :: st) (xσ μ R) n ce sl := by
  obtain ⟨h1, rfl⟩ := xite_some hs
  exact ev_aast hk ho hkx hxn (xin_vp h1) hcl hd h
theorem xv_getI {ix ci k o : Nat} (hc : xCl ci) (hf : xLk Y.1.cls ix ci k) (hk : xkd o = (0, ci)) (ho : o < n) (hv : ∀ τ : xM, xfv E.2.2.2 τ (xft ci k) o k = .int (τ.1 o k)) (hd : decode Y.2.1 pc = .ok (.getfield ix, 3)) (h : Ev E C Y (pc + 3) L (.int (μ.1 o k) :: st) (xσ μ R) n ce sl) : Ev E C Y pc L (.ref (E.2.2.2 + o) :: st) (xσ μ R) n ce sl :=
  ev_get hc hf hk ho (hv _) hd h
theorem xv_getIN {ix ci k o : Nat} (hc : xCl ci) (hf : xLn Y.1.cls ix ci k) (hk : xkd o = (0, ci)) (ho : o < n) (hv : ∀ τ : xM, xfv E.2.2.2 τ (xft ci k) o k = .int (τ.1 o k)) (hd : decode Y.2.1 pc = .ok (.getfield ix, 3)) (h : Ev E C Y (pc + 3) L (.int (μ.1 o k) :: st) (xσ μ R) n ce sl) : Ev E C Y pc L (.ref (E.2.2.2 + o) :: st) (xσ μ R) n ce sl :=
  ev_getN hc hf hk ho (hv _) hd h
/-- a final reference: its target is known -/
theorem xv_getF {ix ci k o a : Nat} (hc : xCl ci) (hf : xLk Y.1.cls ix ci k) (hk : xkd o = (0, ci)) (ho : o < n) (hv : ∀ τ : xM, xfv E.2.2.2 τ (xft ci k) o k = xrf E.2.2.2 (τ.2.2 o k)) (hR : R o k = some a) (hd : decode Y.2.1 pc = .ok (.getfield ix, 3)) (h : Ev E C Y (pc + 3) L (.ref (E.2.2.2 + a) :: st) (xσ μ R) n ce sl) : Ev E C Y pc L (.ref (E.2.2.2 + o) :: st) (xσ μ R) n ce sl :=
  ev_get hc hf hk ho ((hv _).trans (by show xrf _ (R o k) = _; rw [hR]; rfl)) hd h
theorem xv_getR {ix ci k o : Nat} (hc : xCl ci) (hf : xLk Y.1.cls ix ci k) (hk : xkd o = (0, ci)) (ho : o < n) (hv : ∀ τ : xM, xfv E.2.2.2 τ (xft ci k) o k = xrf E.2.2.2 (τ.2.2 o k)) (hd : decode Y.2.1 pc = .ok (.getfield ix, 3)) (h : Ev E C Y (pc + 3) L (xrf E.2.2.2 (R o k) :: st) (xσ μ R) n ce sl) : Ev E C Y pc L (.ref (E.2.2.2 + o) :: st) (xσ μ R) n ce sl :=
  ev_get hc hf hk ho (hv _) hd h
theorem xv_putI {ix ci k o : Nat} {x : Int32} (hc : xCl ci) (hf : xLk Y.1.cls ix ci k) (hfin : (xT ci k).2.2.2 = false) (hk : xkd o = (0, ci)) (ho : o < n) (hn : narrow (xft ci k) (.int x) = .int x) (hfit : fits (xft ci k) (.int x) = true) (hv : ∀ τ : xM, xfv E.2.2.2 τ (xft ci k) o k = .int (τ.1 o k)) (hp : xpI μ o k x = ν)
    (hd : decode Y.2.1 pc = .ok (.putfield ix, 3)) (h : Ev E C Y (pc + 3) L st (xσ ν R) n ce sl) : Ev E C Y pc L (.int x :: .ref (E.2.2.2 + o) :: st) (xσ μ R) n ce sl := by
  subst hp
  exact ev_putI hc hf hfin hk ho hn hfit hv hd h
theorem xv_putFI {ix ci k o : Nat} {x : Int32} (hc : xCl ci) (hf : xLk Y.1.cls ix ci k) (hfin : (xT ci k).2.2.2 = true) (hin : Y.1.name = "<init>") (hdecl : (xT ci k).1 = Y.1.cls) (hk : xkd o = (0, ci)) (ho : o < n) (hn : narrow (xft ci k) (.int x) = .int x) (hfit : fits (xft ci k) (.int x) = true) (hv : ∀ τ : xM, xfv E.2.2.2 τ (xft ci k) o k = .int (τ.1 o k)) (hp : xpI μ o k x = ν)
    (hd : decode Y.2.1 pc = .ok (.putfield ix, 3)) (h : Ev E C Y (pc + 3) L st (xσ ν R) n ce sl) : Ev E C Y pc L (.int x :: .ref (E.2.2.2 + o) :: st) (xσ μ R) n ce sl := by
  subst hp
  exact ev_putFI hc hf hfin hin hdecl hk ho hn hfit hv hd h
theorem xv_putR {ix ci k o x : Nat} (hc : xCl ci) (hf : xLk Y.1.cls ix ci k) (hfin : (xT ci k).2.2.2 = false) (hk : xkd o = (0, ci)) (ho : o < n) (hn : ∀ a, narrow (xft ci k) (.ref a) = .ref a) (hfit : ∀ a, fits (xft ci k) (.ref a) = true) (hv : ∀ τ : xM, xfv E.2.2.2 τ (xft ci k) o k = xrf E.2.2.2 (τ.2.2 o k)) (hp : xup R o k (some x) = S)
    (hd : decode Y.2.1 pc = .ok (.putfield ix, 3)) (h : Ev E C Y (pc + 3) L st (xσ μ S) n ce sl) : Ev E C Y pc L (.ref (E.2.2.2 + x) :: .ref (E.2.2.2 + o) :: st) (xσ μ R) n ce sl := by
  subst hp
  exact ev_putR hc hf hfin hk ho hn hfit hv hd h
theorem xv_putFR {ix ci k o x : Nat} (hc : xCl ci) (hf : xLk Y.1.cls ix ci k) (hfin : (xT ci k).2.2.2 = true) (hin : Y.1.name = "<init>") (hdecl : (xT ci k).1 = Y.1.cls) (hk : xkd o = (0, ci)) (ho : o < n) (hn : ∀ a, narrow (xft ci k) (.ref a) = .ref a) (hfit : ∀ a, fits (xft ci k) (.ref a) = true) (hv : ∀ τ : xM, xfv E.2.2.2 τ (xft ci k) o k = xrf E.2.2.2 (τ.2.2 o k)) (hp : xup R o k (some x) = S)
    (hd : decode Y.2.1 pc = .ok (.putfield ix, 3)) (h : Ev E C Y (pc + 3) L st (xσ μ S) n ce sl) : Ev E C Y pc L (.ref (E.2.2.2 + x) :: .ref (E.2.2.2 + o) :: st) (xσ μ R) n ce sl := by
  subst hp
  exact ev_putFR hc hf hfin hin hdecl hk ho hn hfit hv hd h
/-- a reference field is written with what a read gave (maybe null is excluded) -/
theorem xv_idiv {x y v : Int32} (hg : xdiv x y = some v) (hd : decode Y.2.1 pc = .ok (.idiv, 1)) (h : Ev E C Y (pc + 1) L (.int v :: st) (xσ μ R) n ce sl) : Ev E C Y pc L (.int y :: .int x :: st) (xσ μ R) n ce sl := by
  obtain ⟨h1, rfl⟩ := xdiv_some hg
  exact ev_idiv hd h1 h
theorem xv_irem {x y v : Int32} (hg : xrem x y = some v) (hd : decode Y.2.1 pc = .ok (.irem, 1)) (h : Ev E C Y (pc + 1) L (.int v :: st) (xσ μ R) n ce sl) : Ev E C Y pc L (.int y :: .int x :: st) (xσ μ R) n ce sl := by
  obtain ⟨h1, rfl⟩ := xrem_some hg
  exact ev_irem hd h1 h
theorem xv_istore {i : Nat} {v x : Int32} {L' : List (Nat × Value)} (hv : v = x) (hd : decode Y.2.1 pc = .ok (.istore i, 2)) (hi : i < Y.2.2.1) (hL : (i, Value.int x) :: L.filter (fun q => !(q.1 == i) && !(q.1 + 1 == i && q.2.category == 2)) = L') (h : Ev E C Y (pc + 2) L' st (xσ μ R) n ce sl) : Ev E C Y pc L (.int v :: st) (xσ μ R) n ce sl := by
  subst hv; exact ev_istore hd hi hL h
theorem xv_istore_n {i : Nat} {f : Fin 4} {v x : Int32} {L' : List (Nat × Value)} (hv : v = x) (hd : decode Y.2.1 pc = .ok (.istore_n f, 1)) (hf : (f : Nat) = i) (hi : i < Y.2.2.1) (hL : (i, Value.int x) :: L.filter (fun q => !(q.1 == i) && !(q.1 + 1 == i && q.2.category == 2)) = L') (h : Ev E C Y (pc + 1) L' st (xσ μ R) n ce sl) : Ev E C Y pc L (.int v :: st) (xσ μ R) n ce sl := by
  subst hv; exact ev_istore_n hd hf hi hL h
theorem xv_lstore {i : Nat} {v x : Int64} {L' : List (Nat × Value)} (hv : v = x) (hd : decode Y.2.1 pc = .ok (.lstore i, 2)) (hi : i + 1 < Y.2.2.1) (hL : (i, Value.long x) :: L.filter (fun q => !(q.1 == i) && (!(q.1 == i + 1) && !(q.1 + 1 == i && q.2.category == 2))) = L') (h : Ev E C Y (pc + 2) L' st (xσ μ R) n ce sl) : Ev E C Y pc L (.long v :: st) (xσ μ R) n ce sl := by
  subst hv; exact ev_lstore hd hi hL h
theorem xv_lstore_n {i : Nat} {f : Fin 4} {v x : Int64} {L' : List (Nat × Value)} (hv : v = x) (hd : decode Y.2.1 pc = .ok (.lstore_n f, 1)) (hf : (f : Nat) = i) (hi : i + 1 < Y.2.2.1) (hL : (i, Value.long x) :: L.filter (fun q => !(q.1 == i) && (!(q.1 == i + 1) && !(q.1 + 1 == i && q.2.category == 2))) = L') (h : Ev E C Y (pc + 1) L' st (xσ μ R) n ce sl) : Ev E C Y pc L (.long v :: st) (xσ μ R) n ce sl := by
  subst hv; exact ev_lstore_n hd hf hi hL h
theorem xv_astore {i : Nat} {r : Option Nat} {L' : List (Nat × Value)} (hd : decode Y.2.1 pc = .ok (.astore i, 2)) (hi : i < Y.2.2.1) (hL : (i, xrf E.2.2.2 r) :: L.filter (fun q => !(q.1 == i) && !(q.1 + 1 == i && q.2.category == 2)) = L') (h : Ev E C Y (pc + 2) L' st (xσ μ R) n ce sl) : Ev E C Y pc L (xrf E.2.2.2 r :: st) (xσ μ R) n ce sl := by
  cases r with
  | none => exact ev_astoreN hd hi hL h
  | some a => exact ev_astore hd hi hL h
theorem xv_astore_n {i : Nat} {f : Fin 4} {r : Option Nat} {L' : List (Nat × Value)} (hd : decode Y.2.1 pc = .ok (.astore_n f, 1)) (hf : (f : Nat) = i) (hi : i < Y.2.2.1) (hL : (i, xrf E.2.2.2 r) :: L.filter (fun q => !(q.1 == i) && !(q.1 + 1 == i && q.2.category == 2)) = L') (h : Ev E C Y (pc + 1) L' st (xσ μ R) n ce sl) : Ev E C Y pc L (xrf E.2.2.2 r :: st) (xσ μ R) n ce sl := by
  cases r with
  | none => exact ev_astore_nN hd hf hi hL h
  | some a => exact ev_astore_n hd hf hi hL h
theorem xv_aload {i : Nat} {r : Option Nat} (k : Nat) (hd : decode Y.2.1 pc = .ok (.aload i, 2)) (hk : L[k]? = some (i, xrf E.2.2.2 r)) (h : Ev E C Y (pc + 2) L (xrf E.2.2.2 r :: st) (xσ μ R) n ce sl) : Ev E C Y pc L st (xσ μ R) n ce sl := by
  cases r with
  | none => exact ev_aloadN k hd hk h
  | some a => exact ev_aload k hd hk h
theorem xv_aload_n {i : Nat} {f : Fin 4} {r : Option Nat} (k : Nat) (hd : decode Y.2.1 pc = .ok (.aload_n f, 1)) (hf : (f : Nat) = i) (hk : L[k]? = some (i, xrf E.2.2.2 r)) (h : Ev E C Y (pc + 1) L (xrf E.2.2.2 r :: st) (xσ μ R) n ce sl) : Ev E C Y pc L st (xσ μ R) n ce sl := by
  cases r with
  | none => exact ev_aload_nN k hd hf hk h
  | some a => exact ev_aload_n k hd hf hk h
end XV
