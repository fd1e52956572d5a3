def xCl (ci : Nat) : Prop := xcls[ci]? = some (xCn ci, xT ci, xN ci) ∧ (∀ w ∈ u_ws (xCn ci) (xT ci) (xN ci), w ∈ xtb) ∧ (∀ j, j < xN ci → parseFieldDescriptor (xT ci j).2.2.1 = some (xft ci j)) ∧ (∀ a, a < xN ci → ∀ b, b < xN ci → a ≠ b → (xT ci a).2.1 ≠ (xT ci b).2.1)
def xLk (own : String) (ix ci k : Nat) : Prop := k < xN ci ∧ Cond.fieldLink own ix (xT ci k).1 (xT ci k).2.1 (xT ci k).2.2.1 ∈ xtb
def xLn (own : String) (ix ci k : Nat) : Prop := k < xN ci ∧ ∃ host, (own, ix, (xT ci k).1, (xT ci k).2.1, (xT ci k).2.2.1, host) ∈ xnf
theorem xent_obj {E : xE} {σ : xM} {o ci : Nat} (h : xkd o = (0, ci)) : xent E σ o = .inr (ci, (List.range (xN ci)).map (fun k => xfv E.2.2.2 σ (xft ci k) o k)) := by
  unfold xent; rw [h]; try rfl
theorem xent_i {E : xE} {σ : xM} {o len : Nat} (h : xkd o = (1, len)) : xent E σ o = .inl (E.2.2.1 0, len, .inl (σ.1 o)) := by
  unfold xent; rw [h]; try rfl
theorem xent_l {E : xE} {σ : xM} {o len : Nat} (h : xkd o = (2, len)) : xent E σ o = .inl (E.2.2.1 1, len, .inr (.inl (σ.2.1 o))) := by
  unfold xent; rw [h]; try rfl
theorem xent_b {E : xE} {σ : xM} {o len : Nat} (h : xkd o = (3, len)) : xent E σ o = .inl (E.2.2.1 2, len, .inl (σ.1 o)) := by
  unfold xent; rw [h]; try rfl
theorem xent_z {E : xE} {σ : xM} {o len : Nat} (h : xkd o = (4, len)) : xent E σ o = .inl (E.2.2.1 3, len, .inl (σ.1 o)) := by
  unfold xent; rw [h]; try rfl
theorem xent_q {E : xE} {σ : xM} {o len : Nat} (h : xkd o = (5, len)) : xent E σ o = .inl (E.2.2.1 4, len, .inr (.inr (.inr (.inr (fun k => (σ.2.2 o k).map (fun a => E.2.2.2 + a)))))) := by
  unfold xent; rw [h]; try rfl
theorem xup_ne {α : Type} {f : Nat → Nat → α} {i k a : Nat} {v : α} (h : a ≠ i) : xup f i k v a = f a := by
  funext j; simp [xup, h]
theorem xup_self {α : Type} {f : Nat → Nat → α} {i k : Nat} {v : α} : xup f i k v i k = v := by simp [xup]
theorem xup_nek {α : Type} {f : Nat → Nat → α} {i k j : Nat} {v : α} (h : j ≠ k) : xup f i k v i j = f i j := by simp [xup, h]
/-- two memories that are alike at a cell -/
theorem xent_congr {E : xE} {σ τ : xM} {a : Nat} (h1 : τ.1 a = σ.1 a) (h2 : τ.2.1 a = σ.2.1 a) (h3 : τ.2.2 a = σ.2.2 a) : xent E τ a = xent E σ a := by
  unfold xent
  have : ∀ ft k, xfv E.2.2.2 τ ft a k = xfv E.2.2.2 σ ft a k := by
    intro ft k
    cases ft <;> simp [xfv, h1, h2, h3]
  split <;> simp [this, h1, h2, h3]
theorem xent_wI {E : xE} {σ : xM} {i k a : Nat} {v : Int32} (h : a ≠ i) : xent E (xwI σ i k v) a = xent E σ a := xent_congr (xup_ne h) rfl rfl
theorem xent_wJ {E : xE} {σ : xM} {i k a : Nat} {v : Int64} (h : a ≠ i) : xent E (xwJ σ i k v) a = xent E σ a := xent_congr rfl (xup_ne h) rfl
theorem xent_wR {E : xE} {σ : xM} {i k a : Nat} {v : Option Nat} (h : a ≠ i) : xent E (xwR σ i k v) a = xent E σ a := xent_congr rfl rfl (xup_ne h)
theorem xR_set {E : xE} {σ τ : xM} {n o : Nat} {H H1 : Heap} (hR : xR E σ n H) (hid : o < n) (hz : H1.size = H.size) (ho : ∀ q, q ≠ E.2.2.2 + o → H1[q]? = H[q]?) (hs : va_at E.2.1 xcls (E.2.2.2 + o, xent E τ o) H1) (he : ∀ a, a ≠ o → xent E τ a = xent E σ a) : xR E τ n H1 := by
  refine ⟨by rw [hz]; exact hR.1, fun a ha => ?_⟩
  by_cases h : a = o
  · rw [h]; exact hs
  · rw [he a h]
    exact (hR.2 a ha).kept (ho _ (by show E.2.2.2 + a ≠ _; omega))
theorem xR_one {E : xE} {σ : xM} {n o : Nat} {H : Heap} (hR : xR E σ n H) (hid : o < n) : va_P E.2.1 xcls [(E.2.2.2 + o, xent E σ o)] H := by
  intro k q hk
  have h1 : k < 1 := (List.getElem?_eq_some_iff.mp hk).1
  have h0 : k = 0 := by omega
  subst h0
  cases hk
  exact hR.2 o hid
theorem xS_put {E : xE} {σ : xM} {n o k : Nat} {s : State} {H H1 : Heap} {locs : List Loc} (hS : va_S (xA E) s.heap H locs) (z : H1.size = H.size) (oq : ∀ q : Nat, q ≠ E.2.2.2 + o → H1[q]? = H[q]?) : va_S (xA E) s.heap H1 (locs ++ [⟨E.2.2.2 + o, k⟩]) :=
  hS.put z oq (Nat.le_add_right _ _)
theorem xrange {α : Type} {N : Nat} {f g : Nat → α} {k : Nat} {v : α} (h : ∀ j, j < N → g j = if j = k then v else f j) : (List.range N).map g = ((List.range N).map f).set k v := by
  apply List.ext_getElem?
  intro j
  by_cases hj : j < N
  · by_cases hk : j = k
    · subst hk
      rw [List.getElem?_set_self (by simpa using hj)]
      simp [hj, h j hj]
    · rw [List.getElem?_set_ne (Ne.symm hk)]
      simp [hj, h j hj, hk]
  · rw [List.getElem?_eq_none (by simpa using hj), List.getElem?_eq_none (by simpa using hj)]
theorem xfv_wI {z : Nat} {σ : xM} {i k j : Nat} {v : Int32} {ft : FieldType} (h : j ≠ k) : xfv z (xwI σ i k v) ft i j = xfv z σ ft i j := by
  cases ft <;> simp [xfv, xwI, xup_nek h]
theorem xfv_wR {z : Nat} {σ : xM} {i k j : Nat} {v : Option Nat} {ft : FieldType} (h : j ≠ k) : xfv z (xwR σ i k v) ft i j = xfv z σ ft i j := by
  cases ft <;> simp [xfv, xwR, xup_nek h]
section EVH
variable {E : xE} {C : xC} {Y : xY} {pc : Nat} {L : List (Nat × Value)} {st : List Value} {σ : xM} {n ce sl : Nat}
theorem ev_get {ix ci k o : Nat} {v : Value} (hc : xCl ci) (hf : xLk Y.1.cls ix ci k) (hk : xkd o = (0, ci)) (hid : o < n) (hv : xfv E.2.2.2 σ (xft ci k) o k = v) (hd : decode Y.2.1 pc = .ok (.getfield ix, 3)) (h : Ev E C Y (pc + 3) L (v :: st) σ n ce sl) : Ev E C Y pc L (.ref (E.2.2.2 + o) :: st) σ n ce sl := by
  intro p e s m args below meth c H locs ls hC hR hS hl
  obtain ⟨hx, hb, hr, hml, hown, hts, -, -, hK, -⟩ := id hC
  have hP := xR_one hR hid
  rw [xent_obj hk] at hP
  exact va_get (Ts := xtb) (ci := ci) (v := v) (C := xCn ci) (T := xT ci) (N := xN ci) hx hb hts hc.2.1 hown hK.1 hP 0 rfl hc.1 k hf.1 (hts _ hf.2) (fun x h9 => h9) (by rw [← hv]; simp [hf.1]) hd (h p e s m args below meth c H locs ls hC hR hS hl)
theorem ev_getN {ix ci k o : Nat} {v : Value} (hc : xCl ci) (hf : xLn Y.1.cls ix ci k) (hk : xkd o = (0, ci)) (hid : o < n) (hv : xfv E.2.2.2 σ (xft ci k) o k = v) (hd : decode Y.2.1 pc = .ok (.getfield ix, 3)) (h : Ev E C Y (pc + 3) L (v :: st) σ n ce sl) : Ev E C Y pc L (.ref (E.2.2.2 + o) :: st) σ n ce sl := by
  intro p e s m args below meth c H locs ls hC hR hS hl
  obtain ⟨hx, hb, hr, hml, hown, hts, -, -, hK, -⟩ := id hC
  have hP := xR_one hR hid
  rw [xent_obj hk] at hP
  obtain ⟨hkN, host, hmem⟩ := hf
  exact va_getN (Ts := xtb) (ci := ci) (v := v) (C := xCn ci) (T := xT ci) (N := xN ci) hx hb hts hc.2.1 hown hK.1 hP 0 rfl hc.1 k hkN (va_Nw.use rfl (hK.2.1.1 _ hmem)) (fun x h9 => h9) (by rw [← hv]; simp [hkN]) hd (h p e s m args below meth c H locs ls hC hR hS hl)
/-- a field is written (not a final one) -/
theorem ev_putX {ix ci k o : Nat} {v : Value} {τ : xM} (hc : xCl ci) (hf : xLk Y.1.cls ix ci k) (hfin : (xT ci k).2.2.2 = false) (hk : xkd o = (0, ci)) (hid : o < n) (hn : narrow (xft ci k) v = v) (hfit : fits (xft ci k) v = true)
    (hself : ∀ j, j < xN ci → xfv E.2.2.2 τ (xft ci j) o j = if j = k then v else xfv E.2.2.2 σ (xft ci j) o j) (hoth : ∀ a, a ≠ o → xent E τ a = xent E σ a)
    (hd : decode Y.2.1 pc = .ok (.putfield ix, 3)) (h : Ev E C Y (pc + 3) L st τ n ce sl) : Ev E C Y pc L (v :: .ref (E.2.2.2 + o) :: st) σ n ce sl := by
  intro p e s m args below meth c H locs ls hC hR hS hl
  obtain ⟨hx, hb, hr, hml, hown, hts, -, -, hK, -⟩ := id hC
  have hP := xR_one hR hid
  rw [xent_obj hk] at hP
  have hap := va_apart (own := Y.1.cls) hts hc.2.1 (xft ci) hc.2.2.1 hc.2.2.2 hK.1 hc.1
  obtain ⟨r, h1, cell, q1, q2, q3, q4⟩ := hP 0 _ rfl
  have hr' : r = (xCn ci, xT ci, xN ci) := Option.some.inj (h1.symm.trans hc.1)
  subst hr'
  obtain ⟨hSl, hfc, kC, hkC, hkind⟩ := hK.1.1 ci _ hc.1
  obtain ⟨cf, kf, fi, f, hi, hsl⟩ := hSl k hf.1
  have hlay := hts _ (hc.2.1 _ (u_in_lay hf.1))
  unfold u_lay at hlay
  rw [if_neg (by rw [hfin]; decide)] at hlay
  have hst := (u_facts hfc hkC (u_lays hts hc.2.1 hf.1) hi).1
  have h6 := u_store hfc hkC hkind hlay hi (hc.2.2.1 k hf.1) hn hfit
  refine W.putK hx hb (f := f) ⟨hown, hts _ hf.2, ⟨_, _, _, hi⟩, hst⟩ (by rw [q2]; exact h6) q1 q3 (by rw [hsl]; exact k2_hasslot (q4 k hf.1)) rfl rfl hd fun H1 e1 e2 e3 => ?_
  rw [hsl] at e1 ⊢
  refine h p e s m args below meth c H1 _ ls hC (xR_set hR hid e2 e3 ?_ hoth) (hS.put e2 e3 (Nat.le_add_right _ _)) hl
  rw [xent_obj hk, xrange hself]
  exact ⟨_, hc.1, t_OB.to (V := updV (vp_V _) k v) ⟨_, e1, q2, q3, t_set q4 hap hf.1 v⟩ (fun j _ => vp_updV_set (by simpa using hf.1) v j)⟩
/-- a final field is written, in a constructor -/
theorem ev_putFX {ix ci k o : Nat} {v : Value} {τ : xM} (hc : xCl ci) (hf : xLk Y.1.cls ix ci k) (hfin : (xT ci k).2.2.2 = true) (hin : Y.1.name = "<init>") (hdecl : (xT ci k).1 = Y.1.cls) (hk : xkd o = (0, ci)) (hid : o < n) (hn : narrow (xft ci k) v = v) (hfit : fits (xft ci k) v = true)
    (hself : ∀ j, j < xN ci → xfv E.2.2.2 τ (xft ci j) o j = if j = k then v else xfv E.2.2.2 σ (xft ci j) o j) (hoth : ∀ a, a ≠ o → xent E τ a = xent E σ a)
    (hd : decode Y.2.1 pc = .ok (.putfield ix, 3)) (h : Ev E C Y (pc + 3) L st τ n ce sl) : Ev E C Y pc L (v :: .ref (E.2.2.2 + o) :: st) σ n ce sl := by
  intro p e s m args below meth c H locs ls hC hR hS hl
  obtain ⟨hx, hb, hr, hml, hown, hts, -, hnm, hK, -⟩ := id hC
  have hP := xR_one hR hid
  rw [xent_obj hk] at hP
  have hap := va_apart (own := Y.1.cls) hts hc.2.1 (xft ci) hc.2.2.1 hc.2.2.2 hK.1 hc.1
  obtain ⟨r, h1, cell, q1, q2, q3, q4⟩ := hP 0 _ rfl
  have hr' : r = (xCn ci, xT ci, xN ci) := Option.some.inj (h1.symm.trans hc.1)
  subst hr'
  obtain ⟨hSl, hfc, kC, hkC, hkind⟩ := hK.1.1 ci _ hc.1
  obtain ⟨cf, kf, fi, f, hi, hsl⟩ := hSl k hf.1
  have hlay := hts _ (hc.2.1 _ (u_in_lay hf.1))
  unfold u_lay at hlay
  rw [if_pos hfin] at hlay
  have hst := (u_facts hfc hkC (u_lays hts hc.2.1 hf.1) hi).1
  have hcf : m.cls = cf := by
    obtain ⟨_, _, c', _, _, _, -, -, hf', -, -, -, hown2, -⟩ := Cond.laysFinal_spec hlay
    have e1 : c' = cf := by have := hi.symm.trans hf'; simp at this; exact this.1.symm
    rw [hdecl] at hown2
    rw [← e1]; exact Option.some.inj (hown.symm.trans hown2)
  have h6 := u_fits hfc hkC hkind (Or.inr hlay) hi (hc.2.2.1 k hf.1) hn hfit
  refine W.putFinK hx hb hown (hts _ hf.2) hi hst hcf (hnm.trans hin) (by rw [q2]; exact h6) q1 q3 (by rw [hsl]; exact k2_hasslot (q4 k hf.1)) rfl rfl hd fun H1 e1 e2 e3 => ?_
  rw [hsl] at e1 ⊢
  refine h p e s m args below meth c H1 _ ls hC (xR_set hR hid e2 e3 ?_ hoth) (hS.put e2 e3 (Nat.le_add_right _ _)) hl
  rw [xent_obj hk, xrange hself]
  exact ⟨_, hc.1, t_OB.to (V := updV (vp_V _) k v) ⟨_, e1, q2, q3, t_set q4 hap hf.1 v⟩ (fun j _ => vp_updV_set (by simpa using hf.1) v j)⟩
theorem xself_I {z : Nat} {σ : xM} {ci o k : Nat} {x : Int32} (hv : ∀ τ : xM, xfv z τ (xft ci k) o k = .int (τ.1 o k)) : ∀ j, j < xN ci → xfv z (xwI σ o k x) (xft ci j) o j = if j = k then .int x else xfv z σ (xft ci j) o j := by
  intro j _
  by_cases h : j = k
  · subst h; rw [if_pos rfl, hv]; simp [xwI, xup_self]
  · rw [if_neg h, xfv_wI h]
theorem xself_R {z : Nat} {σ : xM} {ci o k : Nat} {x : Option Nat} (hv : ∀ τ : xM, xfv z τ (xft ci k) o k = xrf z (τ.2.2 o k)) : ∀ j, j < xN ci → xfv z (xwR σ o k x) (xft ci j) o j = if j = k then xrf z x else xfv z σ (xft ci j) o j := by
  intro j _
  by_cases h : j = k
  · subst h; rw [if_pos rfl, hv]; simp [xwR, xup_self]
  · rw [if_neg h, xfv_wR h]
theorem ev_putI {ix ci k o : Nat} {x : Int32} (hc : xCl ci) (hf : xLk Y.1.cls ix ci k) (hfin : (xT ci k).2.2.2 = false) (hk : xkd o = (0, ci)) (hid : o < n) (hn : narrow (xft ci k) (.int x) = .int x) (hfit : fits (xft ci k) (.int x) = true) (hv : ∀ τ : xM, xfv E.2.2.2 τ (xft ci k) o k = .int (τ.1 o k))
    (hd : decode Y.2.1 pc = .ok (.putfield ix, 3)) (h : Ev E C Y (pc + 3) L st (xwI σ o k x) n ce sl) : Ev E C Y pc L (.int x :: .ref (E.2.2.2 + o) :: st) σ n ce sl :=
  ev_putX hc hf hfin hk hid hn hfit (xself_I hv) (fun a ha => xent_wI ha) hd h
theorem ev_putFI {ix ci k o : Nat} {x : Int32} (hc : xCl ci) (hf : xLk Y.1.cls ix ci k) (hfin : (xT ci k).2.2.2 = true) (hin : Y.1.name = "<init>") (hdecl : (xT ci k).1 = Y.1.cls) (hk : xkd o = (0, ci)) (hid : o < n) (hn : narrow (xft ci k) (.int x) = .int x) (hfit : fits (xft ci k) (.int x) = true) (hv : ∀ τ : xM, xfv E.2.2.2 τ (xft ci k) o k = .int (τ.1 o k))
    (hd : decode Y.2.1 pc = .ok (.putfield ix, 3)) (h : Ev E C Y (pc + 3) L st (xwI σ o k x) n ce sl) : Ev E C Y pc L (.int x :: .ref (E.2.2.2 + o) :: st) σ n ce sl :=
  ev_putFX hc hf hfin hin hdecl hk hid hn hfit (xself_I hv) (fun a ha => xent_wI ha) hd h
theorem ev_putR {ix ci k o x : Nat} (hc : xCl ci) (hf : xLk Y.1.cls ix ci k) (hfin : (xT ci k).2.2.2 = false) (hk : xkd o = (0, ci)) (hid : o < n) (hn : ∀ a, narrow (xft ci k) (.ref a) = .ref a) (hfit : ∀ a, fits (xft ci k) (.ref a) = true) (hv : ∀ τ : xM, xfv E.2.2.2 τ (xft ci k) o k = xrf E.2.2.2 (τ.2.2 o k))
    (hd : decode Y.2.1 pc = .ok (.putfield ix, 3)) (h : Ev E C Y (pc + 3) L st (xwR σ o k (some x)) n ce sl) : Ev E C Y pc L (.ref (E.2.2.2 + x) :: .ref (E.2.2.2 + o) :: st) σ n ce sl :=
  ev_putX hc hf hfin hk hid (hn _) (hfit _) (xself_R (x := some x) hv) (fun a ha => xent_wR ha) hd h
theorem ev_putFR {ix ci k o x : Nat} (hc : xCl ci) (hf : xLk Y.1.cls ix ci k) (hfin : (xT ci k).2.2.2 = true) (hin : Y.1.name = "<init>") (hdecl : (xT ci k).1 = Y.1.cls) (hk : xkd o = (0, ci)) (hid : o < n) (hn : ∀ a, narrow (xft ci k) (.ref a) = .ref a) (hfit : ∀ a, fits (xft ci k) (.ref a) = true) (hv : ∀ τ : xM, xfv E.2.2.2 τ (xft ci k) o k = xrf E.2.2.2 (τ.2.2 o k))
    (hd : decode Y.2.1 pc = .ok (.putfield ix, 3)) (h : Ev E C Y (pc + 3) L st (xwR σ o k (some x)) n ce sl) : Ev E C Y pc L (.ref (E.2.2.2 + x) :: .ref (E.2.2.2 + o) :: st) σ n ce sl :=
  ev_putFX hc hf hfin hin hdecl hk hid (hn _) (hfit _) (xself_R (x := some x) hv) (fun a ha => xent_wR ha) hd h
end EVH
