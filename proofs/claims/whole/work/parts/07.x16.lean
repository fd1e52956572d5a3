/-! A call over a deeper stack (up to 16 words below). -/
section EVC16
variable {E : xE} {C : xC} {Y : xY} {pc : Nat} {L : List (Nat × Value)} {st : List Value} {σ : xM} {n ce sl : Nat}
theorem ev_callV16 {Y' : xY} {QQ : xP} {d mc ms ix ci o : Nat} {As rest : List Value} (np : Nat) (hM : xCon E d Y' mc ms (.ref (E.2.2.2 + o) :: As) σ n QQ) (hY : xMy Y' np) (hw : Cond.methodLink Y.1.cls ix Y'.1 ∈ xtb ∧ Cond.instanceMethod Y'.1 ∈ xtb ∧ Cond.selects (xCn ci) Y'.1 Y'.1 ∈ xtb) (hc : xCl ci) (hk : xkd o = (0, ci)) (ho : o < n)
    (hn : As.length = np) (hst : st = As.reverse ++ .ref (E.2.2.2 + o) :: rest) (hcat : (rest.map fun v => v.category).sum ≤ 16) (hfr : d + 1 ≤ C.1.frames) (hlo : Y'.2.2.1 + 27 + 80 * d ≤ C.1.locals) (hce : ce + mc ≤ C.1.cells) (hsl : sl + ms ≤ C.1.slots)
    (hd : decode Y.2.1 pc = .ok (.invokevirtual ix, 3)) (h : ∀ (v : Option Value) (τ : xM) (n' : Nat), QQ v τ n' → Ev E C Y (pc + 3) L (v.toList ++ rest) τ n' (ce + mc) (sl + ms)) : Ev E C Y pc L st σ n ce sl := by
  intro p e s m args below meth c H locs ls hC hR hS hl
  obtain ⟨hx, hb, hr, hml, hown, hts, -, -, hK, -⟩ := id hC
  have hP := xR_one hR ho
  rw [xent_obj hk] at hP
  refine xCont (QQ := QQ) (mc := mc) (ms := ms) (av := .ref (E.2.2.2 + o) :: As) (rest := rest) ?_ hC hS hl h
  have hB : Back E.1 C.1 p e below s args Y'.1 3 16 (PreOf C.1 mc ms (xPc E σ n (.ref (E.2.2.2 + o) :: As))) (PostOf (xQc E QQ) mc ms (xA E)) :=
    back_of (bytes := Y'.2.1) (maxL := Y'.2.2.1) (ret := Y'.2.2.2) hM xPc_blind rfl rfl hfr (by show 16 + (Y'.2.2.1 + 11) + 80 * d ≤ _; omega) (xws_warm hts hY) List.mem_cons_self (fun a' U hW => word_at hW (Or.inl (by first | rfl | simp [Cond.onTables, Cond.keeps, Cond.steady])) (hts _ hY.2.1))
  obtain ⟨cellB, hcB, hoB, hclB⟩ := va_recv hK.1 hP hc.1 (q0 := 0) rfl
  intro T hT X
  obtain ⟨v, vm₁, ⟨U', l2, c2, s2⟩, hW₁, X', ⟨g', mk, t, L1, e1, e2, hq, h1, hL, h2, h3⟩, st1⟩ := callV X hx (C := xCn ci) (bytes := Y'.2.1) (maxL := Y'.2.2.1) (ret := Y'.2.2.2) hown (hts _ hw.1) (hts _ hw.2.1) (hts _ hw.2.2) (hts _ hY.1) hY.2.2.1 hB (by rw [hT]; exact hcB) hoB hclB (g := F0 m pc ls st) rfl (hl.1.trans hml.symm) (argsL := As) (rest := rest) (fun sig h => hn.trans (xarity hY sig h)) hst (by show 2 * 0 + _ ≤ 16; omega) (by rw [hb]; exact hd)
    (fun vm₁ hW₁ => ⟨hce, hsl, rfl, by show xR E σ n T.heap; rw [hT]; exact hR, xK_warm (U := T.setVm vm₁) hW₁ hK⟩)
  dsimp only [Pt.U, Pt.locs, Pt.cells, Pt.slots] at X' e1 e2 h1 h2 h3 st1
  subst h1; subst h2; subst h3
  exact ⟨v, (T.setVm vm₁).calling g' mk (Value.ref (E.2.2.2 + o) :: As).toArray, t, U', L1, hT, X', hL, e1, e2, hq, st1⟩
theorem xlo16 {mL H d : Nat} (h1 : mL ≤ 53) (h2 : H + 1 ≤ d) : mL + 27 + 80 * H ≤ 80 * d := by omega
end EVC16
