/-! how the program reads a piece -/
theorem c_ne {B : xm} {R : xr} {o : Nat} {T : Int → Int} {N : Int} (hB : BOK B R o T N) (p : Int) {c : Int} (hc : 0 ≤ c ∧ c ≤ 255) (h : ¬ sgT T N p = c) : ¬ j32 (sgT T N p) = j32 c := fun e => h ((j_eq (by have := sgT_b hB p; omega) (by omega)).mp e)
theorem xp4 {B : xm} {o : Nat} {p s : Int} {μ : xm} (h : CS B o p s μ) : xpI μ iC_reader 4 (μ.1 iC_reader 4 + 1) = wr μ iC_reader 4 (p + 1) := by
  rw [j_rd, show gi μ iC_reader ((4 : Nat) : Int) = p from h.2.1, show (1 : Int32) = j32 1 from rfl, j_add]; rfl
theorem ccmp {B : xm} {R : xr} {o : Nat} {T : Int → Int} {N op : Int} (hB : BOK B R o T N) (hop : 0 ≤ op ∧ op ≤ 6) : GoodR bo B R o N (fun p0 μ R => xbd (rX1_readSum 8 p0 μ R) fun q2 => xbd (fX1_sign q2) fun q3 => if q3 = 60 then (fX1_readPiece_j80 p0 R q2 q3) else (if q3 = 62 then (fX1_readPiece_j80 p0 R q2 q3) else (if q3 = 61 then (fX1_readPiece_j80 p0 R q2 q3) else (xbd (fX1_stop 1 q2) fun q8 => some q8)))) (pCmp (sgT T N)) op (2 * (6 - op) + 4) := by
  intro p s μ h hs hsp hp
  have hN := hB.2.2.2.1
  have hG := csums hB 8 op hop.1 hop.2 (by omega)
  have hD := dsums (op := op) hB 7
  unfold pCmp
  obtain ⟨ρ, r1, r2⟩ := hG p s μ h hs hsp hp
  dsimp only
  rw [r1, xbd_e]
  cases hr : rSum (sgT T N) 8 op p with
  | inl ev =>
    rw [hr] at r2
    rw [d_sign r2, xbd_e, if_neg (by decide), if_neg (by decide), if_neg (by decide), d_stop r2, xbd_e]
    exact xok_some.mpr r2
  | inr ev =>
    obtain ⟨q, a⟩ := ev
    rw [hr] at r2
    obtain ⟨s3, g1, g2, g3, g4, g5, g6⟩ := r2
    dsimp only at g1 g2 g3 g4 g5 g6 ⊢
    have hsq := sgT_b hB q
    rw [e_sign hB g1 (by omega), xbd_e]
    by_cases cm : isCm (sgT T N q)
    · have hq := hsq.2.2 (by unfold isCm at cm; omega)
      obtain ⟨w1, w2⟩ := CS.go hB g1 hq
      have e : ∀ X : Option xm, (if j32 (sgT T N q) = 60 then (fX1_readPiece_j80 (j32 op) R ρ (j32 (sgT T N q))) else (if j32 (sgT T N q) = 62 then (fX1_readPiece_j80 (j32 op) R ρ (j32 (sgT T N q))) else (if j32 (sgT T N q) = 61 then (fX1_readPiece_j80 (j32 op) R ρ (j32 (sgT T N q))) else X))) = fX1_readPiece_j80 (j32 op) R ρ (j32 (sgT T N q)) := by
        intro X
        rcases cm with c | c | c <;> rw [c]
        · rw [if_pos (by decide)]
        · rw [if_neg (by decide), if_pos (by decide)]
        · rw [if_neg (by decide), if_neg (by decide), if_pos (by decide)]
      rw [e, if_pos cm]
      unfold fX1_readPiece_j80
      rw [xlt_e, xp4 g1]
      obtain ⟨τ, t1, t2⟩ := hG (q + 1) s3 _ w1 (by omega) (by omega) (by omega)
      rw [w2] at t2
      rw [t1, xbd_e, hB.1, xbd_e]
      cases hr2 : rSum (sgT T N) 8 op (q + 1) with
      | inl ev =>
        rw [hr2] at t2
        obtain ⟨ν, e1, e2⟩ := d_emit hB t2 (j32 (sgT T N q))
        rw [e1, xbd_e]
        exact xok_some.mpr e2
      | inr ev =>
        obtain ⟨r, b⟩ := ev
        rw [hr2] at t2
        obtain ⟨s4, k1, k2, k3, k4, k5, k6⟩ := t2
        dsimp only at k1 k2 k3 k4 k5 k6 ⊢
        rw [e_emit k1 (by omega), xbd_e]
        obtain ⟨b1, b2, b3⟩ := CS.emits hB k1 (w := sgT T N q) (by omega) (by omega)
        have hj : ∀ y : Int, y ≤ s3 → ∀ z, 0 ≤ z → z < y → gi (em τ o s4 (sgT T N q)) (o + 5) z = gi ρ (o + 5) z := fun y hy z z0 z1 => (b2 z z0 (by omega)).trans (k5 z z0 (by omega))
        exact xok_some.mpr ⟨s4 + 1, b1, by omega, by show s4 + 1 - s ≤ r - p; omega, k4, fun z z0 z1 => (hj s (by omega) z z0 z1).trans (g5 z z0 z1), (g6.keep (hj s3 (by omega)) (by omega)).cm (k6.keep b2 (by omega)) cm b3 (by show 2 * (6 - op) + 3 ≤ _; omega) (by show 2 * (6 - op) + 3 + 1 ≤ _; omega)⟩
    · rw [if_neg cm]
      have n1 : ¬ sgT T N q = 60 := fun c => cm (Or.inl c)
      have n2 : ¬ sgT T N q = 62 := fun c => cm (Or.inr (Or.inl c))
      have n3 : ¬ sgT T N q = 61 := fun c => cm (Or.inr (Or.inr c))
      obtain ⟨ν, e, hd⟩ := e_stop (k := 1) (by omega) g1
      rw [if_neg (show ¬ j32 (sgT T N q) = 60 from c_ne hB q (by omega) n1), if_neg (show ¬ j32 (sgT T N q) = 62 from c_ne hB q (by omega) n2), if_neg (show ¬ j32 (sgT T N q) = 61 from c_ne hB q (by omega) n3), show (1 : Int32) = j32 1 from rfl, e, xbd_e]
      exact xok_some.mpr hd
theorem xbd_id {α : Type} (x : Option α) : (xbd x fun q => some q) = x := by cases x <;> rfl
theorem cpie {B : xm} {R : xr} {o : Nat} {T : Int → Int} {N op : Int} (hB : BOK B R o T N) (hop : 0 ≤ op ∧ op ≤ 6) {gC gP : Int32 → xm → xr → Option xm} {Ch Pi : Int → Int → Rs Pc} (hC : op < 6 → GoodR bo B R o N gC Ch (op + 1) (2 * (6 - op) + 4)) (hP : op < 6 → GoodR bo B R o N gP Pi (op + 1) (2 * (6 - op) + 4)) : GoodR bo B R o N (fX1_readPiece gC (fX1_readDenied gP)) (pPie (sgT T N) Ch Pi) op (2 * (6 - op) + 4) := by
  intro p s μ h hs hsp hp
  have hN := hB.2.2.2.1
  have hsg := sgT_b hB p
  have isg := e_sign hB h (by omega)
  unfold fX1_readPiece pPie
  rw [isg, xbd_e]
  by_cases c33 : sgT T N p = 33
  · have hpN := hsg.2.2 (by omega)
    obtain ⟨w1, w2⟩ := CS.go hB h hpN
    rw [if_pos (by rw [c33]; rfl), if_pos c33, xbd_id]
    unfold fX1_readDenied
    by_cases c6 : op < 6
    · rw [if_pos c6, e_opens hB h hpN ⟨hop.1, c6⟩, xbd_e]
      rw [if_neg (show ¬ (j32 1, wr μ iC_reader 4 (p + 1)).1 = 0 from (by decide : ¬ (j32 1 = 0)))]
      obtain ⟨ρ, r1, r2⟩ := hP c6 (p + 1) s _ w1 hs (by omega) (by omega)
      rw [w2] at r2
      rw [show j32 op + 1 = j32 (op + 1) from j_add op 1]
      rw [r1, xbd_e, hB.1, xbd_e]
      cases hr : Pi (op + 1) (p + 1) with
      | inl ev =>
        rw [hr] at r2
        obtain ⟨ν, e1, e2⟩ := d_emit hB r2 33
        rw [e1, xbd_e]
        exact xok_some.mpr e2
      | inr ev =>
        obtain ⟨q, a⟩ := ev
        rw [hr] at r2
        obtain ⟨s3, g1, g2, g3, g4, g5, g6⟩ := r2
        dsimp only at g1 g2 g3 g4 g5 g6 ⊢
        rw [show (33 : Int32) = j32 33 from rfl, e_emit g1 (by omega), xbd_e]
        obtain ⟨b1, b2, b3⟩ := CS.emits hB g1 (w := 33) (by omega) (by omega)
        exact xok_some.mpr ⟨s3 + 1, b1, by omega, by show s3 + 1 - s ≤ q - p; omega, g4, fun z z0 z1 => (b2 z z0 (by omega)).trans (g5 z z0 z1), (g6.keep b2 (by omega)).not b3⟩
    · rw [if_neg c6]
      obtain ⟨ν, e, hd⟩ := e_opens5 (op := op) h (by omega)
      rw [e, xbd_e, if_pos (show (j32 0, ν).1 = 0 from rfl)]
      exact xok_some.mpr hd
  · rw [if_neg (show ¬ j32 (sgT T N p) = 33 from c_ne hB p (by omega) c33), if_neg c33]
    by_cases c40 : sgT T N p = 40
    · have hpN := hsg.2.2 (by omega)
      obtain ⟨w1, w2⟩ := CS.go hB h hpN
      rw [if_pos (by rw [c40]; rfl), if_pos c40]
      by_cases c6 : op < 6
      · rw [if_pos c6, e_opens hB h hpN ⟨hop.1, c6⟩, xbd_e]
        rw [if_neg (show ¬ (j32 1, wr μ iC_reader 4 (p + 1)).1 = 0 from (by decide : ¬ (j32 1 = 0)))]
        obtain ⟨ρ, r1, r2⟩ := hC c6 (p + 1) s _ w1 hs (by omega) (by omega)
        rw [w2] at r2
        rw [show j32 op + 1 = j32 (op + 1) from j_add op 1]
        rw [r1, xbd_e]
        cases hr : Ch (op + 1) (p + 1) with
        | inl ev =>
          rw [hr] at r2
          rw [show (41 : Int32) = j32 41 from rfl, d_pass r2 (by omega), xbd_e]
          exact xok_some.mpr r2
        | inr ev =>
          obtain ⟨q, a⟩ := ev
          rw [hr] at r2
          obtain ⟨s3, g1, g2, g3, g4, g5, g6⟩ := r2
          dsimp only at g1 g2 g3 g4 g5 g6 ⊢
          obtain ⟨ν, e1, e2⟩ := e_pass (k := 41) hB g1 (by omega) (by omega)
          rw [show (41 : Int32) = j32 41 from rfl, e1, xbd_e]
          refine xok_some.mpr ?_
          by_cases c41 : sgT T N q = 41
          · rw [if_pos c41] at e2 ⊢
            have hq := (sgT_b hB q).2.2 (by omega)
            obtain ⟨w3, w4⟩ := CS.go hB g1 hq
            subst e2
            exact ⟨s3, w3, g2, by show s3 - s ≤ q + 1 - p; omega, by show q + 1 ≤ N; omega, fun z z0 z1 => by rw [w4]; exact g5 z z0 z1, by rw [w4]; exact g6⟩
          · rw [if_neg c41] at e2 ⊢
            exact e2
      · rw [if_neg c6]
        obtain ⟨ν, e, hd⟩ := e_opens5 (op := op) h (by omega)
        rw [e, xbd_e, if_pos (show (j32 0, ν).1 = 0 from rfl)]
        exact xok_some.mpr hd
    · rw [if_neg (show ¬ j32 (sgT T N p) = 40 from c_ne hB p (by omega) c40), if_neg c40]
      exact ccmp hB hop p s μ h hs hsp hp
theorem cpies {B : xm} {R : xr} {o : Nat} {T : Int → Int} {N : Int} (hB : BOK B R o T N) : ∀ (D : Nat) (op : Int), 0 ≤ op → op ≤ 6 → 7 ≤ op + D → GoodR bo B R o N (rX1_readPiece D) (rPie (sgT T N) D) op (2 * (6 - op) + 4) := by
  intro D
  induction D with
  | zero => intro op h0 h6 h; omega
  | succ D ih =>
    intro op h0 h6 h
    have hp : op < 6 → GoodR bo B R o N (rX1_readPiece D) (rPie (sgT T N) D) (op + 1) (2 * (6 - (op + 1)) + 4) := fun c => ih (op + 1) (by omega) (by omega) (by omega)
    refine cpie hB ⟨h0, h6⟩ (fun c => ?_) (fun c => ?_)
    · have := ccho hB (by omega) (hp c)
      rw [show 2 * (6 - (op + 1)) + 4 + 2 = 2 * (6 - op) + 4 by omega] at this
      exact this
    · intro p s μ h1 h2 h3 h4
      refine xok_mono (hp c p s μ h1 h2 h3 h4) ?_
      intro ν hν
      cases hr : rPie (sgT T N) D (op + 1) p with
      | inl ev => rw [hr] at hν; exact hν
      | inr ev =>
        rw [hr] at hν
        obtain ⟨s3, g1, g2, g3, g4, g5, g6⟩ := hν
        exact ⟨s3, g1, g2, g3, g4, g5, g6.mono (by omega)⟩
theorem cchos {B : xm} {R : xr} {o : Nat} {T : Int → Int} {N : Int} (hB : BOK B R o T N) : GoodR bo B R o N (rX1_readChoice 8) (pCho (sgT T N) (rPie (sgT T N) 8)) 1 16 :=
  ccho hB (by omega) (cpies hB 8 1 (by omega) (by omega) (by omega))
theorem dpie {B : xm} {R : xr} {o : Nat} {T : Int → Int} {N : Int} (hB : BOK B R o T N) (D : Nat) (op : Int) : DeadR B R o (rX1_readPiece (D + 1)) op := by
  intro f q μ h
  show xok (fX1_readPiece _ _ (j32 op) μ R) _
  unfold fX1_readPiece
  rw [d_sign h, xbd_e, if_neg (by decide), if_neg (by decide)]
  obtain ⟨ρ, r1, r2⟩ := dsums hB 7 op f q μ h
  rw [r1, xbd_e, d_sign r2, xbd_e, if_neg (by decide), if_neg (by decide), if_neg (by decide), d_stop r2, xbd_e]
  exact xok_some.mpr r2
theorem dchos {B : xm} {R : xr} {o : Nat} {T : Int → Int} {N : Int} (hB : BOK B R o T N) (op : Int) : DeadR B R o (rX1_readChoice 8) op := dcho hB (dpie hB 7 op)
