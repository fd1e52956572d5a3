/-! a clause, the plain model -/
def RLw (B μ : xm) : Prop := ∀ (a : Nat) (z : Int), 0 ≤ z → ¬(a = iM ∧ 12 ≤ z ∧ z ≤ 19 ∧ z ≠ 13) → ¬(69 ≤ a ∧ a ≤ 74) → gi μ a z = gi B a z
def RWL (B : xm) (f q : Int) (μ : xm) : Prop := RLw B μ ∧ gi μ iM 14 = -1000 * f - q
theorem RLw.rf {μ : xm} : RLw μ μ := fun _ _ _ _ _ => rfl
theorem RLw.rb {B μ ν : xm} (h : RLw B μ) (g : RB μ ν) : RLw B ν := fun a z h0 h1 h2 =>
  (g a z h0 (fun c => h1 ⟨c.1, by omega⟩) (by rintro rfl; exact h2 ⟨by decide, by decide⟩) (by rintro rfl; exact h2 ⟨by decide, by decide⟩)).trans (h a z h0 h1 h2)
theorem RLw.wrs {B μ : xm} (h : RLw B μ) {z v : Int} (hz : 12 ≤ z ∧ z ≤ 19 ∧ z ≠ 13) : RLw B (wr μ iM z v) := by
  intro a y h0 h1 h2
  by_cases c : a = iM
  · subst c
    rw [gi_wr_z ⟨by omega, h0, fun e => h1 ⟨rfl, by omega⟩⟩]; exact h _ y h0 h1 h2
  · rw [gi_wr_o c]; exact h _ y h0 h1 h2
theorem RLw.wra {B μ : xm} (h : RLw B μ) {b : Nat} (hb : 69 ≤ b ∧ b ≤ 74) {z v : Int} : RLw B (wr μ b z v) := by
  intro a y h0 h1 h2
  rw [gi_wr_o (by omega)]; exact h _ y h0 h1 h2
theorem RWL.of {B μ ν : xm} {f q : Int} (h : RLw B μ) (g : RW μ f q ν) : RWL B f q ν := ⟨h.rb g.1, g.2⟩
theorem ROK.rlw {B μ : xm} {T : Int → Int} {N : Int} (hB : ROK B T N) (h : RLw B μ) : ROK μ T N := by
  refine ⟨(h iM 13 (by omega) (by omega) (by decide)).trans hB.1, hB.2.1, fun z a b => ?_⟩
  rw [h iM_tape z a (by rintro ⟨c, _⟩; exact absurd c (by decide)) (by decide)]
  exact hB.2.2 z a b
def KRw (B : xm) (N p : Int) (ls : List Cl) (μ : xm) : Prop := RLw B μ ∧ gi μ iM 12 = p ∧ (0 ≤ p ∧ p ≤ N) ∧ ∃ s, gi μ iM 16 = s ∧ (0 ≤ s ∧ s ≤ p) ∧ gi μ iM 18 = ls.length ∧ ls.length ≤ 14 ∧ ∀ (i : Nat) (h : i < ls.length), gi μ iM_saidLetter i = ls[i].1 ∧ SegR (gi μ iM_said) (gi μ iM_saidFrom i) (gi μ iM_saidHalf i) ls[i].2.1 ∧ SegR (gi μ iM_said) (gi μ iM_saidHalf i) (gi μ iM_saidTo i) (bo ls[i].2.2) ∧ gi μ iM_saidTo i ≤ s
theorem rcla {B μ : xm} {T : Int → Int} {N p : Int} {ls : List Cl} (hB : ROK B T N) (hK : KRw B N p ls μ) : xok (fX12_readsClause μ) (fun v => match pCla (sgT T N) ls.length p with | .inl e => v.1 = j32 0 ∧ RWL B e.1 e.2 v.2 | .inr x => v.1 = j32 1 ∧ p < x.1 ∧ KRw B N x.1 (ls ++ [x.2]) v.2) := by
  obtain ⟨hL, h12, hp, s, h16, hs, h18, hln, hcl⟩ := hK
  have hN := hB.2.1
  have hBμ := hB.rlw hL
  have hsg := sgR_b hB p
  have ihere := r_here hBμ RB.rf h12 (by omega)
  have wrongs : ∀ k, 0 ≤ k ∧ k ≤ 10 → ∃ ν, fX12_wrongAt (j32 k) (j32 p) μ = some (j32 0, ν) ∧ RWL B k p ν := fun k hk => by
    obtain ⟨ν, e, hd⟩ := r_wrong (B := μ) RB.rf (f := k) (p := p) hk (by omega)
    exact ⟨ν, e, RWL.of hL hd⟩
  unfold fX12_readsClause pCla
  rw [ihere, xbd_e]
  by_cases il : isLt (sgT T N p)
  · have hpN := hsg.2.2 (by unfold isLt at il; omega)
    have e : ∀ X : Option (Int32 × xm), (if j32 (sgT T N p) = 111 then (fX12_readsClause_j33 μ (j32 (sgT T N p))) else (if j32 (sgT T N p) = 112 then (fX12_readsClause_j33 μ (j32 (sgT T N p))) else (if j32 (sgT T N p) = 108 then (fX12_readsClause_j33 μ (j32 (sgT T N p))) else X))) = fX12_readsClause_j33 μ (j32 (sgT T N p)) := by
      intro X
      rcases il with c | c | c <;> rw [c]
      · rw [if_pos (by decide)]
      · rw [if_neg (by decide), if_pos (by decide)]
      · rw [if_neg (by decide), if_neg (by decide), if_pos (by decide)]
    rw [e, if_pos il]
    unfold fX12_readsClause_j33
    rw [j_rd, show gi μ iM ((18 : Nat) : Int) = (ls.length : Int) from h18]
    by_cases c14 : (ls.length : Int) < 14
    · rw [if_neg (show ¬ j32 (ls.length : Int) = 14 from fun d => by have := (j_eq (b := 14) (by omega) (by omega)).mp d; omega), if_pos c14]
      have hxb : 0 ≤ sgT T N p ∧ sgT T N p ≤ 255 := by rcases il with c | c | c <;> omega
      obtain ⟨x, hx⟩ : ∃ x, x = sgT T N p := ⟨_, rfl⟩
      rw [← hx] at hxb ⊢
      obtain ⟨k, hk⟩ : ∃ k : Int, k = ls.length := ⟨_, rfl⟩
      rw [← hk] at h18 c14 ⊢
      have hk0 : 0 ≤ k := by omega
      have n1 : iM = 61 := rfl
      have n2 : iM_said = 69 := rfl
      have n3 : iM_waits = 70 := rfl
      have n4 : iM_saidLetter = 71 := rfl
      have n5 : iM_saidFrom = 72 := rfl
      have n6 : iM_saidHalf = 73 := rfl
      have n7 : iM_saidTo = 74 := rfl
      obtain ⟨μ6, hμ6⟩ : ∃ μ6, μ6 = wr (wr (wr (wr (wr μ iM_saidLetter k x) iM 12 (p + 1)) iM_saidFrom k s) iM 15 0) iM 17 0 := ⟨_, rfl⟩
      have f6 : ∀ a : Nat, a ≠ iM → a ≠ iM_saidLetter → a ≠ iM_saidFrom → gi μ6 a = gi μ a := fun a b c d => by rw [hμ6, gi_wr_f b, gi_wr_f b, gi_wr_f d, gi_wr_f b, gi_wr_f c]
      have L6 : RLw B μ6 := by
        rw [hμ6]; exact ((((hL.wra (by decide)).wrs (by omega)).wra (by decide)).wrs (by omega)).wrs (by omega)
      have R6 : RgS μ6 (p + 1) 0 0 s μ6 := by
        refine ⟨RB.rf, ?_, ?_, ?_, ?_⟩ <;> rw [hμ6]
        · rw [gi_wr_z (by omega), gi_wr_z (by omega), gi_wr_o (by decide), gi_wr (by omega)]
        · rw [gi_wr_z (by omega), gi_wr (by omega)]
        · rw [gi_wr (by omega)]
        · rw [gi_wr_z (by omega), gi_wr_z (by omega), gi_wr_o (by decide), gi_wr_z (by omega), gi_wr_o (by decide)]; exact h16
      have B6 := hB.rlw L6
      rw [j_sI (by omega), xbd_e, j_rd, show gi (wr μ iM_saidLetter k x) iM ((12 : Nat) : Int) = p from by (rw [gi_wr_o (by decide)]; exact h12), show (1 : Int32) = j32 1 from rfl, j_add, show xpI (wr μ iM_saidLetter k x) iM 12 (j32 (p + 1)) = wr (wr μ iM_saidLetter k x) iM 12 (p + 1) from rfl, xlt_e]
      have a18 : gi (wr (wr μ iM_saidLetter k x) iM 12 (p + 1)) iM ((18 : Nat) : Int) = k := by
        show gi (wr (wr μ iM_saidLetter k x) iM 12 (p + 1)) iM 18 = k
        rw [gi_wr_z (by omega), gi_wr_o (by decide)]; exact h18
      have a16 : gi (wr (wr μ iM_saidLetter k x) iM 12 (p + 1)) iM ((16 : Nat) : Int) = s := by
        show gi (wr (wr μ iM_saidLetter k x) iM 12 (p + 1)) iM 16 = s
        rw [gi_wr_z (by omega), gi_wr_o (by decide)]; exact h16
      rw [j_rd _ iM 18, a18, j_rd _ iM 16, a16, j_sI (by omega), xbd_e, xlt_e, xlt_e, show xpI (xpI (wr (wr (wr μ iM_saidLetter k x) iM 12 (p + 1)) iM_saidFrom k s) iM 15 0) iM 17 0 = μ6 from hμ6.symm, xok_bd]
      refine r_sumTop B6 R6 (by omega) (by omega) (by omega) (by omega) (fun c => by omega) _ ?_
      cases hr : rSum (sgT T N) 8 0 (p + 1) with
      | inl ev =>
        intro ν hν
        show xok (if j32 0 = 0 then _ else _) _
        rw [if_pos (show j32 0 = 0 from rfl)]
        exact xok_some.mpr ⟨rfl, RWL.of L6 hν⟩
      | inr ev =>
        obtain ⟨q, φ⟩ := ev
        dsimp only
        intro ν1 s1 g1 g2 g3 g4 g5 g6
        rw [if_neg (show ¬ j32 1 = 0 from by decide)]
        have L7 : RLw B ν1 := L6.rb g1.1
        have b18 : gi ν1 iM ((18 : Nat) : Int) = k := by
          show gi ν1 iM 18 = k
          rw [g1.1 iM 18 (by omega) (by omega) (by decide) (by decide), hμ6, gi_wr_z (by omega), gi_wr_z (by omega), gi_wr_o (by decide), gi_wr_z (by omega), gi_wr_o (by decide)]; exact h18
        obtain ⟨μ8, hμ8⟩ : ∃ μ8, μ8 = wr ν1 iM_saidHalf k s1 := ⟨_, rfl⟩
        have L8 : RLw B μ8 := by rw [hμ8]; exact L7.wra (by decide)
        have R8 : RgS μ8 q 0 0 s1 μ8 := by
          refine ⟨RB.rf, ?_, ?_, ?_, ?_⟩ <;> rw [hμ8, gi_wr_o (by decide)]
          · exact g1.2.1
          · exact g1.2.2.1
          · exact g1.2.2.2.1
          · exact g1.2.2.2.2
        have B8 := hB.rlw L8
        rw [j_rd ν1 iM 18, b18, j_rd ν1 iM 16, show gi ν1 iM ((16 : Nat) : Int) = s1 from g1.2.2.2.2, j_sI (by omega), xbd_e, ← hμ8, xok_bd]
        refine r_cond B8 R8 (by omega) (by omega) ?_
        by_cases c40 : sgT T N q = 40
        · rw [if_pos c40, if_pos c40]
          cases hr2 : pCho (sgT T N) (rPie (sgT T N) 8) 1 (q + 1) with
          | inl ev =>
            intro ν hν
            show xok (if j32 0 = 0 then _ else _) _
            rw [if_pos (show j32 0 = 0 from rfl)]
            exact xok_some.mpr ⟨rfl, RWL.of L8 hν⟩
          | inr ev =>
            obtain ⟨r, χ⟩ := ev
            dsimp only
            by_cases c41 : sgT T N r = 41
            · rw [if_pos c41, if_pos c41]
              intro ν2 s2 k1 k2 k3 k4 k5 k6
              rw [if_neg (show ¬ j32 1 = 0 from by decide)]
              have d18 : gi ν2 iM ((18 : Nat) : Int) = k := by
                show gi ν2 iM 18 = k
                rw [k1.1 iM 18 (by omega) (by omega) (by decide) (by decide), hμ8, gi_wr_o (by decide)]; exact b18
              have d18' : gi (wr ν2 iM_saidTo k s2) iM ((18 : Nat) : Int) = k := by rw [gi_wr_o (by decide)]; exact d18
              rw [j_rd ν2 iM 18, d18, j_rd ν2 iM 16, show gi ν2 iM ((16 : Nat) : Int) = s2 from k1.2.2.2.2, j_sI (by omega), xbd_e, j_rd _ iM 18, d18', j_add, show xpI (wr ν2 iM_saidTo k s2) iM 18 (j32 (k + 1)) = wr (wr ν2 iM_saidTo k s2) iM 18 (k + 1) from rfl, xlt_e]
              obtain ⟨ω, hω⟩ : ∃ ω, ω = wr (wr ν2 iM_saidTo k s2) iM 18 (k + 1) := ⟨_, rfl⟩
              rw [← hω]
              have v69 : gi ω iM_said = gi ν2 iM_said := by rw [hω, gi_wr_f (by decide), gi_wr_f (by decide)]
              have v71 : ∀ z, 0 ≤ z → gi ω iM_saidLetter z = if z = k then x else gi μ iM_saidLetter z := fun z z0 => by
                rw [hω, gi_wr_o (by decide), gi_wr_o (by decide), k1.1 _ z z0 (by omega) (by decide) (by decide), hμ8, gi_wr_o (by decide), g1.1 _ z z0 (by omega) (by decide) (by decide), hμ6, gi_wr_o (by decide), gi_wr_o (by decide), gi_wr_o (by decide), gi_wr_o (by decide), gi_wr_if (by omega) (by omega)]
              have v72 : ∀ z, 0 ≤ z → gi ω iM_saidFrom z = if z = k then s else gi μ iM_saidFrom z := fun z z0 => by
                rw [hω, gi_wr_o (by decide), gi_wr_o (by decide), k1.1 _ z z0 (by omega) (by decide) (by decide), hμ8, gi_wr_o (by decide), g1.1 _ z z0 (by omega) (by decide) (by decide), hμ6, gi_wr_o (by decide), gi_wr_o (by decide), gi_wr_if (by omega) (by omega), gi_wr_o (by decide), gi_wr_o (by decide)]
              have v73 : ∀ z, 0 ≤ z → gi ω iM_saidHalf z = if z = k then s1 else gi μ iM_saidHalf z := fun z z0 => by
                rw [hω, gi_wr_o (by decide), gi_wr_o (by decide), k1.1 _ z z0 (by omega) (by decide) (by decide), hμ8, gi_wr_if (by omega) (by omega), g1.1 _ z z0 (by omega) (by decide) (by decide), f6 _ (by decide) (by decide) (by decide)]
              have v74 : ∀ z, 0 ≤ z → gi ω iM_saidTo z = if z = k then s2 else gi μ iM_saidTo z := fun z z0 => by
                rw [hω, gi_wr_o (by decide), gi_wr_if (by omega) (by omega), k1.1 _ z z0 (by omega) (by decide) (by decide), hμ8, gi_wr_o (by decide), g1.1 _ z z0 (by omega) (by decide) (by decide), f6 _ (by decide) (by decide) (by decide)]
              have vs : ∀ z, 0 ≤ z → z < s → gi ω iM_said z = gi μ iM_said z := fun z z0 z1 => by
                rw [v69, k2 z z0 (by omega), hμ8, gi_wr_o (by decide), g2.2 z z0 z1, f6 _ (by decide) (by decide) (by decide)]
              have vs1 : ∀ z, 0 ≤ z → z < s1 → gi ω iM_said z = gi ν1 iM_said z := fun z z0 z1 => by
                rw [v69, k2 z z0 z1, hμ8, gi_wr_o (by decide)]
              refine xok_some.mpr ⟨rfl, by show p < r + 1; omega, ?_, ?_, by show 0 ≤ r + 1 ∧ r + 1 ≤ N; omega, s2, ?_, by show 0 ≤ s2 ∧ s2 ≤ r + 1; omega, ?_, ?_, ?_⟩
              · show RLw B ω
                rw [hω]; exact ((L8.rb k1.1).wra (by decide)).wrs (by omega)
              · show gi ω iM 12 = r + 1
                rw [hω, gi_wr_z (by omega), gi_wr_o (by decide)]; exact k1.2.1
              · show gi ω iM 16 = s2
                rw [hω, gi_wr_z (by omega), gi_wr_o (by decide)]; exact k1.2.2.2.2
              · show gi ω iM 18 = _
                rw [hω, gi_wr (by omega), List.length_append]; show k + 1 = ((ls.length + 1 : Nat) : Int); omega
              · rw [List.length_append]; show ls.length + 1 ≤ 14; omega
              · intro i hi
                rw [List.length_append] at hi
                have hi' : i < ls.length + 1 := hi
                show gi ω iM_saidLetter i = _ ∧ SegR (gi ω iM_said) (gi ω iM_saidFrom i) (gi ω iM_saidHalf i) _ ∧ SegR (gi ω iM_said) (gi ω iM_saidHalf i) (gi ω iM_saidTo i) _ ∧ gi ω iM_saidTo i ≤ s2
                rw [v71 i (by omega), v72 i (by omega), v73 i (by omega), v74 i (by omega)]
                by_cases ci : i < ls.length
                · obtain ⟨y1, y2, y3, y4⟩ := hcl i ci
                  rw [if_neg (by omega), if_neg (by omega), if_neg (by omega), if_neg (by omega), List.getElem_append_left ci]
                  exact ⟨y1, y2.keep vs (by have := y3.2.1; omega), y3.keep vs y4, by omega⟩
                · have hik : (i : Int) = k := by omega
                  rw [if_pos hik, if_pos hik, if_pos hik, if_pos hik]
                  have eg : (ls ++ [(x, φ, χ)])[i]'(by rw [List.length_append]; exact hi) = (x, φ, χ) := by
                    rw [List.getElem_append_right (by omega)]
                    simp
                  rw [eg]
                  exact ⟨rfl, g6.keep vs1 (by omega), by rw [v69]; exact k6, by omega⟩
            · rw [if_neg c41, if_neg c41]
              intro ν hν
              show xok (if j32 0 = 0 then _ else _) _
              rw [if_pos (show j32 0 = 0 from rfl)]
              exact xok_some.mpr ⟨rfl, RWL.of L8 hν⟩
        · rw [if_neg c40, if_neg c40]
          intro ν hν
          show xok (if j32 0 = 0 then _ else _) _
          rw [if_pos (show j32 0 = 0 from rfl)]
          exact xok_some.mpr ⟨rfl, RWL.of L8 hν⟩
    · obtain ⟨ν, e4, hd⟩ := wrongs 4 (by omega)
      rw [if_pos (show j32 (ls.length : Int) = 14 from by rw [show (ls.length : Int) = 14 by omega]; rfl), if_neg c14, j_rd, show gi μ iM ((12 : Nat) : Int) = p from h12, show (4 : Int32) = j32 4 from rfl, e4, xbd_e, xz0, xbd_e]
      exact xok_some.mpr ⟨rfl, hd⟩
  · obtain ⟨ν, e1, hd⟩ := wrongs 1 (by omega)
    have n1 : ¬ sgT T N p = 111 := fun c => il (Or.inl c)
    have n2 : ¬ sgT T N p = 112 := fun c => il (Or.inr (Or.inl c))
    have n3 : ¬ sgT T N p = 108 := fun c => il (Or.inr (Or.inr c))
    rw [if_neg (show ¬ j32 (sgT T N p) = 111 from fun d => n1 ((j_eq (b := 111) (by omega) (by omega)).mp d)), if_neg (show ¬ j32 (sgT T N p) = 112 from fun d => n2 ((j_eq (b := 112) (by omega) (by omega)).mp d)), if_neg (show ¬ j32 (sgT T N p) = 108 from fun d => n3 ((j_eq (b := 108) (by omega) (by omega)).mp d)), if_neg il, j_rd, show gi μ iM ((12 : Nat) : Int) = p from h12, show (1 : Int32) = j32 1 from rfl, e1, xbd_e, xz0, xbd_e]
    exact xok_some.mpr ⟨rfl, hd⟩
