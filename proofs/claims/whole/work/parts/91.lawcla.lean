/-! how the program reads a clause -/
def CL (B : xm) (o : Nat) (μ : xm) : Prop := μ.2 = B.2 ∧ ∀ (a : Nat) (z : Int), 0 ≤ z → ¬(a = iC_reader ∧ (z = 4 ∨ z = 5)) → ¬(o ≤ a ∧ a ≤ o + 5) → gi μ a z = gi B a z
def CLD (B : xm) (R : xr) (o : Nat) (T : Int → Int) (N f q : Int) (μ : xm) : Prop := BOK μ R o T N ∧ CL B o μ ∧ gi μ iC_reader 4 = q ∧ gi μ iC_reader 5 = f ∧ f ≠ 0
theorem CL.cb {B μ ν : xm} {o : Nat} (h : CL B o μ) (g : CB μ o ν) : CL B o ν :=
  ⟨g.1.trans h.1, fun a z h0 h1 h2 => (g.2 a z h0 h1 (by omega) (by omega)).trans (h.2 a z h0 h1 h2)⟩
theorem CB.rf {μ : xm} {o : Nat} : CB μ o μ := ⟨rfl, fun _ _ _ _ _ _ => rfl⟩
theorem CL.rf {μ : xm} {o : Nat} : CL μ o μ := ⟨rfl, fun _ _ _ _ _ => rfl⟩
theorem BOK.cb {B μ : xm} {R : xr} {o : Nat} {T : Int → Int} {N : Int} (h : BOK B R o T N) (g : CB B o μ) : BOK μ R o T N := by
  have ho := h.2.1
  have n1 : iC_reader = 3 := rfl
  have n2 : iC_reader_text = 4 := rfl
  refine ⟨h.1, h.2.1, (g.2 _ 3 (by omega) (by omega) (by omega) (by omega)).trans h.2.2.1, h.2.2.2.1, fun z a b => ?_⟩
  rw [g.2 _ z a (by omega) (by omega) (by omega)]
  exact h.2.2.2.2 z a b
theorem BOK.cl {B μ : xm} {R : xr} {o : Nat} {T : Int → Int} {N : Int} (h : BOK B R o T N) (g : CL B o μ) : BOK μ R o T N := by
  have ho := h.2.1
  have n1 : iC_reader = 3 := rfl
  have n2 : iC_reader_text = 4 := rfl
  refine ⟨h.1, h.2.1, (g.2 _ 3 (by omega) (by omega) (by omega)).trans h.2.2.1, h.2.2.2.1, fun z a b => ?_⟩
  rw [g.2 _ z a (by omega) (by omega)]
  exact h.2.2.2.2 z a b
theorem CLD.cd {B μ : xm} {R : xr} {o : Nat} {T : Int → Int} {N f q : Int} (h : CLD B R o T N f q μ) : CD μ o f q μ := ⟨CB.rf, h.2.2.1, h.2.2.2.1, h.2.2.2.2⟩
theorem CLD.to {B μ ν : xm} {R : xr} {o : Nat} {T : Int → Int} {N f' q' : Int} (hB : BOK μ R o T N) (h : CL B o μ) (g : CD μ o f' q' ν) : CLD B R o T N f' q' ν :=
  ⟨hB.cb g.1, h.cb g.1, g.2.1, g.2.2.1, g.2.2.2⟩
theorem CL.wrL {B : xm} {o : Nat} {μ : xm} (h : CL B o μ) {a : Nat} (ha : o ≤ a ∧ a ≤ o + 5) (z v : Int) : CL B o (wr μ a z v) :=
  ⟨h.1, fun b y h0 h1 h2 => by rw [gi_wr_o (by omega)]; exact h.2 b y h0 h1 h2⟩
theorem CLD.wrL {B μ : xm} {R : xr} {o : Nat} {T : Int → Int} {N f q : Int} (h : CLD B R o T N f q μ) {a : Nat} (ha : o ≤ a ∧ a ≤ o + 5) (z v : Int) : CLD B R o T N f q (wr μ a z v) := by
  have ho := h.1.2.1
  have n1 : iC_reader = 3 := rfl
  refine ⟨h.1.cl (CL.rf.wrL ha z v), h.2.1.wrL ha z v, ?_, ?_, h.2.2.2.2⟩
  · rw [gi_wr_o (by omega)]; exact h.2.2.1
  · rw [gi_wr_o (by omega)]; exact h.2.2.2.1
abbrev tail3 (R : xr) (q : xm) : Option xm := xbd (fX1_pass 41 q) fun q12 => xbd (R iC_reader 2) fun a13 => xbd (fX0_closeClause a13 q12) fun q14 => some q14
abbrev tail2 (R : xr) (q : xm) : Option xm := xbd (fX1_pass 40 q) fun q10 => xbd (rX1_readChoice 8 1 q10 R) fun q11 => tail3 R q11
abbrev tail1 (R : xr) (q : xm) : Option xm := xbd (R iC_reader 2) fun a8 => xbd (fX0_openCondition a8 q) fun q9 => tail2 R q9
theorem d_closeC {B μ : xm} {R : xr} {o : Nat} {T : Int → Int} {N f q : Int} (h : CLD B R o T N f q μ) : ∃ ν, fX0_closeClause o μ = some ν ∧ CLD B R o T N f q ν := by
  have lo := gi_lo μ o 6
  have hi := gi_hi μ o 6
  unfold fX0_closeClause
  by_cases c : gi μ o 6 < 0
  · refine ⟨μ, ?_, h⟩
    simp (disch := omega) only [Bool.false_eq_true, lits, jj, jc, jm, Int.cast_ofNat_Int, j_bi0, j_bi1, not_true, not_false_eq_true, if_true, if_false, xe, xok_some, Sum.elim_inl, Sum.elim_inr, Int.reduceEq, Int.reduceLT, Int.reduceLE, Int.reduceAdd, Int.reduceSub, Int.reduceMul]
    rw [if_pos c]
  · by_cases d : gi μ o 6 < 14
    · refine ⟨wr (wr μ (o + 4) (gi μ o 6) (gi μ o 7)) o 6 (gi μ o 6 + 1), ?_, (h.wrL (by omega) _ _).wrL (by omega) _ _⟩
      simp (disch := omega) only [Bool.false_eq_true, lits, jj, jc, jm, Int.cast_ofNat_Int, j_bi0, j_bi1, not_true, not_false_eq_true, if_true, if_false, xe, xok_some, Sum.elim_inl, Sum.elim_inr, Int.reduceEq, Int.reduceLT, Int.reduceLE, Int.reduceAdd, Int.reduceSub, Int.reduceMul]
      rw [if_neg c, if_pos d, gi_wr_o (by omega)]
    · refine ⟨μ, ?_, h⟩
      simp (disch := omega) only [Bool.false_eq_true, lits, jj, jc, jm, Int.cast_ofNat_Int, j_bi0, j_bi1, not_true, not_false_eq_true, if_true, if_false, xe, xok_some, Sum.elim_inl, Sum.elim_inr, Int.reduceEq, Int.reduceLT, Int.reduceLE, Int.reduceAdd, Int.reduceSub, Int.reduceMul]
      rw [if_neg c, if_neg d]
theorem d_openH {B μ : xm} {R : xr} {o : Nat} {T : Int → Int} {N f q : Int} (h : CLD B R o T N f q μ) : ∃ ν, fX0_openCondition o μ = some ν ∧ CLD B R o T N f q ν := by
  have lo := gi_lo μ o 6
  have hi := gi_hi μ o 6
  unfold fX0_openCondition
  by_cases c : gi μ o 6 < 0
  · refine ⟨μ, ?_, h⟩
    simp (disch := omega) only [Bool.false_eq_true, lits, jj, jc, jm, Int.cast_ofNat_Int, j_bi0, j_bi1, not_true, not_false_eq_true, if_true, if_false, xe, xok_some, Sum.elim_inl, Sum.elim_inr, Int.reduceEq, Int.reduceLT, Int.reduceLE, Int.reduceAdd, Int.reduceSub, Int.reduceMul]
    rw [if_pos c]
  · by_cases d : 14 ≤ gi μ o 6
    · refine ⟨μ, ?_, h⟩
      simp (disch := omega) only [Bool.false_eq_true, lits, jj, jc, jm, Int.cast_ofNat_Int, j_bi0, j_bi1, not_true, not_false_eq_true, if_true, if_false, xe, xok_some, Sum.elim_inl, Sum.elim_inr, Int.reduceEq, Int.reduceLT, Int.reduceLE, Int.reduceAdd, Int.reduceSub, Int.reduceMul]
      rw [if_neg c, if_pos d]
    · refine ⟨wr μ (o + 3) (gi μ o 6) (gi μ o 7), ?_, h.wrL (by omega) _ _⟩
      simp (disch := omega) only [Bool.false_eq_true, lits, jj, jc, jm, Int.cast_ofNat_Int, j_bi0, j_bi1, not_true, not_false_eq_true, if_true, if_false, xe, xok_some, Sum.elim_inl, Sum.elim_inr, Int.reduceEq, Int.reduceLT, Int.reduceLE, Int.reduceAdd, Int.reduceSub, Int.reduceMul]
      rw [if_neg c, if_neg d]
theorem d_tail3 {B μ : xm} {R : xr} {o : Nat} {T : Int → Int} {N f q : Int} (h : CLD B R o T N f q μ) : xok (tail3 R μ) (CLD B R o T N f q) := by
  unfold tail3
  obtain ⟨ν, e, hd⟩ := d_closeC h
  rw [show (41 : Int32) = j32 41 from rfl, d_pass h.cd (by omega), xbd_e, h.1.1, xbd_e, e, xbd_e]
  exact xok_some.mpr hd
theorem d_tail2 {B μ : xm} {R : xr} {o : Nat} {T : Int → Int} {N f q : Int} (h : CLD B R o T N f q μ) : xok (tail2 R μ) (CLD B R o T N f q) := by
  unfold tail2
  obtain ⟨ν, e, hd⟩ := dchos h.1 1 f q μ h.cd
  rw [show (40 : Int32) = j32 40 from rfl, d_pass h.cd (by omega), xbd_e, show (1 : Int32) = j32 1 from rfl, e, xbd_e]
  exact d_tail3 (CLD.to h.1 h.2.1 hd)
theorem d_tail2b {B μ : xm} {R : xr} {o : Nat} {T : Int → Int} {N f q : Int} (h : CLD B R o T N f q μ) : xok (xbd (rX1_readChoice 8 1 μ R) fun q11 => tail3 R q11) (CLD B R o T N f q) := by
  obtain ⟨ν, e, hd⟩ := dchos h.1 1 f q μ h.cd
  rw [show (1 : Int32) = j32 1 from rfl, e, xbd_e]
  exact d_tail3 (CLD.to h.1 h.2.1 hd)
theorem d_close {B μ : xm} {R : xr} {o : Nat} {T : Int → Int} {N f q : Int} (h : CLD B R o T N f q μ) : xok (xbd (R iC_reader 2) fun a13 => xbd (fX0_closeClause a13 μ) fun q14 => some q14) (CLD B R o T N f q) := by
  obtain ⟨ν, e, hd⟩ := d_closeC h
  rw [h.1.1, xbd_e, e, xbd_e]
  exact xok_some.mpr hd
theorem d_tail1 {B μ : xm} {R : xr} {o : Nat} {T : Int → Int} {N f q : Int} (h : CLD B R o T N f q μ) : xok (tail1 R μ) (CLD B R o T N f q) := by
  unfold tail1
  obtain ⟨ν, e, hd⟩ := d_openH h
  rw [h.1.1, xbd_e, e, xbd_e]
  exact d_tail2 hd
def KS (B : xm) (R : xr) (o : Nat) (T : Int → Int) (N p : Int) (ls : List Cl) (μ : xm) : Prop := BOK μ R o T N ∧ CL B o μ ∧ gi μ iC_reader 4 = p ∧ gi μ iC_reader 5 = 0 ∧ (0 ≤ p ∧ p ≤ N) ∧ ∃ s, gi μ o 7 = s ∧ (0 ≤ s ∧ s ≤ p) ∧ gi μ o 6 = ls.length ∧ ls.length ≤ 14 ∧ ∀ (i : Nat) (h : i < ls.length), gi μ (o + 1) i = ls[i].1 ∧ SegC (gi μ (o + 5)) (gi μ (o + 2) i) (gi μ (o + 3) i) 32 ls[i].2.1 ∧ SegC (gi μ (o + 5)) (gi μ (o + 3) i) (gi μ (o + 4) i) 32 (bo ls[i].2.2) ∧ gi μ (o + 4) i ≤ s
theorem CL.wr3 {B : xm} {o : Nat} {μ : xm} (h : CL B o μ) {z v : Int} (hz : z = 4 ∨ z = 5) : CL B o (wr μ iC_reader z v) := by
  refine ⟨h.1, fun a y h0 h1 h2 => ?_⟩
  by_cases c : a = iC_reader
  · subst c
    rw [gi_wr_z ⟨by omega, h0, fun e => h1 ⟨rfl, by omega⟩⟩]; exact h.2 _ y h0 h1 h2
  · rw [gi_wr_o c]; exact h.2 _ y h0 h1 h2
theorem ccla {B μ : xm} {R : xr} {o : Nat} {T : Int → Int} {N p : Int} {ls : List Cl} (hK : KS B R o T N p ls μ) : xok (fX1_readClause μ R) (fun ν => match pCla (sgT T N) ls.length p with | .inl e => CLD B R o T N e.1 e.2 ν | .inr x => p < x.1 ∧ KS B R o T N x.1 (ls ++ [x.2]) ν) := by
  obtain ⟨hB, hL, h4, h5, hp, s, h7, hs, h6, hln, hcl⟩ := hK
  have hN := hB.2.2.2.1
  have ho := hB.2.1
  have n1 : iC_reader = 3 := rfl
  have n2 : iC_reader_text = 4 := rfl
  have hcs : CS μ o p s μ := ⟨CB.rf, h4, h5, h7⟩
  have hsg := sgT_b hB p
  have isg := e_sign hB hcs (by omega)
  have lst : ∀ k, 0 < k ∧ k < 10 → ∃ ν, fX1_stop (j32 k) μ = some ν ∧ CLD B R o T N k p ν := fun k hk => by
    obtain ⟨ν, e, hd⟩ := e_stop hk hcs
    exact ⟨ν, e, CLD.to hB hL hd⟩
  unfold fX1_readClause pCla
  rw [isg, xbd_e]
  by_cases il : isLt (sgT T N p)
  · have hpN := hsg.2.2 (by unfold isLt at il; omega)
    have e : ∀ X : Option xm, (if j32 (sgT T N p) = 111 then (fX1_readClause_j29 μ R (j32 (sgT T N p))) else (if j32 (sgT T N p) = 112 then (fX1_readClause_j29 μ R (j32 (sgT T N p))) else (if j32 (sgT T N p) = 108 then (fX1_readClause_j29 μ R (j32 (sgT T N p))) else X))) = fX1_readClause_j29 μ R (j32 (sgT T N p)) := by
      intro X
      rcases il with c | c | c <;> rw [c]
      · rw [if_pos (by decide)]
      · rw [if_neg (by decide), if_pos (by decide)]
      · rw [if_neg (by decide), if_neg (by decide), if_pos (by decide)]
    rw [e, if_pos il]
    unfold fX1_readClause_j29 fX0_length
    rw [xbd_mk hB.1, xbd_e, j_rd, show gi μ o ((6 : Nat) : Int) = (ls.length : Int) from h6]
    by_cases c14 : (ls.length : Int) < 14
    · rw [if_pos (show j32 (ls.length : Int) < 14 from (j_lt (b := 14) (by omega) (by omega)).mpr c14), if_pos c14]
      rw [xlt_e, xp4 hcs, xbd_mk hB.1]
      generalize hx : sgT T N p = x at *
      have hxb : 0 ≤ x ∧ x ≤ 255 := by rcases il with c | c | c <;> omega
      obtain ⟨μ6, hμ6⟩ : ∃ μ6, μ6 = wr (wr (wr μ iC_reader 4 (p + 1)) (o + 1) ls.length x) (o + 2) ls.length s := ⟨_, rfl⟩
      have e6 : fX0_openClause o (j32 x) (wr μ iC_reader 4 (p + 1)) = some μ6 := by
        have a6 : gi (wr μ iC_reader 4 (p + 1)) o 6 = (ls.length : Int) := by rw [gi_wr_o (by omega)]; exact h6
        have a7 : gi (wr (wr μ iC_reader 4 (p + 1)) (o + 1) ls.length x) o 6 = (ls.length : Int) := by rw [gi_wr_o (by omega)]; exact a6
        have a8 : gi (wr (wr μ iC_reader 4 (p + 1)) (o + 1) ls.length x) o 7 = s := by rw [gi_wr_o (by omega), gi_wr_o (by omega)]; exact h7
        unfold fX0_openClause
        simp (disch := omega) only [Bool.false_eq_true, lits, jj, jc, jm, Int.cast_ofNat_Int, j_bi0, j_bi1, not_true, not_false_eq_true, if_true, if_false, xe, xok_some, Sum.elim_inl, Sum.elim_inr, Int.reduceEq, Int.reduceLT, Int.reduceLE, Int.reduceAdd, Int.reduceSub, Int.reduceMul, a6, a7, a8]
        rw [if_neg (by omega), if_pos (by omega), hμ6]
      have f6 : ∀ a : Nat, a ≠ iC_reader → a ≠ o + 1 → a ≠ o + 2 → gi μ6 a = gi μ a := fun a b c d => by rw [hμ6, gi_wr_f d, gi_wr_f c, gi_wr_f b]
      have L6 : CL B o μ6 := by rw [hμ6]; exact ((hL.wr3 (Or.inl rfl)).wrL (by omega) _ _).wrL (by omega) _ _
      have B6 : BOK μ6 R o T N := by
        rw [hμ6]; exact hB.cl (((CL.rf.wr3 (Or.inl rfl)).wrL (by omega) _ _).wrL (by omega) _ _)
      have S6 : CS μ6 o (p + 1) s μ6 := by
        refine ⟨CB.rf, ?_, ?_, ?_⟩
        · rw [hμ6, gi_wr_o (by omega), gi_wr_o (by omega), gi_wr (by omega)]
        · rw [hμ6, gi_wr_o (by omega), gi_wr_o (by omega), gi_wr_z (by omega)]; exact h5
        · rw [f6 o (by omega) (by omega) (by omega)]; exact h7
      rw [e6, xbd_e]
      obtain ⟨ρ, r1, r2⟩ := csums B6 8 0 (by omega) (by omega) (by omega) (p + 1) s μ6 S6 (by omega) (by omega) (by omega)
      rw [show (0 : Int32) = j32 0 from rfl, r1, xbd_e]
      cases hr : rSum (sgT T N) 8 0 (p + 1) with
      | inl ev =>
        rw [hr] at r2
        exact d_tail1 (CLD.to B6 L6 r2)
      | inr ev =>
        obtain ⟨q, a⟩ := ev
        rw [hr] at r2
        obtain ⟨s1, g1, g2, g3, g4, g5, g6⟩ := r2
        dsimp only at g1 g2 g3 g4 g5 g6 ⊢
        have B7 := B6.cb g1.1
        have L7 := L6.cb g1.1
        have k6 : gi ρ o 6 = (ls.length : Int) := by
          rw [g1.1.2 o 6 (by omega) (by omega) (by omega) (by omega), f6 o (by omega) (by omega) (by omega)]; exact h6
        obtain ⟨ρ2, hρ2⟩ : ∃ ρ2, ρ2 = wr ρ (o + 3) ls.length s1 := ⟨_, rfl⟩
        have e7 : fX0_openCondition o ρ = some ρ2 := by
          unfold fX0_openCondition
          simp (disch := omega) only [Bool.false_eq_true, lits, jj, jc, jm, Int.cast_ofNat_Int, j_bi0, j_bi1, not_true, not_false_eq_true, if_true, if_false, xe, xok_some, Sum.elim_inl, Sum.elim_inr, Int.reduceEq, Int.reduceLT, Int.reduceLE, Int.reduceAdd, Int.reduceSub, Int.reduceMul, k6, g1.2.2.2]
          rw [if_neg (by omega), if_neg (by omega), hρ2]
        have B8 : BOK ρ2 R o T N := by rw [hρ2]; exact B7.cl (CL.rf.wrL (by omega) _ _)
        have L8 : CL B o ρ2 := by rw [hρ2]; exact L7.wrL (by omega) _ _
        have S8 : CS ρ2 o q s1 ρ2 := by
          refine ⟨CB.rf, ?_, ?_, ?_⟩
          · rw [hρ2, gi_wr_o (by omega)]; exact g1.2.1
          · rw [hρ2, gi_wr_o (by omega)]; exact g1.2.2.1
          · rw [hρ2, gi_wr_o (by omega)]; exact g1.2.2.2
        rw [xbd_mk hB.1, e7, xbd_e]
        obtain ⟨ν, p1, p2⟩ := e_pass (k := 40) B8 S8 (by omega) (by omega)
        rw [show (40 : Int32) = j32 40 from rfl, p1, xbd_e]
        by_cases c40 : sgT T N q = 40
        · rw [if_pos c40] at p2 ⊢
          have hq := (sgT_b hB q).2.2 (by omega)
          obtain ⟨w1, w2⟩ := CS.go B8 S8 hq
          rw [← p2] at w1 w2
          have B9 := B8.cb w1.1
          have L9 := L8.cb w1.1
          obtain ⟨τ, t1, t2⟩ := cchos B9 (q + 1) s1 ν ⟨CB.rf, w1.2⟩ (by omega) (by omega) (by omega)
          rw [show (1 : Int32) = j32 1 from rfl, t1, xbd_e]
          cases hr2 : pCho (sgT T N) (rPie (sgT T N) 8) 1 (q + 1) with
          | inl ev =>
            rw [hr2] at t2
            exact d_tail3 (CLD.to B9 L9 t2)
          | inr ev =>
            obtain ⟨r, c⟩ := ev
            rw [hr2] at t2
            obtain ⟨s2, k1, k2, k3, k4, k5, k6'⟩ := t2
            dsimp only at k1 k2 k3 k4 k5 k6' ⊢
            have B10 := B9.cb k1.1
            have L10 := L9.cb k1.1
            obtain ⟨τ2, u1, u2⟩ := e_pass (k := 41) B10 ⟨CB.rf, k1.2⟩ (by omega) (by omega)
            rw [show (41 : Int32) = j32 41 from rfl, u1, xbd_e]
            by_cases c41 : sgT T N r = 41
            · rw [if_pos c41] at u2 ⊢
              have hr := (sgT_b hB r).2.2 (by omega)
              obtain ⟨v1, v2⟩ := CS.go B10 ⟨CB.rf, k1.2⟩ hr
              rw [← u2] at v1 v2
              have B11 := B10.cb v1.1
              have L11 := L10.cb v1.1
              have m6 : gi τ2 o 6 = (ls.length : Int) := by
                rw [v1.1.2 o 6 (by omega) (by omega) (by omega) (by omega), k1.1.2 o 6 (by omega) (by omega) (by omega) (by omega), w1.1.2 o 6 (by omega) (by omega) (by omega) (by omega), hρ2, gi_wr_o (by omega)]
                exact k6
              obtain ⟨τ3, hτ3⟩ : ∃ τ3, τ3 = wr (wr τ2 (o + 4) ls.length s2) o 6 ((ls.length : Int) + 1) := ⟨_, rfl⟩
              have e9 : fX0_closeClause o τ2 = some τ3 := by
                have m7 : gi (wr τ2 (o + 4) ls.length s2) o 6 = (ls.length : Int) := by rw [gi_wr_o (by omega)]; exact m6
                unfold fX0_closeClause
                simp (disch := omega) only [Bool.false_eq_true, lits, jj, jc, jm, Int.cast_ofNat_Int, j_bi0, j_bi1, not_true, not_false_eq_true, if_true, if_false, xe, xok_some, Sum.elim_inl, Sum.elim_inr, Int.reduceEq, Int.reduceLT, Int.reduceLE, Int.reduceAdd, Int.reduceSub, Int.reduceMul, m6, v1.2.2.2, m7]
                rw [if_neg (by omega), if_pos (by omega), hτ3]
              rw [xbd_mk hB.1, e9, xbd_e]
              have cc : gi τ3 (o + 5) = gi τ (o + 5) := by rw [hτ3, gi_wr_f (by omega), gi_wr_f (by omega)]; exact v2
              have cw : gi ν (o + 5) = gi ρ (o + 5) := by rw [w2, hρ2, gi_wr_f (by omega)]
              have ck : ∀ z, 0 ≤ z → z < s1 → gi τ3 (o + 5) z = gi ρ (o + 5) z := fun z z0 z1 => by rw [cc, k5 z z0 z1, cw]
              have d1 : ∀ z, 0 ≤ z → gi τ3 (o + 1) z = gi μ6 (o + 1) z := fun z z0 => by
                rw [hτ3, gi_wr_o (by omega), gi_wr_o (by omega), v1.1.2 (o + 1) z z0 (by omega) (by omega) (by omega), k1.1.2 (o + 1) z z0 (by omega) (by omega) (by omega), w1.1.2 (o + 1) z z0 (by omega) (by omega) (by omega), hρ2, gi_wr_o (by omega), g1.1.2 (o + 1) z z0 (by omega) (by omega) (by omega)]
              have d2 : ∀ z, 0 ≤ z → gi τ3 (o + 2) z = gi μ6 (o + 2) z := fun z z0 => by
                rw [hτ3, gi_wr_o (by omega), gi_wr_o (by omega), v1.1.2 (o + 2) z z0 (by omega) (by omega) (by omega), k1.1.2 (o + 2) z z0 (by omega) (by omega) (by omega), w1.1.2 (o + 2) z z0 (by omega) (by omega) (by omega), hρ2, gi_wr_o (by omega), g1.1.2 (o + 2) z z0 (by omega) (by omega) (by omega)]
              have d3 : ∀ z, 0 ≤ z → gi τ3 (o + 3) z = gi ρ2 (o + 3) z := fun z z0 => by
                rw [hτ3, gi_wr_o (by omega), gi_wr_o (by omega), v1.1.2 (o + 3) z z0 (by omega) (by omega) (by omega), k1.1.2 (o + 3) z z0 (by omega) (by omega) (by omega), w1.1.2 (o + 3) z z0 (by omega) (by omega) (by omega)]
              have d3' : ∀ z, 0 ≤ z → gi ρ (o + 3) z = gi μ (o + 3) z := fun z z0 => by
                rw [g1.1.2 (o + 3) z z0 (by omega) (by omega) (by omega), f6 (o + 3) (by omega) (by omega) (by omega)]
              have d4 : ∀ z, 0 ≤ z → gi τ2 (o + 4) z = gi μ (o + 4) z := fun z z0 => by
                rw [v1.1.2 (o + 4) z z0 (by omega) (by omega) (by omega), k1.1.2 (o + 4) z z0 (by omega) (by omega) (by omega), w1.1.2 (o + 4) z z0 (by omega) (by omega) (by omega), hρ2, gi_wr_o (by omega), g1.1.2 (o + 4) z z0 (by omega) (by omega) (by omega), f6 (o + 4) (by omega) (by omega) (by omega)]
              refine xok_some.mpr ⟨by show p < r + 1; omega, ?_, ?_, ?_, ?_, by show 0 ≤ r + 1 ∧ r + 1 ≤ N; omega, s2, ?_, by show 0 ≤ s2 ∧ s2 ≤ r + 1; omega, ?_, by rw [List.length_append]; show ls.length + 1 ≤ 14; omega, ?_⟩
              · rw [hτ3]; exact B11.cl ((CL.rf.wrL (by omega) _ _).wrL (by omega) _ _)
              · rw [hτ3]; exact (L11.wrL (by omega) _ _).wrL (by omega) _ _
              · rw [hτ3, gi_wr_o (by omega), gi_wr_o (by omega)]; exact v1.2.1
              · rw [hτ3, gi_wr_o (by omega), gi_wr_o (by omega)]; exact v1.2.2.1
              · rw [hτ3, gi_wr_z (by omega), gi_wr_o (by omega)]; exact v1.2.2.2
              · rw [hτ3, gi_wr (by omega), List.length_append]; rfl
              · intro i hi
                rw [List.length_append] at hi
                have hi' : i < ls.length + 1 := hi
                by_cases ci : i < ls.length
                · obtain ⟨y1, y2, y3, y4⟩ := hcl i ci
                  rw [List.getElem_append_left ci, d1 i (by omega), d2 i (by omega), d3 i (by omega), hτ3, gi_wr_o (by omega), gi_wr_z (by omega), d4 i (by omega), ← hτ3, hρ2, gi_wr_z (by omega), d3' i (by omega), hμ6, gi_wr_o (by omega), gi_wr_z (by omega), gi_wr_o (by omega), gi_wr_z (by omega), gi_wr_o (by omega), gi_wr_o (by omega)]
                  have hkk : ∀ z, 0 ≤ z → z < s → gi τ3 (o + 5) z = gi μ (o + 5) z := fun z z0 z1 => by rw [ck z z0 (by omega), g5 z z0 z1, f6 (o + 5) (by omega) (by omega) (by omega)]
                  exact ⟨y1, y2.keep hkk (by have := y3.2.1; omega), y3.keep hkk y4, by omega⟩
                · have ei : i = ls.length := by omega
                  subst ei
                  rw [List.getElem_concat_length rfl]
                  rw [d1 _ (by omega), d2 _ (by omega), d3 _ (by omega), hτ3, gi_wr_o (by omega), gi_wr (by omega), ← hτ3, hρ2, gi_wr (by omega), hμ6, gi_wr_o (by omega), gi_wr (by omega), gi_wr (by omega)]
                  refine ⟨rfl, (g6.keep ck (by omega)).mono (by omega), ?_, by omega⟩
                  exact (k6'.congr fun z _ _ => by rw [cc]).mono (by omega)
            · rw [if_neg c41] at u2 ⊢
              exact d_close (CLD.to B10 L10 u2)
        · rw [if_neg c40] at p2 ⊢
          exact d_tail2b (CLD.to B8 L8 p2)
    · rw [if_neg (show ¬ j32 (ls.length : Int) < 14 from fun c => c14 ((j_lt (b := 14) (by omega) (by omega)).mp c)), if_neg c14]
      obtain ⟨ν, e, hd⟩ := lst 4 (by omega)
      rw [show (4 : Int32) = j32 4 from rfl, e, xbd_e]
      exact xok_some.mpr hd
  · rw [if_neg il]
    have m1 : ¬ sgT T N p = 111 := fun c => il (Or.inl c)
    have m2 : ¬ sgT T N p = 112 := fun c => il (Or.inr (Or.inl c))
    have m3 : ¬ sgT T N p = 108 := fun c => il (Or.inr (Or.inr c))
    obtain ⟨ν, e, hd⟩ := lst 1 (by omega)
    rw [if_neg (show ¬ j32 (sgT T N p) = 111 from c_ne hB p (by omega) m1), if_neg (show ¬ j32 (sgT T N p) = 112 from c_ne hB p (by omega) m2), if_neg (show ¬ j32 (sgT T N p) = 108 from c_ne hB p (by omega) m3), show (1 : Int32) = j32 1 from rfl, e, xbd_e]
    exact xok_some.mpr hd
