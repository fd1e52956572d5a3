/-! feed, check -/
def nb (w : Int32) : Int := (vp_nar .byte w).toInt
theorem nb_b (w : Int32) : -128 ≤ nb w ∧ nb w ≤ 127 := by
  unfold nb
  rw [vp_nar_byte, Int8.toInt_toInt32]
  have h1 := Int8.le_toInt w.toInt8
  have h2 := Int8.toInt_lt w.toInt8
  omega
theorem j_sB {μ : xm} {o len : Nat} {z : Int} {w : Int32} (h : 0 ≤ z ∧ z < len ∧ len ≤ 2147483647) : xsB μ o len (j32 z) w = some (wr μ o z (nb w)) := by
  unfold xsB
  rw [if_pos (j_in h), j_nat h.1 (by omega)]
  unfold wr nb
  rw [j32_toInt]
/-- two loops side by side -/
theorem xsim_for {α β γ δ : Type} {b : α → Option (α ⊕ β)} {c : γ → Option (γ ⊕ δ)} {a : α} {a' : γ} {P : β → δ → Prop} (I : Nat → α → γ → Prop) (N : Nat) (hN : N < 1000000) (h0 : I 0 a a')
    (hs : ∀ k x y, k < N → I k x y → (∃ x' y', b x = some (.inl x') ∧ c y = some (.inl y') ∧ I (k + 1) x' y') ∨ (∃ r s, b x = some (.inr r) ∧ c y = some (.inr s) ∧ P r s))
    (he : ∀ x y, I N x y → ∃ r s, b x = some (.inr r) ∧ c y = some (.inr s) ∧ P r s) : ∃ r s, xloop xfu b a = some r ∧ xloop xfu c a' = some s ∧ P r s := by
  have key : ∀ (j n k : Nat) (x : α) (y : γ), k + j = N → j < n → I k x y → ∃ r s, xloop n b x = some r ∧ xloop n c y = some s ∧ P r s := by
    intro j
    induction j with
    | zero =>
      intro n k x y h1 h2 hi
      cases n with
      | zero => omega
      | succ n =>
        rw [show k = N by omega] at hi
        obtain ⟨r, s, e1, e2, hp⟩ := he x y hi
        unfold xloop; rw [e1, e2]
        exact ⟨r, s, rfl, rfl, hp⟩
    | succ j ih =>
      intro n k x y h1 h2 hi
      cases n with
      | zero => omega
      | succ n =>
        unfold xloop
        rcases hs k x y (by omega) hi with ⟨x', y', e1, e2, hp⟩ | ⟨r, s, e1, e2, hp⟩
        · rw [e1, e2]; exact ih n (k + 1) x' y' (by omega) (by omega) hp
        · rw [e1, e2]; exact ⟨r, s, rfl, rfl, hp⟩
  exact key N xfu 0 a a' (by omega) hN h0
def bb (w : Int32) (s : Int) : Int := nb ((w >>> (j32 s &&& j32 31)).toInt8.toInt32)
/-- k bytes of a word typed, from place t on -/
def py (ob ot : Nat) (ok t : Int) (w : Int32) (μ : xm) : Nat → xm
  | 0 => μ
  | k + 1 => wr (wr (py ob ot ok t w μ k) ob (t + k) (bb w (24 - 8 * k))) ot ok (t + k + 1)
def fB (w : Int32) (t : Int) (f : Int → Int) (z : Int) : Int := if z = t + 3 then bb w 0 else if z = t + 2 then bb w 8 else if z = t + 1 then bb w 16 else if z = t then bb w 24 else f z
theorem py_t {ob ot : Nat} {ok t : Int} {w : Int32} {μ : xm} (ht : 0 ≤ t ∧ t ≤ 396) (h : gi μ ot ok = t) : ∀ k : Nat, k ≤ 4 → gi (py ob ot ok t w μ k) ot ok = t + k
  | 0, _ => by rw [show py ob ot ok t w μ 0 = μ from rfl, h]; simp
  | k + 1, hk => by
    show gi (wr (wr (py ob ot ok t w μ k) ob (t + k) _) ot ok (t + k + 1)) ot ok = _
    rw [gi_wr (by omega)]; omega
theorem py_o {ob ot : Nat} {ok t : Int} {w : Int32} {μ : xm} {o : Nat} (h1 : o ≠ ob) (h2 : o ≠ ot) : ∀ k : Nat, gi (py ob ot ok t w μ k) o = gi μ o
  | 0 => rfl
  | k + 1 => (gi_wr_f h2).trans ((gi_wr_f h1).trans (py_o h1 h2 k))
theorem py_z {ob ot : Nat} {ok t : Int} {w : Int32} {μ : xm} (h : ot ≠ ob) (hk : 0 ≤ ok) {z : Int} (hz : 0 ≤ z ∧ z ≠ ok) : ∀ k : Nat, gi (py ob ot ok t w μ k) ot z = gi μ ot z
  | 0 => rfl
  | k + 1 => (gi_wr_z ⟨hk, hz.1, hz.2⟩).trans ((gi_wr_o h).trans (py_z h hk hz k))
theorem py_b {ob ot : Nat} {ok t : Int} {w : Int32} {μ : xm} (h : ob ≠ ot) (ht : 0 ≤ t ∧ t ≤ 396) {z : Int} (hz : 0 ≤ z) : gi (py ob ot ok t w μ 4) ob z = fB w t (gi μ ob) z := by
  have s : ∀ k : Nat, gi (py ob ot ok t w μ (k + 1)) ob z = if z = t + k then bb w (24 - 8 * k) else gi (py ob ot ok t w μ k) ob z := by
    intro k
    show gi (wr (wr (py ob ot ok t w μ k) ob (t + k) _) ot ok (t + k + 1)) ob z = _
    have hb := nb_b ((w >>> (j32 (24 - 8 * k) &&& j32 31)).toInt8.toInt32)
    rw [gi_wr_o h, gi_wr_if (by omega) (by unfold bb; omega)]
  rw [s 3, s 2, s 1, s 0, show py ob ot ok t w μ 0 = μ from rfl]
  unfold fB
  simp only [Int.cast_ofNat_Int, Int.add_zero, Int.reduceMul, Int.reduceSub, show ((0 : Nat) : Int) = 0 from rfl, show ((1 : Nat) : Int) = 1 from rfl]
theorem eX9_put {μ : xm} {t : Int} {w : Int32} (ht : 0 ≤ t ∧ t ≤ 396) (h : gi μ iC_tape 1 = t) : fX9_put w μ = some (py iC_tape_bytes iC_tape 1 t w μ 4) := by
  unfold fX9_put
  simp only [lits]
  have key := xloop_for (b := fun v => fX9_put_b3 v.1 v.2 w) (fun k => (j32 (24 - 8 * k), py iC_tape_bytes iC_tape 1 t w μ k)) 4 (r := py iC_tape_bytes iC_tape 1 t w μ 4) (a := (j32 24, μ)) (by omega) rfl ?_ ?_
  · rw [key]; rfl
  · intro k hk
    show fX9_put_b3 _ _ w = _
    have e := py_t (ob := iC_tape_bytes) (w := w) ht h k (by omega)
    unfold fX9_put_b3
    simp (disch := omega) only [Bool.false_eq_true, lits, jj, jc, jm, Int.cast_ofNat_Int, j_bi0, j_bi1, not_true, not_false_eq_true, if_true, if_false, xe, xok_some, Sum.elim_inl, Sum.elim_inr, Int.reduceEq, Int.reduceLT, Int.reduceLE, Int.reduceAdd, Int.reduceSub, Int.reduceMul, e, show ¬ ((24 : Int) - 8 * k < 0) by omega, show ¬ (t + (k : Int) < 0) by omega, show ¬ (400 ≤ t + (k : Int)) by omega, j_sB]
    rw [gi_wr_o (by decide), e]
    simp (disch := omega) only [Bool.false_eq_true, lits, jj, jc, jm, Int.cast_ofNat_Int, j_bi0, j_bi1, not_true, not_false_eq_true, if_true, if_false, xe, xok_some, Sum.elim_inl, Sum.elim_inr, Int.reduceEq, Int.reduceLT, Int.reduceLE, Int.reduceAdd, Int.reduceSub, Int.reduceMul, show (24 : Int) - 8 * k + -8 = 24 - 8 * ((k + 1 : Nat) : Int) by omega]
    rfl
  · show fX9_put_b3 _ _ w = _
    unfold fX9_put_b3
    simp (disch := omega) only [Bool.false_eq_true, lits, jj, jc, jm, Int.cast_ofNat_Int, j_bi0, j_bi1, not_true, not_false_eq_true, if_true, if_false, xe, xok_some, Sum.elim_inl, Sum.elim_inr, Int.reduceEq, Int.reduceLT, Int.reduceLE, Int.reduceAdd, Int.reduceSub, Int.reduceMul]
theorem eX12_types {μ : xm} {t : Int} {w : Int32} (ht : 0 ≤ t ∧ t ≤ 396) (h : gi μ iM 11 = t) : fX12_types w μ = some (py iM_tape iM 11 t w μ 4) := by
  unfold fX12_types
  simp only [lits]
  have key := xloop_for (b := fun v => fX12_types_b2 v.1 v.2 w) (fun k => (j32 (3 - k), py iM_tape iM 11 t w μ k)) 4 (r := py iM_tape iM 11 t w μ 4) (a := (j32 3, μ)) (by omega) rfl ?_ ?_
  · rw [key]; rfl
  · intro k hk
    show fX12_types_b2 _ _ w = _
    have e := py_t (ob := iM_tape) (w := w) ht h k (by omega)
    unfold fX12_types_b2
    simp (disch := omega) only [Bool.false_eq_true, lits, jj, jc, jm, Int.cast_ofNat_Int, j_bi0, j_bi1, not_true, not_false_eq_true, if_true, if_false, xe, xok_some, Sum.elim_inl, Sum.elim_inr, Int.reduceEq, Int.reduceLT, Int.reduceLE, Int.reduceAdd, Int.reduceSub, Int.reduceMul, e, show ¬ ((3 : Int) - k < 0) by omega, j_sB]
    rw [gi_wr_o (by decide), e]
    simp (disch := omega) only [Bool.false_eq_true, lits, jj, jc, jm, Int.cast_ofNat_Int, j_bi0, j_bi1, not_true, not_false_eq_true, if_true, if_false, xe, xok_some, Sum.elim_inl, Sum.elim_inr, Int.reduceEq, Int.reduceLT, Int.reduceLE, Int.reduceAdd, Int.reduceSub, Int.reduceMul, show (3 : Int) - k + -1 = 3 - ((k + 1 : Nat) : Int) by omega, show (8 : Int) * (3 - k) = 24 - 8 * k by omega]
    rfl
  · show fX12_types_b2 _ _ w = _
    unfold fX12_types_b2
    simp (disch := omega) only [Bool.false_eq_true, lits, jj, jc, jm, Int.cast_ofNat_Int, j_bi0, j_bi1, not_true, not_false_eq_true, if_true, if_false, xe, xok_some, Sum.elim_inl, Sum.elim_inr, Int.reduceEq, Int.reduceLT, Int.reduceLE, Int.reduceAdd, Int.reduceSub, Int.reduceMul]
/-- five words typed -/
def py5 (ob ot : Nat) (ok t : Int) (a b c d e : Int32) (μ : xm) : xm := py ob ot ok (t + 16) e (py ob ot ok (t + 12) d (py ob ot ok (t + 8) c (py ob ot ok (t + 4) b (py ob ot ok t a μ 4) 4) 4) 4) 4
def fB5 (t : Int) (a b c d e : Int32) (f : Int → Int) : Int → Int := fB e (t + 16) (fB d (t + 12) (fB c (t + 8) (fB b (t + 4) (fB a t f))))
theorem fB_c {w : Int32} {t : Int} {f g : Int → Int} {z : Int} (h : f z = g z) : fB w t f z = fB w t g z := by unfold fB; rw [h]
theorem fB_b {w : Int32} {t : Int} {f : Int → Int} {z : Int} (h : -128 ≤ f z ∧ f z ≤ 127) : -128 ≤ fB w t f z ∧ fB w t f z ≤ 127 := by
  unfold fB bb
  repeat' split
  all_goals first | exact nb_b _ | exact h
theorem fB5_c {t : Int} {a b c d e : Int32} {f g : Int → Int} {z : Int} (h : f z = g z) : fB5 t a b c d e f z = fB5 t a b c d e g z := fB_c (fB_c (fB_c (fB_c (fB_c h))))
theorem fB5_b {t : Int} {a b c d e : Int32} {f : Int → Int} {z : Int} (h : -128 ≤ f z ∧ f z ≤ 127) : -128 ≤ fB5 t a b c d e f z ∧ fB5 t a b c d e f z ≤ 127 := fB_b (fB_b (fB_b (fB_b (fB_b h))))
theorem py5_o {ob ot : Nat} {ok t : Int} {a b c d e : Int32} {μ : xm} {o : Nat} (h1 : o ≠ ob) (h2 : o ≠ ot) : gi (py5 ob ot ok t a b c d e μ) o = gi μ o := by
  unfold py5; rw [py_o h1 h2, py_o h1 h2, py_o h1 h2, py_o h1 h2, py_o h1 h2]
theorem py5_z {ob ot : Nat} {ok t : Int} {a b c d e : Int32} {μ : xm} (h : ot ≠ ob) (hk : 0 ≤ ok) {z : Int} (hz : 0 ≤ z ∧ z ≠ ok) : gi (py5 ob ot ok t a b c d e μ) ot z = gi μ ot z := by
  unfold py5; rw [py_z h hk hz, py_z h hk hz, py_z h hk hz, py_z h hk hz, py_z h hk hz]
theorem py5_t {ob ot : Nat} {ok t : Int} {a b c d e : Int32} {μ : xm} (ht : 0 ≤ t ∧ t ≤ 380) (h : gi μ ot ok = t) : gi (py5 ob ot ok t a b c d e μ) ot ok = t + 20 := by
  have e1 := py_t (ob := ob) (w := a) (by omega) h 4 (by omega)
  have e2 := py_t (ob := ob) (w := b) (t := t + 4) (by omega) e1 4 (by omega)
  have e3 := py_t (ob := ob) (w := c) (t := t + 8) (by omega) (by rw [e2]; omega) 4 (by omega)
  have e4 := py_t (ob := ob) (w := d) (t := t + 12) (by omega) (by rw [e3]; omega) 4 (by omega)
  have e5 := py_t (ob := ob) (w := e) (t := t + 16) (by omega) (by rw [e4]; omega) 4 (by omega)
  unfold py5; rw [e5]; omega
theorem py5_b {ob ot : Nat} {ok t : Int} {a b c d e : Int32} {μ : xm} (h : ob ≠ ot) (ht : 0 ≤ t ∧ t ≤ 380) {z : Int} (hz : 0 ≤ z) : gi (py5 ob ot ok t a b c d e μ) ob z = fB5 t a b c d e (gi μ ob) z := by
  unfold py5 fB5
  rw [py_b h (by omega) hz]
  apply fB_c
  rw [py_b h (by omega) hz]
  apply fB_c
  rw [py_b h (by omega) hz]
  apply fB_c
  rw [py_b h (by omega) hz]
  apply fB_c
  rw [py_b h (by omega) hz]
def st (A : xAs) (o : Nat) (f : Int → Int) : xAs := fun a => if a = o then f else A a
theorem st_o {A : xAs} {o a : Nat} {f : Int → Int} (h : a ≠ o) : st A o f a = A a := if_neg h
theorem st_s {A : xAs} {o : Nat} {f : Int → Int} : st A o f o = f := if_pos rfl
theorem s_feed {A : xAs} {μ : xm} {R : xr} {n : Nat} (hA : RH A μ) (hC : CH A μ R n) (hI : Inv A) (a1 a2 a3 a4 a5 : Int32) : ∃ q, fX11_feed a1 a2 a3 a4 a5 μ = some q ∧ ∃ q2, fX12_feed a1 a2 a3 a4 a5 q.2 = some q2 ∧ q2.1 = q.1 ∧ xStp μ R n q2.2 := by
  have h1 := hI.taped
  have e0 := hC.taped
  have eA : gi μ iM 11 = A iM 11 := (RH.sc hA).2.2.2.2.1
  obtain ⟨t, ht⟩ : ∃ t, A iM 11 = t := ⟨_, rfl⟩
  rw [ht] at h1 e0 eA
  unfold fX11_feed fX12_feed fX9_length
  by_cases c1 : t + 20 ≤ 400
  · obtain ⟨μ1, hμ1⟩ : ∃ x, py5 iC_tape_bytes iC_tape 1 t a1 a2 a3 a4 a5 μ = x := ⟨_, rfl⟩
    obtain ⟨μ2, hμ2⟩ : ∃ x, py5 iM_tape iM 11 t a1 a2 a3 a4 a5 μ1 = x := ⟨_, rfl⟩
    have g1 : ∀ o, o ≠ iC_tape_bytes → o ≠ iC_tape → gi μ1 o = gi μ o := fun o h1 h2 => by rw [← hμ1, py5_o h1 h2]
    have g2 : ∀ o, o ≠ iM_tape → o ≠ iM → gi μ2 o = gi μ1 o := fun o h1 h2 => by rw [← hμ2, py5_o h1 h2]
    have t1 : gi μ1 iC_tape 1 = t + 20 := by rw [← hμ1, py5_t (by omega) e0]
    have eB : gi μ1 iM 11 = t := by rw [g1 _ (by decide) (by decide)]; exact eA
    have t2 : gi μ2 iM 11 = t + 20 := by rw [← hμ2, py5_t (by omega) eB]
    have f1 : fX11_feed a1 a2 a3 a4 a5 μ = some (j32 (t + 20), μ1) := by
      unfold fX11_feed fX9_length
      simp (disch := omega) only [Bool.false_eq_true, lits, jj, jc, jm, Int.cast_ofNat_Int, j_bi0, j_bi1, not_true, not_false_eq_true, if_true, if_false, xe, xok_some, Sum.elim_inl, Sum.elim_inr, Int.reduceEq, Int.reduceLT, Int.reduceLE, Int.reduceAdd, Int.reduceSub, Int.reduceMul, e0, c1]
      have e1 := py_t (ob := iC_tape_bytes) (w := a1) (by omega) e0 4 (by omega)
      have e2 := py_t (ob := iC_tape_bytes) (w := a2) (t := t + 4) (by omega) e1 4 (by omega)
      have e3 := py_t (ob := iC_tape_bytes) (w := a3) (t := t + 8) (by omega) (by rw [e2]; omega) 4 (by omega)
      have e4 := py_t (ob := iC_tape_bytes) (w := a4) (t := t + 12) (by omega) (by rw [e3]; omega) 4 (by omega)
      rw [eX9_put (by omega) e0, xbd_e, eX9_put (t := t + 4) (by omega) e1, xbd_e, eX9_put (t := t + 8) (by omega) (by rw [e2]; omega), xbd_e, eX9_put (t := t + 12) (by omega) (by rw [e3]; omega), xbd_e, eX9_put (t := t + 16) (by omega) (by rw [e4]; omega), xbd_e]
      rw [show py iC_tape_bytes iC_tape 1 (t + 16) a5 (py iC_tape_bytes iC_tape 1 (t + 12) a4 (py iC_tape_bytes iC_tape 1 (t + 8) a3 (py iC_tape_bytes iC_tape 1 (t + 4) a2 (py iC_tape_bytes iC_tape 1 t a1 μ 4) 4) 4) 4) 4 = μ1 from hμ1, t1]
    have f2 : fX12_feed a1 a2 a3 a4 a5 μ1 = some (j32 (t + 20), μ2) := by
      unfold fX12_feed
      simp (disch := omega) only [Bool.false_eq_true, lits, jj, jc, jm, Int.cast_ofNat_Int, j_bi0, j_bi1, not_true, not_false_eq_true, if_true, if_false, xe, xok_some, Sum.elim_inl, Sum.elim_inr, Int.reduceEq, Int.reduceLT, Int.reduceLE, Int.reduceAdd, Int.reduceSub, Int.reduceMul, eB, c1]
      have e1 := py_t (ob := iM_tape) (w := a1) (by omega) eB 4 (by omega)
      have e2 := py_t (ob := iM_tape) (w := a2) (t := t + 4) (by omega) e1 4 (by omega)
      have e3 := py_t (ob := iM_tape) (w := a3) (t := t + 8) (by omega) (by rw [e2]; omega) 4 (by omega)
      have e4 := py_t (ob := iM_tape) (w := a4) (t := t + 12) (by omega) (by rw [e3]; omega) 4 (by omega)
      rw [eX12_types (by omega) eB, xbd_e, eX12_types (t := t + 4) (by omega) e1, xbd_e, eX12_types (t := t + 8) (by omega) (by rw [e2]; omega), xbd_e, eX12_types (t := t + 12) (by omega) (by rw [e3]; omega), xbd_e, eX12_types (t := t + 16) (by omega) (by rw [e4]; omega), xbd_e]
      rw [show py iM_tape iM 11 (t + 16) a5 (py iM_tape iM 11 (t + 12) a4 (py iM_tape iM 11 (t + 8) a3 (py iM_tape iM 11 (t + 4) a2 (py iM_tape iM 11 t a1 μ1 4) 4) 4) 4) 4 = μ2 from hμ2, t2]
    refine ⟨(j32 (t + 20), μ1), f1, (j32 (t + 20), μ2), f2, rfl, LK.tr (ν := μ1) ?_ ?_, ?_⟩
    · exact LK.of (fun o ho => g1 o (by show o ≠ 2; omega) (by show o ≠ 1; omega))
    · refine ⟨fun o ho => g2 o (by show o ≠ 68; omega) (by show o ≠ 61; omega), ?_⟩
      rw [← hμ2, py5_z (by decide) (by omega) (by omega)]
    · have hA1 : RH A μ1 := RH.keep hA (fun o h1 h2 => g1 o (by show o ≠ 2; omega) (by show o ≠ 1; omega))
      have gm : ∀ z, 0 ≤ z → gi μ2 iM_tape z = fB5 t a1 a2 a3 a4 a5 (A iM_tape) z := by
        intro z hz
        rw [← hμ2, py5_b (by decide) (by omega) hz]
        exact fB5_c (congrFun (RH.at hA1 rfl) z)
      refine ⟨up (st A iM_tape (gi μ2 iM_tape)) iM 11 (t + 20), ?_, ?_, ?_⟩
      · refine RH.mk (fun o ho => ?_) ?_
        · have hne : o ≠ iM := by rintro rfl; exact absurd ho (by decide)
          rw [up_o hne]
          by_cases e : o = iM_tape
          · rw [e, st_s]
          · rw [st_o e, g2 o e hne]; exact RH.at hA1 ho
        · have hz : ∀ k, 0 ≤ k → k ≠ 11 → gi μ2 iM k = gi μ1 iM k := fun k h1 h2 => by rw [← hμ2, py5_z (by decide) (by omega) ⟨h1, h2⟩]
          have hs := RH.sc hA1
          refine ⟨?_, ?_, ?_, ?_, by rw [t2, up_z], ?_, ?_, ?_, ?_, ?_, ?_⟩
          all_goals rw [hz _ (by decide) (by decide), up_n (by decide), st_o (by decide)]
          · exact hs.1
          · exact hs.2.1
          · exact hs.2.2.1
          · exact hs.2.2.2.1
          · exact hs.2.2.2.2.2.1
          · exact hs.2.2.2.2.2.2.1
          · exact hs.2.2.2.2.2.2.2.1
          · exact hs.2.2.2.2.2.2.2.2.1
          · exact hs.2.2.2.2.2.2.2.2.2.1
          · exact hs.2.2.2.2.2.2.2.2.2.2
      · refine hC.u_feed (fun o h1 h2 h3 => ?_) (fun z h1 h2 => ?_) (fun o h1 h2 => by rw [up_o h2, st_o h1]) (fun k h1 h2 => by rw [up_n (by omega), st_o (by decide)]) ?_ ?_
        · rw [g2 o (by show o ≠ 68; omega) (by show o ≠ 61; omega), g1 o h1 h2]
        · rw [g2 _ (by decide) (by decide), ← hμ1, py5_z (by decide) (by omega) ⟨h1, h2⟩]
        · rw [g2 _ (by decide) (by decide), t1, up_z]
        · intro z h1 h2
          rw [g2 _ (by decide) (by decide), up_o (by decide), st_s, gm z h1, ← hμ1, py5_b (by decide) (by omega) h1]
          exact fB5_c (hC.tape z h1 h2)
      · refine hI.u_feed (fun o h1 h2 => by rw [up_o h2, st_o h1]) (fun k h1 h2 => by rw [up_n (by omega), st_o (by decide)]) ?_ ?_
        · rw [up_z]; omega
        · intro z h1 h2
          rw [up_o (by decide), st_s, gm z h1]
          exact fB5_b (hI.tape z h1 h2)
  · refine ⟨(j32 (-1), μ), ?_, (j32 (-1), μ), ?_, rfl, xStp.same hA hC hI⟩
    · simp (disch := omega) only [Bool.false_eq_true, lits, jj, jc, jm, Int.cast_ofNat_Int, j_bi0, j_bi1, not_true, not_false_eq_true, if_true, if_false, xe, xok_some, Sum.elim_inl, Sum.elim_inr, Int.reduceEq, Int.reduceLT, Int.reduceLE, Int.reduceAdd, Int.reduceSub, Int.reduceMul, e0, c1]
    · simp (disch := omega) only [Bool.false_eq_true, lits, jj, jc, jm, Int.cast_ofNat_Int, j_bi0, j_bi1, not_true, not_false_eq_true, if_true, if_false, xe, xok_some, Sum.elim_inl, Sum.elim_inr, Int.reduceEq, Int.reduceLT, Int.reduceLE, Int.reduceAdd, Int.reduceSub, Int.reduceMul, eA, c1]
