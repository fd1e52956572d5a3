theorem xif_t {α : Type} {c : Prop} [Decidable c] {x y : Option α} {r : α} (hc : c) (h : (if c then x else y) = some r) : x = some r := (if_pos hc).symm.trans h
theorem xif_f {α : Type} {c : Prop} [Decidable c] {x y : Option α} {r : α} (hc : ¬ c) (h : (if c then x else y) = some r) : y = some r := (if_neg hc).symm.trans h
def xop {α : Type} (r : Option Nat) (x : Option α) (f : Nat → Option α) : Option α := match r with
  | none => x
  | some a => f a
theorem xop_n {α : Type} {x : Option α} {f : Nat → Option α} {v : α} (h : xop none x f = some v) : x = some v := h
theorem xop_s {α : Type} {x : Option α} {f : Nat → Option α} {a : Nat} {v : α} (h : xop (some a) x f = some v) : f a = some v := h
def xel {α β : Type} (G : α → Prop) (X : β → Prop) : α ⊕ β → Prop := Sum.elim G X
theorem xel_l {α β : Type} {G : α → Prop} {X : β → Prop} {a : α} (h : Sum.elim G X (.inl a)) : G a := h
theorem xel_r {α β : Type} {G : α → Prop} {X : β → Prop} {b : β} (h : Sum.elim G X (.inr b)) : X b := h
def xsm {α β γ : Type} (r : α ⊕ β) (f : α → Option γ) (g : β → Option γ) : Option γ := match r with
  | .inl a => f a
  | .inr b => g b
theorem xsm_l {α β γ : Type} {f : α → Option γ} {g : β → Option γ} {a : α} {v : γ} (h : xsm (.inl a) f g = some v) : f a = some v := h
theorem xsm_r {α β γ : Type} {f : α → Option γ} {g : β → Option γ} {b : β} {v : γ} (h : xsm (.inr b) f g = some v) : g b = some v := h
theorem xne {x c : Int32} {v : Int} (hv : c.toInt = v) (h : ¬ x = c) : x.toInt ≠ v := fun e => h (Int32.toInt_inj.mp (e.trans hv.symm))
theorem xsw_in {x : Int32} {lo hi dflt off v : Int} {offs : Array Int} (hx : x.toInt = v) (h1 : decide (¬ v < lo ∧ ¬ hi < v ∧ offs[(v - lo).toNat]? = some off) = true) : (x.toInt < lo ∨ hi < x.toInt) ∧ off = dflt ∨ (¬ x.toInt < lo ∧ ¬ hi < x.toInt) ∧ offs[(x.toInt - lo).toNat]? = some off := by
  have h2 := of_decide_eq_true h1
  rw [hx]
  exact Or.inr ⟨⟨h2.1, h2.2.1⟩, h2.2.2⟩
theorem xsw_out {x : Int32} {lo hi dflt : Int} {offs : Array Int} (vals : List Int) (hn : ∀ v ∈ vals, x.toInt ≠ v) (hc : (List.range (hi - lo + 1).toNat).all (fun k => decide (offs[k]? = some dflt) || decide (lo + (k : Int) ∈ vals)) = true) : (x.toInt < lo ∨ hi < x.toInt) ∧ dflt = dflt ∨ (¬ x.toInt < lo ∧ ¬ hi < x.toInt) ∧ offs[(x.toInt - lo).toNat]? = some dflt := by
  by_cases h : x.toInt < lo ∨ hi < x.toInt
  · exact Or.inl ⟨h, rfl⟩
  · have h1 : ¬ x.toInt < lo := fun q => h (Or.inl q)
    have h2 : ¬ hi < x.toInt := fun q => h (Or.inr q)
    refine Or.inr ⟨⟨h1, h2⟩, ?_⟩
    have hk := List.all_eq_true.mp hc (x.toInt - lo).toNat (List.mem_range.mpr (by omega))
    rcases (Bool.or_eq_true _ _).mp hk with q | q
    · exact of_decide_eq_true q
    · have q2 := of_decide_eq_true q
      exact absurd (by omega) (hn _ q2)
def xmax (x y : Int32) : Int32 := if x < y then y else x
def xmin (x y : Int32) : Int32 := if y < x then y else x
theorem xlo2 {d : Nat} (h : 1 ≤ d) : 21 ≤ 80 * d := by omega
theorem ev_mmax {E : xE} {C : xC} {Y : xY} {pc : Nat} {L : List (Nat × Value)} {rest : List Value} {σ : xM} {n ce sl ix : Nat} {x y : Int32} (hw : Cond.methodLink Y.1.cls ix Lib.Math.max.name ∈ xtb ∧ Cond.static Lib.Math.max.name ∈ xtb ∧ Cond.initialized "java/lang/Math" ∈ xtb ∧ Cond.code Lib.Math.max.name Lib.Math.max.code 2 (some .int) ∈ xtb) (hfr : 1 ≤ C.1.frames) (hlo : 21 ≤ C.1.locals) (hcat : (rest.map fun v => v.category).sum ≤ 8) (hce : ce ≤ C.1.cells) (hsl : sl ≤ C.1.slots) (hd : decode Y.2.1 pc = .ok (.invokestatic ix, 3)) (h : Ev E C Y (pc + 3) L (.int (xmax x y) :: rest) σ n ce sl) : Ev E C Y pc L (.int y :: .int x :: rest) σ n ce sl := by
  intro p e s m args below meth c H locs ls hC hR hS hl
  obtain ⟨hx, hb, hr, hml, hown, hts, -⟩ := id hC
  exact va_mmax hx hb (hml.trans hl.1.symm) hown (hts _ hw.1) (hts _ hw.2.1) (hts _ hw.2.2.1) (hts _ hw.2.2.2) hfr (by omega) hce hsl hd (h p e s m args below meth c H locs ls hC hR hS hl)
theorem ev_mmin {E : xE} {C : xC} {Y : xY} {pc : Nat} {L : List (Nat × Value)} {rest : List Value} {σ : xM} {n ce sl ix : Nat} {x y : Int32} (hw : Cond.methodLink Y.1.cls ix Lib.Math.min.name ∈ xtb ∧ Cond.static Lib.Math.min.name ∈ xtb ∧ Cond.initialized "java/lang/Math" ∈ xtb ∧ Cond.code Lib.Math.min.name Lib.Math.min.code 2 (some .int) ∈ xtb) (hfr : 1 ≤ C.1.frames) (hlo : 21 ≤ C.1.locals) (hcat : (rest.map fun v => v.category).sum ≤ 8) (hce : ce ≤ C.1.cells) (hsl : sl ≤ C.1.slots) (hd : decode Y.2.1 pc = .ok (.invokestatic ix, 3)) (h : Ev E C Y (pc + 3) L (.int (xmin x y) :: rest) σ n ce sl) : Ev E C Y pc L (.int y :: .int x :: rest) σ n ce sl := by
  intro p e s m args below meth c H locs ls hC hR hS hl
  obtain ⟨hx, hb, hr, hml, hown, hts, -⟩ := id hC
  exact va_mmin hx hb (hml.trans hl.1.symm) hown (hts _ hw.1) (hts _ hw.2.1) (hts _ hw.2.2.1) (hts _ hw.2.2.2) hfr (by omega) hce hsl hd (h p e s m args below meth c H locs ls hC hR hS hl)
theorem xlo {mL H d : Nat} (h1 : mL ≤ 61) (h2 : H + 1 ≤ d) : mL + 19 + 80 * H ≤ 80 * d := by omega
theorem xv_nn {E : xE} {C : xC} {Y : xY} {pc : Nat} {L : List (Nat × Value)} {st : List Value} {μ : xm} {R : xr} {n ce sl : Nat} {r : Option Nat} {a : Nat} (hr : r = some a) (h : Ev E C Y pc L (.ref (E.2.2.2 + a) :: st) (xσ μ R) n ce sl) : Ev E C Y pc L (xrf E.2.2.2 r :: st) (xσ μ R) n ce sl := by
  subst hr; exact h
def xIsA (t a n : Nat) : Prop := (xkd a).1 = t ∧ a < n
theorem xIsA_of {t a n len : Nat} (h : xkd a = (t, len)) (hl : a < n) : xIsA t a n := ⟨by rw [h], hl⟩
theorem xIsA_kd {t a n : Nat} (h : xIsA t a n) : xkd a = (t, (xkd a).2) := by rw [← h.1]

def xIs (ci a n : Nat) : Prop := match ci with
  | 0 => (a = iC_reader_current ∨ a = iC_reader_next) ∧ 107 ≤ n
  | 8 => (a = iC_rest_lasts ∨ a = iC_rest_spare ∨ a = iC_rest_each) ∧ 107 ≤ n
  | 2 => ∃ k, a = 107 + 2 * k ∧ 107 + 2 * k + 2 ≤ n
  | _ => False
def xfinl : List (Nat × Nat × Nat) := [(0, 0, 1), (0, 1, 3), (0, 2, 19), (0, 3, 23), (0, 4, 28), (0, 5, 35), (0, 6, 42), (0, 7, 49), (1, 0, 2), (3, 0, 4), (5, 0, 6), (5, 1, 7), (5, 2, 8), (5, 3, 9), (5, 4, 10), (5, 5, 11), (12, 0, 13), (12, 1, 14), (12, 2, 15), (12, 3, 16), (12, 4, 17), (12, 5, 18), (19, 0, 20), (19, 1, 21), (19, 2, 22), (23, 0, 19), (23, 1, 24), (23, 2, 25), (23, 3, 26), (23, 4, 27), (28, 0, 29), (28, 1, 30), (28, 2, 31), (28, 3, 32), (28, 4, 33), (28, 5, 34), (35, 0, 36), (35, 1, 37), (35, 2, 38), (35, 3, 39), (35, 4, 40), (35, 5, 41), (42, 0, 19), (42, 1, 43), (42, 2, 44), (42, 3, 45), (42, 4, 46), (42, 5, 47), (42, 6, 48), (49, 0, 19), (49, 1, 42), (49, 2, 50), (49, 3, 51), (49, 6, 58), (52, 0, 53), (52, 1, 54), (55, 0, 56), (55, 1, 57), (58, 0, 59), (58, 1, 60), (61, 4, 62), (61, 5, 63), (61, 6, 64), (61, 7, 65), (61, 8, 66), (61, 9, 67), (61, 10, 68), (61, 21, 69), (61, 22, 70), (61, 23, 71), (61, 24, 72), (61, 25, 73), (61, 26, 74), (61, 27, 75), (61, 28, 76), (61, 29, 77), (61, 30, 78), (61, 31, 79), (61, 32, 80), (61, 33, 81), (61, 35, 82), (61, 36, 83), (61, 38, 84), (61, 39, 85), (61, 40, 86), (61, 41, 87), (61, 42, 88), (61, 43, 89), (61, 44, 90), (61, 45, 91), (61, 46, 92), (61, 47, 93), (61, 48, 94), (61, 49, 95), (61, 50, 96), (61, 51, 97), (61, 52, 98), (61, 57, 99), (61, 58, 100), (61, 59, 101), (61, 60, 102), (61, 62, 103), (61, 63, 104), (61, 64, 105), (61, 65, 106)]
def xdynl : List (Nat × Nat × Nat) := [(3, 1, 0), (3, 2, 0), (49, 4, 8), (49, 5, 8)]
def xFin (R : xr) (n : Nat) : Prop := 107 ≤ n ∧ (∀ q ∈ xfinl, R q.1 q.2.1 = some q.2.2) ∧ (∀ k, 107 + 2 * k + 2 ≤ n → R (107 + 2 * k) 3 = some (107 + 2 * k + 1)) ∧ (∀ q ∈ xdynl, ∀ a, R q.1 q.2.1 = some a → xIs q.2.2 a n) ∧ ∀ i a, R 24 i = some a → xIs 2 a n
theorem xl {R : xr} {n a : Nat} (hF : xFin R n) (h : decide (a < 107) = true) : a < n := Nat.lt_of_lt_of_le (of_decide_eq_true h) hF.1
theorem kd_0 : xkd iC = (0, 11) := by decide +kernel
theorem kd_1 : xkd iC_tape = (0, 9) := by decide +kernel
theorem kd_2 : xkd iC_tape_bytes = (3, 400) := by decide +kernel
theorem kd_3 : xkd iC_reader = (0, 1) := by decide +kernel
theorem kd_4 : xkd iC_reader_text = (3, 200) := by decide +kernel
theorem kd_19 : xkd iC_people = (0, 5) := by decide +kernel
theorem kd_20 : xkd iC_people_worths = (1, 192) := by decide +kernel
theorem kd_21 : xkd iC_people_given = (1, 192) := by decide +kernel
theorem kd_22 : xkd iC_people_taken = (1, 192) := by decide +kernel
theorem kd_23 : xkd iC_meetings = (0, 3) := by decide +kernel
theorem kd_24 : xkd iC_meetings_list = (5, 24) := by decide +kernel
theorem kd_25 : xkd iC_meetings_facts = (1, 26) := by decide +kernel
theorem kd_26 : xkd iC_meetings_payers = (1, 24) := by decide +kernel
theorem kd_27 : xkd iC_meetings_paid = (1, 24) := by decide +kernel
theorem kd_28 : xkd iC_notes = (0, 4) := by decide +kernel
theorem kd_29 : xkd iC_notes_owers = (1, 60) := by decide +kernel
theorem kd_30 : xkd iC_notes_holders = (1, 60) := by decide +kernel
theorem kd_31 : xkd iC_notes_minutes = (1, 60) := by decide +kernel
theorem kd_32 : xkd iC_notes_made = (1, 60) := by decide +kernel
theorem kd_33 : xkd iC_notes_lapses = (1, 60) := by decide +kernel
theorem kd_34 : xkd iC_notes_free = (1, 7) := by decide +kernel
theorem kd_35 : xkd iC_striking = (0, 7) := by decide +kernel
theorem kd_36 : xkd iC_striking_due = (1, 64) := by decide +kernel
theorem kd_37 : xkd iC_striking_left = (1, 64) := by decide +kernel
theorem kd_38 : xkd iC_striking_balance = (1, 8) := by decide +kernel
theorem kd_39 : xkd iC_striking_away = (1, 8) := by decide +kernel
theorem kd_40 : xkd iC_striking_from = (1, 8) := by decide +kernel
theorem kd_41 : xkd iC_striking_clear = (1, 256) := by decide +kernel
theorem kd_42 : xkd iC_ways = (0, 10) := by decide +kernel
theorem kd_43 : xkd iC_ways_told = (1, 8) := by decide +kernel
theorem kd_44 : xkd iC_ways_minutes = (1, 40) := by decide +kernel
theorem kd_45 : xkd iC_ways_weights = (1, 40) := by decide +kernel
theorem kd_46 : xkd iC_ways_allWeights = (1, 8) := by decide +kernel
theorem kd_47 : xkd iC_ways_crossing = (4, 8) := by decide +kernel
theorem kd_48 : xkd iC_ways_late = (2, 9) := by decide +kernel
theorem kd_49 : xkd iC_rest = (0, 6) := by decide +kernel
theorem kd_50 : xkd iC_rest_aheads = (1, 8) := by decide +kernel
theorem kd_51 : xkd iC_rest_costs = (2, 25) := by decide +kernel
theorem kd_58 : xkd iC_rest_each = (0, 8) := by decide +kernel
theorem kd_61 : xkd iM = (0, 12) := by decide +kernel
theorem kd_62 : xkd iM_worthOf = (1, 192) := by decide +kernel
theorem kd_63 : xkd iM_dayOf = (1, 24) := by decide +kernel
theorem kd_64 : xkd iM_minuteOf = (1, 24) := by decide +kernel
theorem kd_65 : xkd iM_peopleOf = (1, 24) := by decide +kernel
theorem kd_66 : xkd iM_cameAt = (1, 192) := by decide +kernel
theorem kd_67 : xkd iM_isSettled = (4, 24) := by decide +kernel
theorem kd_68 : xkd iM_tape = (3, 400) := by decide +kernel
theorem kd_69 : xkd iM_said = (1, 220) := by decide +kernel
theorem kd_70 : xkd iM_waits = (1, 220) := by decide +kernel
theorem kd_71 : xkd iM_saidLetter = (1, 14) := by decide +kernel
theorem kd_72 : xkd iM_saidFrom = (1, 14) := by decide +kernel
theorem kd_73 : xkd iM_saidHalf = (1, 14) := by decide +kernel
theorem kd_74 : xkd iM_saidTo = (1, 14) := by decide +kernel
theorem kd_75 : xkd iM_codes = (1, 220) := by decide +kernel
theorem kd_76 : xkd iM_letterOf = (1, 14) := by decide +kernel
theorem kd_77 : xkd iM_codeFrom = (1, 14) := by decide +kernel
theorem kd_78 : xkd iM_codeHalf = (1, 14) := by decide +kernel
theorem kd_79 : xkd iM_codeTo = (1, 14) := by decide +kernel
theorem kd_80 : xkd iM_stack = (1, 220) := by decide +kernel
theorem kd_81 : xkd iM_facts = (1, 12) := by decide +kernel
theorem kd_82 : xkd iM_chainWho = (1, 24) := by decide +kernel
theorem kd_83 : xkd iM_chainMinutes = (1, 24) := by decide +kernel
theorem kd_84 : xkd iM_owesIt = (1, 60) := by decide +kernel
theorem kd_85 : xkd iM_hasIt = (1, 60) := by decide +kernel
theorem kd_86 : xkd iM_leftOf = (1, 60) := by decide +kernel
theorem kd_87 : xkd iM_madeOn = (1, 60) := by decide +kernel
theorem kd_88 : xkd iM_lapseOf = (1, 60) := by decide +kernel
theorem kd_89 : xkd iM_tookIn = (1, 192) := by decide +kernel
theorem kd_90 : xkd iM_gaveIn = (1, 192) := by decide +kernel
theorem kd_91 : xkd iM_liveFrom = (1, 7) := by decide +kernel
theorem kd_92 : xkd iM_isUsed = (4, 168) := by decide +kernel
theorem kd_93 : xkd iM_least0 = (1, 64) := by decide +kernel
theorem kd_94 : xkd iM_most0 = (1, 64) := by decide +kernel
theorem kd_95 : xkd iM_balance = (1, 8) := by decide +kernel
theorem kd_96 : xkd iM_way = (1, 8) := by decide +kernel
theorem kd_97 : xkd iM_cameBy = (1, 8) := by decide +kernel
theorem kd_98 : xkd iM_groups = (1, 256) := by decide +kernel
theorem kd_99 : xkd iM_endMany = (1, 8) := by decide +kernel
theorem kd_100 : xkd iM_endMinutes = (1, 40) := by decide +kernel
theorem kd_101 : xkd iM_endWeight = (1, 40) := by decide +kernel
theorem kd_102 : xkd iM_lateBy = (2, 9) := by decide +kernel
theorem kd_103 : xkd iM_goer = (1, 4) := by decide +kernel
theorem kd_104 : xkd iM_aheadOf = (1, 4) := by decide +kernel
theorem kd_106 : xkd iM_comesAt = (1, 4) := by decide +kernel
theorem fr_0_0 {R : xr} {n : Nat} (hF : xFin R n) : R iC 0 = some iC_tape := hF.2.1 (0, 0, 1) (List.mem_of_getElem? (i := 0) rfl)
theorem fr_0_1 {R : xr} {n : Nat} (hF : xFin R n) : R iC 1 = some iC_reader := hF.2.1 (0, 1, 3) (List.mem_of_getElem? (i := 1) rfl)
theorem fr_0_2 {R : xr} {n : Nat} (hF : xFin R n) : R iC 2 = some iC_people := hF.2.1 (0, 2, 19) (List.mem_of_getElem? (i := 2) rfl)
theorem fr_0_3 {R : xr} {n : Nat} (hF : xFin R n) : R iC 3 = some iC_meetings := hF.2.1 (0, 3, 23) (List.mem_of_getElem? (i := 3) rfl)
theorem fr_0_4 {R : xr} {n : Nat} (hF : xFin R n) : R iC 4 = some iC_notes := hF.2.1 (0, 4, 28) (List.mem_of_getElem? (i := 4) rfl)
theorem fr_0_5 {R : xr} {n : Nat} (hF : xFin R n) : R iC 5 = some iC_striking := hF.2.1 (0, 5, 35) (List.mem_of_getElem? (i := 5) rfl)
theorem fr_0_6 {R : xr} {n : Nat} (hF : xFin R n) : R iC 6 = some iC_ways := hF.2.1 (0, 6, 42) (List.mem_of_getElem? (i := 6) rfl)
theorem fr_0_7 {R : xr} {n : Nat} (hF : xFin R n) : R iC 7 = some iC_rest := hF.2.1 (0, 7, 49) (List.mem_of_getElem? (i := 7) rfl)
theorem fr_1_0 {R : xr} {n : Nat} (hF : xFin R n) : R iC_tape 0 = some iC_tape_bytes := hF.2.1 (1, 0, 2) (List.mem_of_getElem? (i := 8) rfl)
theorem fr_3_0 {R : xr} {n : Nat} (hF : xFin R n) : R iC_reader 0 = some iC_reader_text := hF.2.1 (3, 0, 4) (List.mem_of_getElem? (i := 9) rfl)
theorem fr_19_0 {R : xr} {n : Nat} (hF : xFin R n) : R iC_people 0 = some iC_people_worths := hF.2.1 (19, 0, 20) (List.mem_of_getElem? (i := 22) rfl)
theorem fr_19_1 {R : xr} {n : Nat} (hF : xFin R n) : R iC_people 1 = some iC_people_given := hF.2.1 (19, 1, 21) (List.mem_of_getElem? (i := 23) rfl)
theorem fr_19_2 {R : xr} {n : Nat} (hF : xFin R n) : R iC_people 2 = some iC_people_taken := hF.2.1 (19, 2, 22) (List.mem_of_getElem? (i := 24) rfl)
theorem fr_23_0 {R : xr} {n : Nat} (hF : xFin R n) : R iC_meetings 0 = some iC_people := hF.2.1 (23, 0, 19) (List.mem_of_getElem? (i := 25) rfl)
theorem fr_23_1 {R : xr} {n : Nat} (hF : xFin R n) : R iC_meetings 1 = some iC_meetings_list := hF.2.1 (23, 1, 24) (List.mem_of_getElem? (i := 26) rfl)
theorem fr_23_2 {R : xr} {n : Nat} (hF : xFin R n) : R iC_meetings 2 = some iC_meetings_facts := hF.2.1 (23, 2, 25) (List.mem_of_getElem? (i := 27) rfl)
theorem fr_23_3 {R : xr} {n : Nat} (hF : xFin R n) : R iC_meetings 3 = some iC_meetings_payers := hF.2.1 (23, 3, 26) (List.mem_of_getElem? (i := 28) rfl)
theorem fr_23_4 {R : xr} {n : Nat} (hF : xFin R n) : R iC_meetings 4 = some iC_meetings_paid := hF.2.1 (23, 4, 27) (List.mem_of_getElem? (i := 29) rfl)
theorem fr_28_0 {R : xr} {n : Nat} (hF : xFin R n) : R iC_notes 0 = some iC_notes_owers := hF.2.1 (28, 0, 29) (List.mem_of_getElem? (i := 30) rfl)
theorem fr_28_1 {R : xr} {n : Nat} (hF : xFin R n) : R iC_notes 1 = some iC_notes_holders := hF.2.1 (28, 1, 30) (List.mem_of_getElem? (i := 31) rfl)
theorem fr_28_2 {R : xr} {n : Nat} (hF : xFin R n) : R iC_notes 2 = some iC_notes_minutes := hF.2.1 (28, 2, 31) (List.mem_of_getElem? (i := 32) rfl)
theorem fr_28_3 {R : xr} {n : Nat} (hF : xFin R n) : R iC_notes 3 = some iC_notes_made := hF.2.1 (28, 3, 32) (List.mem_of_getElem? (i := 33) rfl)
theorem fr_28_4 {R : xr} {n : Nat} (hF : xFin R n) : R iC_notes 4 = some iC_notes_lapses := hF.2.1 (28, 4, 33) (List.mem_of_getElem? (i := 34) rfl)
theorem fr_28_5 {R : xr} {n : Nat} (hF : xFin R n) : R iC_notes 5 = some iC_notes_free := hF.2.1 (28, 5, 34) (List.mem_of_getElem? (i := 35) rfl)
theorem fr_35_0 {R : xr} {n : Nat} (hF : xFin R n) : R iC_striking 0 = some iC_striking_due := hF.2.1 (35, 0, 36) (List.mem_of_getElem? (i := 36) rfl)
theorem fr_35_1 {R : xr} {n : Nat} (hF : xFin R n) : R iC_striking 1 = some iC_striking_left := hF.2.1 (35, 1, 37) (List.mem_of_getElem? (i := 37) rfl)
theorem fr_35_2 {R : xr} {n : Nat} (hF : xFin R n) : R iC_striking 2 = some iC_striking_balance := hF.2.1 (35, 2, 38) (List.mem_of_getElem? (i := 38) rfl)
theorem fr_35_3 {R : xr} {n : Nat} (hF : xFin R n) : R iC_striking 3 = some iC_striking_away := hF.2.1 (35, 3, 39) (List.mem_of_getElem? (i := 39) rfl)
theorem fr_35_4 {R : xr} {n : Nat} (hF : xFin R n) : R iC_striking 4 = some iC_striking_from := hF.2.1 (35, 4, 40) (List.mem_of_getElem? (i := 40) rfl)
theorem fr_35_5 {R : xr} {n : Nat} (hF : xFin R n) : R iC_striking 5 = some iC_striking_clear := hF.2.1 (35, 5, 41) (List.mem_of_getElem? (i := 41) rfl)
theorem fr_42_0 {R : xr} {n : Nat} (hF : xFin R n) : R iC_ways 0 = some iC_people := hF.2.1 (42, 0, 19) (List.mem_of_getElem? (i := 42) rfl)
theorem fr_42_1 {R : xr} {n : Nat} (hF : xFin R n) : R iC_ways 1 = some iC_ways_told := hF.2.1 (42, 1, 43) (List.mem_of_getElem? (i := 43) rfl)
theorem fr_42_2 {R : xr} {n : Nat} (hF : xFin R n) : R iC_ways 2 = some iC_ways_minutes := hF.2.1 (42, 2, 44) (List.mem_of_getElem? (i := 44) rfl)
theorem fr_42_3 {R : xr} {n : Nat} (hF : xFin R n) : R iC_ways 3 = some iC_ways_weights := hF.2.1 (42, 3, 45) (List.mem_of_getElem? (i := 45) rfl)
theorem fr_42_4 {R : xr} {n : Nat} (hF : xFin R n) : R iC_ways 4 = some iC_ways_allWeights := hF.2.1 (42, 4, 46) (List.mem_of_getElem? (i := 46) rfl)
theorem fr_42_5 {R : xr} {n : Nat} (hF : xFin R n) : R iC_ways 5 = some iC_ways_crossing := hF.2.1 (42, 5, 47) (List.mem_of_getElem? (i := 47) rfl)
theorem fr_42_6 {R : xr} {n : Nat} (hF : xFin R n) : R iC_ways 6 = some iC_ways_late := hF.2.1 (42, 6, 48) (List.mem_of_getElem? (i := 48) rfl)
theorem fr_49_0 {R : xr} {n : Nat} (hF : xFin R n) : R iC_rest 0 = some iC_people := hF.2.1 (49, 0, 19) (List.mem_of_getElem? (i := 49) rfl)
theorem fr_49_1 {R : xr} {n : Nat} (hF : xFin R n) : R iC_rest 1 = some iC_ways := hF.2.1 (49, 1, 42) (List.mem_of_getElem? (i := 50) rfl)
theorem fr_49_2 {R : xr} {n : Nat} (hF : xFin R n) : R iC_rest 2 = some iC_rest_aheads := hF.2.1 (49, 2, 50) (List.mem_of_getElem? (i := 51) rfl)
theorem fr_49_3 {R : xr} {n : Nat} (hF : xFin R n) : R iC_rest 3 = some iC_rest_costs := hF.2.1 (49, 3, 51) (List.mem_of_getElem? (i := 52) rfl)
theorem fr_49_6 {R : xr} {n : Nat} (hF : xFin R n) : R iC_rest 6 = some iC_rest_each := hF.2.1 (49, 6, 58) (List.mem_of_getElem? (i := 53) rfl)
theorem fr_61_4 {R : xr} {n : Nat} (hF : xFin R n) : R iM 4 = some iM_worthOf := hF.2.1 (61, 4, 62) (List.mem_of_getElem? (i := 60) rfl)
theorem fr_61_5 {R : xr} {n : Nat} (hF : xFin R n) : R iM 5 = some iM_dayOf := hF.2.1 (61, 5, 63) (List.mem_of_getElem? (i := 61) rfl)
theorem fr_61_6 {R : xr} {n : Nat} (hF : xFin R n) : R iM 6 = some iM_minuteOf := hF.2.1 (61, 6, 64) (List.mem_of_getElem? (i := 62) rfl)
theorem fr_61_7 {R : xr} {n : Nat} (hF : xFin R n) : R iM 7 = some iM_peopleOf := hF.2.1 (61, 7, 65) (List.mem_of_getElem? (i := 63) rfl)
theorem fr_61_8 {R : xr} {n : Nat} (hF : xFin R n) : R iM 8 = some iM_cameAt := hF.2.1 (61, 8, 66) (List.mem_of_getElem? (i := 64) rfl)
theorem fr_61_9 {R : xr} {n : Nat} (hF : xFin R n) : R iM 9 = some iM_isSettled := hF.2.1 (61, 9, 67) (List.mem_of_getElem? (i := 65) rfl)
theorem fr_61_10 {R : xr} {n : Nat} (hF : xFin R n) : R iM 10 = some iM_tape := hF.2.1 (61, 10, 68) (List.mem_of_getElem? (i := 66) rfl)
theorem fr_61_21 {R : xr} {n : Nat} (hF : xFin R n) : R iM 21 = some iM_said := hF.2.1 (61, 21, 69) (List.mem_of_getElem? (i := 67) rfl)
theorem fr_61_22 {R : xr} {n : Nat} (hF : xFin R n) : R iM 22 = some iM_waits := hF.2.1 (61, 22, 70) (List.mem_of_getElem? (i := 68) rfl)
theorem fr_61_23 {R : xr} {n : Nat} (hF : xFin R n) : R iM 23 = some iM_saidLetter := hF.2.1 (61, 23, 71) (List.mem_of_getElem? (i := 69) rfl)
theorem fr_61_24 {R : xr} {n : Nat} (hF : xFin R n) : R iM 24 = some iM_saidFrom := hF.2.1 (61, 24, 72) (List.mem_of_getElem? (i := 70) rfl)
theorem fr_61_25 {R : xr} {n : Nat} (hF : xFin R n) : R iM 25 = some iM_saidHalf := hF.2.1 (61, 25, 73) (List.mem_of_getElem? (i := 71) rfl)
theorem fr_61_26 {R : xr} {n : Nat} (hF : xFin R n) : R iM 26 = some iM_saidTo := hF.2.1 (61, 26, 74) (List.mem_of_getElem? (i := 72) rfl)
theorem fr_61_27 {R : xr} {n : Nat} (hF : xFin R n) : R iM 27 = some iM_codes := hF.2.1 (61, 27, 75) (List.mem_of_getElem? (i := 73) rfl)
theorem fr_61_28 {R : xr} {n : Nat} (hF : xFin R n) : R iM 28 = some iM_letterOf := hF.2.1 (61, 28, 76) (List.mem_of_getElem? (i := 74) rfl)
theorem fr_61_29 {R : xr} {n : Nat} (hF : xFin R n) : R iM 29 = some iM_codeFrom := hF.2.1 (61, 29, 77) (List.mem_of_getElem? (i := 75) rfl)
theorem fr_61_30 {R : xr} {n : Nat} (hF : xFin R n) : R iM 30 = some iM_codeHalf := hF.2.1 (61, 30, 78) (List.mem_of_getElem? (i := 76) rfl)
theorem fr_61_31 {R : xr} {n : Nat} (hF : xFin R n) : R iM 31 = some iM_codeTo := hF.2.1 (61, 31, 79) (List.mem_of_getElem? (i := 77) rfl)
theorem fr_61_32 {R : xr} {n : Nat} (hF : xFin R n) : R iM 32 = some iM_stack := hF.2.1 (61, 32, 80) (List.mem_of_getElem? (i := 78) rfl)
theorem fr_61_33 {R : xr} {n : Nat} (hF : xFin R n) : R iM 33 = some iM_facts := hF.2.1 (61, 33, 81) (List.mem_of_getElem? (i := 79) rfl)
theorem fr_61_35 {R : xr} {n : Nat} (hF : xFin R n) : R iM 35 = some iM_chainWho := hF.2.1 (61, 35, 82) (List.mem_of_getElem? (i := 80) rfl)
theorem fr_61_36 {R : xr} {n : Nat} (hF : xFin R n) : R iM 36 = some iM_chainMinutes := hF.2.1 (61, 36, 83) (List.mem_of_getElem? (i := 81) rfl)
theorem fr_61_38 {R : xr} {n : Nat} (hF : xFin R n) : R iM 38 = some iM_owesIt := hF.2.1 (61, 38, 84) (List.mem_of_getElem? (i := 82) rfl)
theorem fr_61_39 {R : xr} {n : Nat} (hF : xFin R n) : R iM 39 = some iM_hasIt := hF.2.1 (61, 39, 85) (List.mem_of_getElem? (i := 83) rfl)
theorem fr_61_40 {R : xr} {n : Nat} (hF : xFin R n) : R iM 40 = some iM_leftOf := hF.2.1 (61, 40, 86) (List.mem_of_getElem? (i := 84) rfl)
theorem fr_61_41 {R : xr} {n : Nat} (hF : xFin R n) : R iM 41 = some iM_madeOn := hF.2.1 (61, 41, 87) (List.mem_of_getElem? (i := 85) rfl)
theorem fr_61_42 {R : xr} {n : Nat} (hF : xFin R n) : R iM 42 = some iM_lapseOf := hF.2.1 (61, 42, 88) (List.mem_of_getElem? (i := 86) rfl)
theorem fr_61_43 {R : xr} {n : Nat} (hF : xFin R n) : R iM 43 = some iM_tookIn := hF.2.1 (61, 43, 89) (List.mem_of_getElem? (i := 87) rfl)
theorem fr_61_44 {R : xr} {n : Nat} (hF : xFin R n) : R iM 44 = some iM_gaveIn := hF.2.1 (61, 44, 90) (List.mem_of_getElem? (i := 88) rfl)
theorem fr_61_45 {R : xr} {n : Nat} (hF : xFin R n) : R iM 45 = some iM_liveFrom := hF.2.1 (61, 45, 91) (List.mem_of_getElem? (i := 89) rfl)
theorem fr_61_46 {R : xr} {n : Nat} (hF : xFin R n) : R iM 46 = some iM_isUsed := hF.2.1 (61, 46, 92) (List.mem_of_getElem? (i := 90) rfl)
theorem fr_61_47 {R : xr} {n : Nat} (hF : xFin R n) : R iM 47 = some iM_least0 := hF.2.1 (61, 47, 93) (List.mem_of_getElem? (i := 91) rfl)
theorem fr_61_48 {R : xr} {n : Nat} (hF : xFin R n) : R iM 48 = some iM_most0 := hF.2.1 (61, 48, 94) (List.mem_of_getElem? (i := 92) rfl)
theorem fr_61_49 {R : xr} {n : Nat} (hF : xFin R n) : R iM 49 = some iM_balance := hF.2.1 (61, 49, 95) (List.mem_of_getElem? (i := 93) rfl)
theorem fr_61_50 {R : xr} {n : Nat} (hF : xFin R n) : R iM 50 = some iM_way := hF.2.1 (61, 50, 96) (List.mem_of_getElem? (i := 94) rfl)
theorem fr_61_51 {R : xr} {n : Nat} (hF : xFin R n) : R iM 51 = some iM_cameBy := hF.2.1 (61, 51, 97) (List.mem_of_getElem? (i := 95) rfl)
theorem fr_61_52 {R : xr} {n : Nat} (hF : xFin R n) : R iM 52 = some iM_groups := hF.2.1 (61, 52, 98) (List.mem_of_getElem? (i := 96) rfl)
theorem fr_61_57 {R : xr} {n : Nat} (hF : xFin R n) : R iM 57 = some iM_endMany := hF.2.1 (61, 57, 99) (List.mem_of_getElem? (i := 97) rfl)
theorem fr_61_58 {R : xr} {n : Nat} (hF : xFin R n) : R iM 58 = some iM_endMinutes := hF.2.1 (61, 58, 100) (List.mem_of_getElem? (i := 98) rfl)
theorem fr_61_59 {R : xr} {n : Nat} (hF : xFin R n) : R iM 59 = some iM_endWeight := hF.2.1 (61, 59, 101) (List.mem_of_getElem? (i := 99) rfl)
theorem fr_61_60 {R : xr} {n : Nat} (hF : xFin R n) : R iM 60 = some iM_lateBy := hF.2.1 (61, 60, 102) (List.mem_of_getElem? (i := 100) rfl)
theorem fr_61_62 {R : xr} {n : Nat} (hF : xFin R n) : R iM 62 = some iM_goer := hF.2.1 (61, 62, 103) (List.mem_of_getElem? (i := 101) rfl)
theorem fr_61_63 {R : xr} {n : Nat} (hF : xFin R n) : R iM 63 = some iM_aheadOf := hF.2.1 (61, 63, 104) (List.mem_of_getElem? (i := 102) rfl)
theorem fr_61_65 {R : xr} {n : Nat} (hF : xFin R n) : R iM 65 = some iM_comesAt := hF.2.1 (61, 65, 106) (List.mem_of_getElem? (i := 104) rfl)
theorem dy_3_1 {R : xr} {n : Nat} (hF : xFin R n) : ∀ a, R iC_reader 1 = some a → xIs 0 a n := hF.2.2.2.1 (3, 1, 0) (List.mem_of_getElem? (i := 0) rfl)
theorem xfin_ne_3_1 : ∀ q ∈ xfinl, ¬ (q.1 = 3 ∧ q.2.1 = 1) := by decide +kernel
theorem xdyn_ci_3_1 : ∀ q ∈ xdynl, q.1 = 3 ∧ q.2.1 = 1 → q.2.2 = 0 := by decide +kernel
theorem dw_3_1 {R S : xr} {n x : Nat} (hF : xFin R n) (hI : xIs 0 x n) (h : xup R iC_reader 1 (some x) = S) : xFin S n := by
  subst h
  have hu : ∀ a j, ¬ (a = 3 ∧ j = 1) → xup R iC_reader 1 (some x) a j = R a j := by
    intro a j hne
    by_cases h1 : a = 3
    · subst h1; exact xup_nek (fun e => hne ⟨rfl, e⟩)
    · exact congrFun (xup_ne h1) j
  refine ⟨hF.1, fun q hq => ?_, fun k hk => ?_, fun q hq a ha => ?_, fun i a ha => ?_⟩
  · rw [hu _ _ (xfin_ne_3_1 q hq)]; exact hF.2.1 q hq
  · rw [hu _ _ (by omega)]; exact hF.2.2.1 k hk
  · by_cases he : q.1 = 3 ∧ q.2.1 = 1
    · rw [he.1, he.2, show xup R iC_reader 1 (some x) 3 1 = some x from xup_self] at ha
      cases ha
      rw [xdyn_ci_3_1 q hq he]; exact hI
    · rw [hu _ _ he] at ha; exact hF.2.2.2.1 q hq a ha
  · rw [hu _ _ (by omega)] at ha; exact hF.2.2.2.2 i a ha
theorem dy_3_2 {R : xr} {n : Nat} (hF : xFin R n) : ∀ a, R iC_reader 2 = some a → xIs 0 a n := hF.2.2.2.1 (3, 2, 0) (List.mem_of_getElem? (i := 1) rfl)
theorem xfin_ne_3_2 : ∀ q ∈ xfinl, ¬ (q.1 = 3 ∧ q.2.1 = 2) := by decide +kernel
theorem xdyn_ci_3_2 : ∀ q ∈ xdynl, q.1 = 3 ∧ q.2.1 = 2 → q.2.2 = 0 := by decide +kernel
theorem dw_3_2 {R S : xr} {n x : Nat} (hF : xFin R n) (hI : xIs 0 x n) (h : xup R iC_reader 2 (some x) = S) : xFin S n := by
  subst h
  have hu : ∀ a j, ¬ (a = 3 ∧ j = 2) → xup R iC_reader 2 (some x) a j = R a j := by
    intro a j hne
    by_cases h1 : a = 3
    · subst h1; exact xup_nek (fun e => hne ⟨rfl, e⟩)
    · exact congrFun (xup_ne h1) j
  refine ⟨hF.1, fun q hq => ?_, fun k hk => ?_, fun q hq a ha => ?_, fun i a ha => ?_⟩
  · rw [hu _ _ (xfin_ne_3_2 q hq)]; exact hF.2.1 q hq
  · rw [hu _ _ (by omega)]; exact hF.2.2.1 k hk
  · by_cases he : q.1 = 3 ∧ q.2.1 = 2
    · rw [he.1, he.2, show xup R iC_reader 2 (some x) 3 2 = some x from xup_self] at ha
      cases ha
      rw [xdyn_ci_3_2 q hq he]; exact hI
    · rw [hu _ _ he] at ha; exact hF.2.2.2.1 q hq a ha
  · rw [hu _ _ (by omega)] at ha; exact hF.2.2.2.2 i a ha
theorem dy_49_4 {R : xr} {n : Nat} (hF : xFin R n) : ∀ a, R iC_rest 4 = some a → xIs 8 a n := hF.2.2.2.1 (49, 4, 8) (List.mem_of_getElem? (i := 2) rfl)
theorem xfin_ne_49_4 : ∀ q ∈ xfinl, ¬ (q.1 = 49 ∧ q.2.1 = 4) := by decide +kernel
theorem xdyn_ci_49_4 : ∀ q ∈ xdynl, q.1 = 49 ∧ q.2.1 = 4 → q.2.2 = 8 := by decide +kernel
theorem dw_49_4 {R S : xr} {n x : Nat} (hF : xFin R n) (hI : xIs 8 x n) (h : xup R iC_rest 4 (some x) = S) : xFin S n := by
  subst h
  have hu : ∀ a j, ¬ (a = 49 ∧ j = 4) → xup R iC_rest 4 (some x) a j = R a j := by
    intro a j hne
    by_cases h1 : a = 49
    · subst h1; exact xup_nek (fun e => hne ⟨rfl, e⟩)
    · exact congrFun (xup_ne h1) j
  refine ⟨hF.1, fun q hq => ?_, fun k hk => ?_, fun q hq a ha => ?_, fun i a ha => ?_⟩
  · rw [hu _ _ (xfin_ne_49_4 q hq)]; exact hF.2.1 q hq
  · rw [hu _ _ (by omega)]; exact hF.2.2.1 k hk
  · by_cases he : q.1 = 49 ∧ q.2.1 = 4
    · rw [he.1, he.2, show xup R iC_rest 4 (some x) 49 4 = some x from xup_self] at ha
      cases ha
      rw [xdyn_ci_49_4 q hq he]; exact hI
    · rw [hu _ _ he] at ha; exact hF.2.2.2.1 q hq a ha
  · rw [hu _ _ (by omega)] at ha; exact hF.2.2.2.2 i a ha
theorem dy_49_5 {R : xr} {n : Nat} (hF : xFin R n) : ∀ a, R iC_rest 5 = some a → xIs 8 a n := hF.2.2.2.1 (49, 5, 8) (List.mem_of_getElem? (i := 3) rfl)
theorem xfin_ne_49_5 : ∀ q ∈ xfinl, ¬ (q.1 = 49 ∧ q.2.1 = 5) := by decide +kernel
theorem xdyn_ci_49_5 : ∀ q ∈ xdynl, q.1 = 49 ∧ q.2.1 = 5 → q.2.2 = 8 := by decide +kernel
theorem dw_49_5 {R S : xr} {n x : Nat} (hF : xFin R n) (hI : xIs 8 x n) (h : xup R iC_rest 5 (some x) = S) : xFin S n := by
  subst h
  have hu : ∀ a j, ¬ (a = 49 ∧ j = 5) → xup R iC_rest 5 (some x) a j = R a j := by
    intro a j hne
    by_cases h1 : a = 49
    · subst h1; exact xup_nek (fun e => hne ⟨rfl, e⟩)
    · exact congrFun (xup_ne h1) j
  refine ⟨hF.1, fun q hq => ?_, fun k hk => ?_, fun q hq a ha => ?_, fun i a ha => ?_⟩
  · rw [hu _ _ (xfin_ne_49_5 q hq)]; exact hF.2.1 q hq
  · rw [hu _ _ (by omega)]; exact hF.2.2.1 k hk
  · by_cases he : q.1 = 49 ∧ q.2.1 = 5
    · rw [he.1, he.2, show xup R iC_rest 5 (some x) 49 5 = some x from xup_self] at ha
      cases ha
      rw [xdyn_ci_49_5 q hq he]; exact hI
    · rw [hu _ _ he] at ha; exact hF.2.2.2.1 q hq a ha
  · rw [hu _ _ (by omega)] at ha; exact hF.2.2.2.2 i a ha
theorem dyl {R : xr} {n : Nat} {i : Int32} {r : Option Nat} (hF : xFin R n) (h : xgR R iC_meetings_list 24 i = some r) : ∀ a, r = some a → xIs 2 a n := by
  obtain ⟨-, rfl⟩ := xgR_some h
  exact fun a ha => hF.2.2.2.2 _ a ha
theorem xIs0_kd {a n : Nat} (h : xIs 0 a n) : xkd a = (0, 0) := by
  obtain ⟨h, -⟩ := h
  rcases h with rfl | rfl <;> decide +kernel
theorem xIs0_lt {a n : Nat} (h : xIs 0 a n) : a < n := by
  obtain ⟨h, hn⟩ := h
  refine Nat.lt_of_lt_of_le ?_ hn
  rcases h with rfl | rfl <;> decide
theorem xIs0_kd0 {a n : Nat} (h : xIs 0 a n) : xkd (a + 1) = (1, 14) := by
  obtain ⟨h, -⟩ := h
  rcases h with rfl | rfl <;> decide +kernel
theorem xIs0_lt0 {a n : Nat} (h : xIs 0 a n) : a + 1 < n := by
  obtain ⟨h, hn⟩ := h
  refine Nat.lt_of_lt_of_le ?_ hn
  rcases h with rfl | rfl <;> decide
theorem xIs0_fr0 {R : xr} {a n : Nat} (hF : xFin R n) (h : xIs 0 a n) : R a 0 = some (a + 1) := by
  obtain ⟨h, -⟩ := h
  rcases h with rfl | rfl
  · exact hF.2.1 (5, 0, 6) (List.mem_of_getElem? (i := 10) rfl)
  · exact hF.2.1 (12, 0, 13) (List.mem_of_getElem? (i := 16) rfl)
theorem xIs0_kd1 {a n : Nat} (h : xIs 0 a n) : xkd (a + 2) = (1, 14) := by
  obtain ⟨h, -⟩ := h
  rcases h with rfl | rfl <;> decide +kernel
theorem xIs0_lt1 {a n : Nat} (h : xIs 0 a n) : a + 2 < n := by
  obtain ⟨h, hn⟩ := h
  refine Nat.lt_of_lt_of_le ?_ hn
  rcases h with rfl | rfl <;> decide
theorem xIs0_fr1 {R : xr} {a n : Nat} (hF : xFin R n) (h : xIs 0 a n) : R a 1 = some (a + 2) := by
  obtain ⟨h, -⟩ := h
  rcases h with rfl | rfl
  · exact hF.2.1 (5, 1, 7) (List.mem_of_getElem? (i := 11) rfl)
  · exact hF.2.1 (12, 1, 14) (List.mem_of_getElem? (i := 17) rfl)
theorem xIs0_kd2 {a n : Nat} (h : xIs 0 a n) : xkd (a + 3) = (1, 14) := by
  obtain ⟨h, -⟩ := h
  rcases h with rfl | rfl <;> decide +kernel
theorem xIs0_lt2 {a n : Nat} (h : xIs 0 a n) : a + 3 < n := by
  obtain ⟨h, hn⟩ := h
  refine Nat.lt_of_lt_of_le ?_ hn
  rcases h with rfl | rfl <;> decide
theorem xIs0_fr2 {R : xr} {a n : Nat} (hF : xFin R n) (h : xIs 0 a n) : R a 2 = some (a + 3) := by
  obtain ⟨h, -⟩ := h
  rcases h with rfl | rfl
  · exact hF.2.1 (5, 2, 8) (List.mem_of_getElem? (i := 12) rfl)
  · exact hF.2.1 (12, 2, 15) (List.mem_of_getElem? (i := 18) rfl)
theorem xIs0_kd3 {a n : Nat} (h : xIs 0 a n) : xkd (a + 4) = (1, 14) := by
  obtain ⟨h, -⟩ := h
  rcases h with rfl | rfl <;> decide +kernel
theorem xIs0_lt3 {a n : Nat} (h : xIs 0 a n) : a + 4 < n := by
  obtain ⟨h, hn⟩ := h
  refine Nat.lt_of_lt_of_le ?_ hn
  rcases h with rfl | rfl <;> decide
theorem xIs0_fr3 {R : xr} {a n : Nat} (hF : xFin R n) (h : xIs 0 a n) : R a 3 = some (a + 4) := by
  obtain ⟨h, -⟩ := h
  rcases h with rfl | rfl
  · exact hF.2.1 (5, 3, 9) (List.mem_of_getElem? (i := 13) rfl)
  · exact hF.2.1 (12, 3, 16) (List.mem_of_getElem? (i := 19) rfl)
theorem xIs0_kd4 {a n : Nat} (h : xIs 0 a n) : xkd (a + 5) = (1, 200) := by
  obtain ⟨h, -⟩ := h
  rcases h with rfl | rfl <;> decide +kernel
theorem xIs0_lt4 {a n : Nat} (h : xIs 0 a n) : a + 5 < n := by
  obtain ⟨h, hn⟩ := h
  refine Nat.lt_of_lt_of_le ?_ hn
  rcases h with rfl | rfl <;> decide
theorem xIs0_fr4 {R : xr} {a n : Nat} (hF : xFin R n) (h : xIs 0 a n) : R a 4 = some (a + 5) := by
  obtain ⟨h, -⟩ := h
  rcases h with rfl | rfl
  · exact hF.2.1 (5, 4, 10) (List.mem_of_getElem? (i := 14) rfl)
  · exact hF.2.1 (12, 4, 17) (List.mem_of_getElem? (i := 20) rfl)
theorem xIs0_kd5 {a n : Nat} (h : xIs 0 a n) : xkd (a + 6) = (2, 32) := by
  obtain ⟨h, -⟩ := h
  rcases h with rfl | rfl <;> decide +kernel
theorem xIs0_lt5 {a n : Nat} (h : xIs 0 a n) : a + 6 < n := by
  obtain ⟨h, hn⟩ := h
  refine Nat.lt_of_lt_of_le ?_ hn
  rcases h with rfl | rfl <;> decide
theorem xIs0_fr5 {R : xr} {a n : Nat} (hF : xFin R n) (h : xIs 0 a n) : R a 5 = some (a + 6) := by
  obtain ⟨h, -⟩ := h
  rcases h with rfl | rfl
  · exact hF.2.1 (5, 5, 11) (List.mem_of_getElem? (i := 15) rfl)
  · exact hF.2.1 (12, 5, 18) (List.mem_of_getElem? (i := 21) rfl)
theorem xIs8_kd {a n : Nat} (h : xIs 8 a n) : xkd a = (0, 8) := by
  obtain ⟨h, -⟩ := h
  rcases h with rfl | rfl | rfl <;> decide +kernel
theorem xIs8_lt {a n : Nat} (h : xIs 8 a n) : a < n := by
  obtain ⟨h, hn⟩ := h
  refine Nat.lt_of_lt_of_le ?_ hn
  rcases h with rfl | rfl | rfl <;> decide
theorem xIs8_kd0 {a n : Nat} (h : xIs 8 a n) : xkd (a + 1) = (1, 21) := by
  obtain ⟨h, -⟩ := h
  rcases h with rfl | rfl | rfl <;> decide +kernel
theorem xIs8_lt0 {a n : Nat} (h : xIs 8 a n) : a + 1 < n := by
  obtain ⟨h, hn⟩ := h
  refine Nat.lt_of_lt_of_le ?_ hn
  rcases h with rfl | rfl | rfl <;> decide
theorem xIs8_fr0 {R : xr} {a n : Nat} (hF : xFin R n) (h : xIs 8 a n) : R a 0 = some (a + 1) := by
  obtain ⟨h, -⟩ := h
  rcases h with rfl | rfl | rfl
  · exact hF.2.1 (52, 0, 53) (List.mem_of_getElem? (i := 54) rfl)
  · exact hF.2.1 (55, 0, 56) (List.mem_of_getElem? (i := 56) rfl)
  · exact hF.2.1 (58, 0, 59) (List.mem_of_getElem? (i := 58) rfl)
theorem xIs8_kd1 {a n : Nat} (h : xIs 8 a n) : xkd (a + 2) = (2, 21) := by
  obtain ⟨h, -⟩ := h
  rcases h with rfl | rfl | rfl <;> decide +kernel
theorem xIs8_lt1 {a n : Nat} (h : xIs 8 a n) : a + 2 < n := by
  obtain ⟨h, hn⟩ := h
  refine Nat.lt_of_lt_of_le ?_ hn
  rcases h with rfl | rfl | rfl <;> decide
theorem xIs8_fr1 {R : xr} {a n : Nat} (hF : xFin R n) (h : xIs 8 a n) : R a 1 = some (a + 2) := by
  obtain ⟨h, -⟩ := h
  rcases h with rfl | rfl | rfl
  · exact hF.2.1 (52, 1, 54) (List.mem_of_getElem? (i := 55) rfl)
  · exact hF.2.1 (55, 1, 57) (List.mem_of_getElem? (i := 57) rfl)
  · exact hF.2.1 (58, 1, 60) (List.mem_of_getElem? (i := 59) rfl)
theorem xIs2_kd {a n : Nat} (h : xIs 2 a n) : xkd a = (0, 2) := by
  obtain ⟨k, rfl, -⟩ := h
  unfold xkd
  rw [if_neg (by omega), if_pos (by omega)]
theorem xIs2_lt {a n : Nat} (h : xIs 2 a n) : a < n := by
  obtain ⟨k, rfl, h⟩ := h
  omega
theorem xIs2_kd3 {a n : Nat} (h : xIs 2 a n) : xkd (a + 1) = (1, 8) := by
  obtain ⟨k, rfl, -⟩ := h
  unfold xkd
  rw [if_neg (by omega), if_neg (by omega)]
theorem xIs2_lt3 {a n : Nat} (h : xIs 2 a n) : a + 1 < n := by
  obtain ⟨k, rfl, h⟩ := h
  omega
theorem xIs2_fr3 {R : xr} {a n : Nat} (hF : xFin R n) (h : xIs 2 a n) : R a 3 = some (a + 1) := by
  obtain ⟨k, rfl, h⟩ := h
  exact hF.2.2.1 k h
theorem st_58 {R : xr} {n : Nat} (hF : xFin R n) : xIs 8 iC_rest_each n := ⟨Or.inr (Or.inr rfl), hF.1⟩
