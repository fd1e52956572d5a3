/-! A: what the reference holds that lasts, as whole numbers, by the numbers of its cells. RH: its memory holds A. CH: the class's memory holds A. Inv: what A is like. -/
abbrev xAs : Type := Nat → Int → Int
abbrev RH (A : xAs) (μ : xm) : Prop := gi μ iM 0 = A iM 0 ∧ gi μ iM 1 = A iM 1 ∧ gi μ iM 2 = A iM 2 ∧ gi μ iM 3 = A iM 3 ∧ gi μ iM 11 = A iM 11 ∧ gi μ iM 20 = A iM 20 ∧ gi μ iM 37 = A iM 37 ∧ gi μ iM 53 = A iM 53 ∧ gi μ iM 54 = A iM 54 ∧ gi μ iM 55 = A iM 55 ∧ gi μ iM 56 = A iM 56 ∧ gi μ iM_worthOf = A iM_worthOf ∧ gi μ iM_dayOf = A iM_dayOf ∧ gi μ iM_minuteOf = A iM_minuteOf ∧ gi μ iM_peopleOf = A iM_peopleOf ∧ gi μ iM_cameAt = A iM_cameAt ∧ gi μ iM_isSettled = A iM_isSettled ∧ gi μ iM_tape = A iM_tape ∧ gi μ iM_owesIt = A iM_owesIt ∧ gi μ iM_hasIt = A iM_hasIt ∧ gi μ iM_leftOf = A iM_leftOf ∧ gi μ iM_madeOn = A iM_madeOn ∧ gi μ iM_lapseOf = A iM_lapseOf ∧ gi μ iM_tookIn = A iM_tookIn ∧ gi μ iM_gaveIn = A iM_gaveIn ∧ gi μ iM_endMany = A iM_endMany ∧ gi μ iM_endMinutes = A iM_endMinutes ∧ gi μ iM_endWeight = A iM_endWeight
/-- the bit of a set -/
def bitI (c k : Int) : Int := c / (2 ^ k.toNat) % 2
abbrev inc (P p : Int) : Prop := 0 ≤ p ∧ p < 8 ∧ bitI P p = 1
def Inv (A : xAs) : Prop := (0 ≤ A iM 0 ∧ A iM 0 ≤ 99) ∧ (0 ≤ A iM 1 ∧ A iM 1 ≤ 24) ∧ (0 ≤ A iM 2 ∧ A iM 2 ≤ 65535) ∧ (0 ≤ A iM 11 ∧ A iM 11 ≤ 400) ∧ (0 ≤ A iM 37 ∧ A iM 37 ≤ 60) ∧ (0 ≤ A iM 53 ∧ A iM 53 ≤ A iM 54 ∧ 1 ≤ A iM 54 ∧ A iM 54 ≤ 100 ∧ 0 ≤ A iM 55 ∧ A iM 55 ≤ 600) ∧ (0 ≤ A iM 56 ∧ A iM 56 < 256) ∧ (∀ z, 0 ≤ z → z < 192 → 0 ≤ A iM_worthOf z ∧ A iM_worthOf z ≤ 99) ∧ (∀ m, 0 ≤ m → m < A iM 1 → 0 ≤ A iM_dayOf m ∧ A iM_dayOf m ≤ 99) ∧ (∀ m, 0 ≤ m → m < A iM 1 → 0 ≤ A iM_minuteOf m ∧ A iM_minuteOf m ≤ 1439) ∧ (∀ m, 0 ≤ m → m < A iM 1 → 0 ≤ A iM_peopleOf m ∧ A iM_peopleOf m < 256) ∧ (∀ m p, 0 ≤ m → m < A iM 1 → 0 ≤ p → p < 8 → -1 ≤ A iM_cameAt (8 * m + p) ∧ A iM_cameAt (8 * m + p) ≤ 1439 ∧ (bitI (A iM_peopleOf m) p ≠ 1 → A iM_cameAt (8 * m + p) = -1)) ∧ (∀ m, 0 ≤ m → m < A iM 1 → A iM_isSettled m = 0 ∨ A iM_isSettled m = 1) ∧ (∀ m p, 0 ≤ m → m < A iM 1 → A iM_isSettled m = 1 → inc (A iM_peopleOf m) p → A iM_cameAt (8 * m + p) ≠ -1) ∧ (∀ z, 0 ≤ z → z < 400 → -128 ≤ A iM_tape z ∧ A iM_tape z ≤ 127) ∧ (∀ i, 0 ≤ i → i < A iM 37 → 0 ≤ A iM_owesIt i ∧ A iM_owesIt i < 8) ∧ (∀ i, 0 ≤ i → i < A iM 37 → 0 ≤ A iM_hasIt i ∧ A iM_hasIt i < 8) ∧ (∀ i, 0 ≤ i → i < A iM 37 → 0 ≤ A iM_leftOf i ∧ A iM_leftOf i ≤ 1440) ∧ (∀ i, 0 ≤ i → i < A iM 37 → 0 ≤ A iM_madeOn i ∧ A iM_madeOn i ≤ 99) ∧ (∀ i, 0 ≤ i → i < A iM 37 → -1 ≤ A iM_lapseOf i ∧ A iM_lapseOf i ≤ 199) ∧ (∀ i, 0 ≤ i → i < A iM 37 → A iM_owesIt i = A iM_hasIt i → A iM_leftOf i = 0) ∧ (∀ z, 0 ≤ z → z < 192 → 0 ≤ A iM_tookIn z ∧ A iM_tookIn z ≤ 60) ∧ (∀ z, 0 ≤ z → z < 192 → 0 ≤ A iM_gaveIn z ∧ A iM_gaveIn z ≤ 60) ∧ (∀ p, 0 ≤ p → p < 8 → 0 ≤ A iM_endMany p ∧ A iM_endMany p ≤ 5) ∧ (∀ p e, 0 ≤ p → p < 8 → 0 ≤ e → e < A iM_endMany p → 0 ≤ A iM_endMinutes (5 * p + e) ∧ A iM_endMinutes (5 * p + e) ≤ 300) ∧ (∀ p e, 0 ≤ p → p < 8 → 0 ≤ e → e < A iM_endMany p → 1 ≤ A iM_endWeight (5 * p + e) ∧ A iM_endWeight (5 * p + e) ≤ 20) ∧ (0 ≤ A iM 20 ∧ A iM 20 ≤ 14) ∧ (∀ m, A iM 1 ≤ m → m < 24 → A iM_isSettled m = 0)
theorem Inv.now {A : xAs} (h : Inv A) : 0 ≤ A iM 0 ∧ A iM 0 ≤ 99 := h.1
theorem Inv.mt {A : xAs} (h : Inv A) : 0 ≤ A iM 1 ∧ A iM 1 ≤ 24 := h.2.1
theorem Inv.x0 {A : xAs} (h : Inv A) : 0 ≤ A iM 2 ∧ A iM 2 ≤ 65535 := h.2.2.1
theorem Inv.taped {A : xAs} (h : Inv A) : 0 ≤ A iM 11 ∧ A iM 11 ≤ 400 := h.2.2.2.1
theorem Inv.notes {A : xAs} (h : Inv A) : 0 ≤ A iM 37 ∧ A iM 37 ≤ 60 := h.2.2.2.2.1
theorem Inv.bridge {A : xAs} (h : Inv A) : 0 ≤ A iM 53 ∧ A iM 53 ≤ A iM 54 ∧ 1 ≤ A iM 54 ∧ A iM 54 ≤ 100 ∧ 0 ≤ A iM 55 ∧ A iM 55 ≤ 600 := h.2.2.2.2.2.1
theorem Inv.crossing {A : xAs} (h : Inv A) : 0 ≤ A iM 56 ∧ A iM 56 < 256 := h.2.2.2.2.2.2.1
theorem Inv.worthOf {A : xAs} (h : Inv A) : ∀ z, 0 ≤ z → z < 192 → 0 ≤ A iM_worthOf z ∧ A iM_worthOf z ≤ 99 := h.2.2.2.2.2.2.2.1
theorem Inv.dayOf {A : xAs} (h : Inv A) : ∀ m, 0 ≤ m → m < A iM 1 → 0 ≤ A iM_dayOf m ∧ A iM_dayOf m ≤ 99 := h.2.2.2.2.2.2.2.2.1
theorem Inv.minuteOf {A : xAs} (h : Inv A) : ∀ m, 0 ≤ m → m < A iM 1 → 0 ≤ A iM_minuteOf m ∧ A iM_minuteOf m ≤ 1439 := h.2.2.2.2.2.2.2.2.2.1
theorem Inv.peopleOf {A : xAs} (h : Inv A) : ∀ m, 0 ≤ m → m < A iM 1 → 0 ≤ A iM_peopleOf m ∧ A iM_peopleOf m < 256 := h.2.2.2.2.2.2.2.2.2.2.1
theorem Inv.cameAt {A : xAs} (h : Inv A) : ∀ m p, 0 ≤ m → m < A iM 1 → 0 ≤ p → p < 8 → -1 ≤ A iM_cameAt (8 * m + p) ∧ A iM_cameAt (8 * m + p) ≤ 1439 ∧ (bitI (A iM_peopleOf m) p ≠ 1 → A iM_cameAt (8 * m + p) = -1) := h.2.2.2.2.2.2.2.2.2.2.2.1
theorem Inv.isSettled {A : xAs} (h : Inv A) : ∀ m, 0 ≤ m → m < A iM 1 → A iM_isSettled m = 0 ∨ A iM_isSettled m = 1 := h.2.2.2.2.2.2.2.2.2.2.2.2.1
theorem Inv.settledCame {A : xAs} (h : Inv A) : ∀ m p, 0 ≤ m → m < A iM 1 → A iM_isSettled m = 1 → inc (A iM_peopleOf m) p → A iM_cameAt (8 * m + p) ≠ -1 := h.2.2.2.2.2.2.2.2.2.2.2.2.2.1
theorem Inv.tape {A : xAs} (h : Inv A) : ∀ z, 0 ≤ z → z < 400 → -128 ≤ A iM_tape z ∧ A iM_tape z ≤ 127 := h.2.2.2.2.2.2.2.2.2.2.2.2.2.2.1
theorem Inv.owesIt {A : xAs} (h : Inv A) : ∀ i, 0 ≤ i → i < A iM 37 → 0 ≤ A iM_owesIt i ∧ A iM_owesIt i < 8 := h.2.2.2.2.2.2.2.2.2.2.2.2.2.2.2.1
theorem Inv.hasIt {A : xAs} (h : Inv A) : ∀ i, 0 ≤ i → i < A iM 37 → 0 ≤ A iM_hasIt i ∧ A iM_hasIt i < 8 := h.2.2.2.2.2.2.2.2.2.2.2.2.2.2.2.2.1
theorem Inv.leftOf {A : xAs} (h : Inv A) : ∀ i, 0 ≤ i → i < A iM 37 → 0 ≤ A iM_leftOf i ∧ A iM_leftOf i ≤ 1440 := h.2.2.2.2.2.2.2.2.2.2.2.2.2.2.2.2.2.1
theorem Inv.madeOn {A : xAs} (h : Inv A) : ∀ i, 0 ≤ i → i < A iM 37 → 0 ≤ A iM_madeOn i ∧ A iM_madeOn i ≤ 99 := h.2.2.2.2.2.2.2.2.2.2.2.2.2.2.2.2.2.2.1
theorem Inv.lapseOf {A : xAs} (h : Inv A) : ∀ i, 0 ≤ i → i < A iM 37 → -1 ≤ A iM_lapseOf i ∧ A iM_lapseOf i ≤ 199 := h.2.2.2.2.2.2.2.2.2.2.2.2.2.2.2.2.2.2.2.1
theorem Inv.own {A : xAs} (h : Inv A) : ∀ i, 0 ≤ i → i < A iM 37 → A iM_owesIt i = A iM_hasIt i → A iM_leftOf i = 0 := h.2.2.2.2.2.2.2.2.2.2.2.2.2.2.2.2.2.2.2.2.1
theorem Inv.tookIn {A : xAs} (h : Inv A) : ∀ z, 0 ≤ z → z < 192 → 0 ≤ A iM_tookIn z ∧ A iM_tookIn z ≤ 60 := h.2.2.2.2.2.2.2.2.2.2.2.2.2.2.2.2.2.2.2.2.2.1
theorem Inv.gaveIn {A : xAs} (h : Inv A) : ∀ z, 0 ≤ z → z < 192 → 0 ≤ A iM_gaveIn z ∧ A iM_gaveIn z ≤ 60 := h.2.2.2.2.2.2.2.2.2.2.2.2.2.2.2.2.2.2.2.2.2.2.1
theorem Inv.endMany {A : xAs} (h : Inv A) : ∀ p, 0 ≤ p → p < 8 → 0 ≤ A iM_endMany p ∧ A iM_endMany p ≤ 5 := h.2.2.2.2.2.2.2.2.2.2.2.2.2.2.2.2.2.2.2.2.2.2.2.1
theorem Inv.endMinutes {A : xAs} (h : Inv A) : ∀ p e, 0 ≤ p → p < 8 → 0 ≤ e → e < A iM_endMany p → 0 ≤ A iM_endMinutes (5 * p + e) ∧ A iM_endMinutes (5 * p + e) ≤ 300 := h.2.2.2.2.2.2.2.2.2.2.2.2.2.2.2.2.2.2.2.2.2.2.2.2.1
theorem Inv.endWeight {A : xAs} (h : Inv A) : ∀ p e, 0 ≤ p → p < 8 → 0 ≤ e → e < A iM_endMany p → 1 ≤ A iM_endWeight (5 * p + e) ∧ A iM_endWeight (5 * p + e) ≤ 20 := h.2.2.2.2.2.2.2.2.2.2.2.2.2.2.2.2.2.2.2.2.2.2.2.2.2.1
theorem Inv.clauses {A : xAs} (h : Inv A) : 0 ≤ A iM 20 ∧ A iM 20 ≤ 14 := h.2.2.2.2.2.2.2.2.2.2.2.2.2.2.2.2.2.2.2.2.2.2.2.2.2.2.1
theorem Inv.fresh {A : xAs} (h : Inv A) : ∀ m, A iM 1 ≤ m → m < 24 → A iM_isSettled m = 0 := h.2.2.2.2.2.2.2.2.2.2.2.2.2.2.2.2.2.2.2.2.2.2.2.2.2.2.2
/-- the ends of a way: how many, weight, minutes -/
def wEnds (A : xAs) (p : Int) : Int := if A iM_endMany p = 0 then 1 else A iM_endMany p
def wWt (A : xAs) (p e : Int) : Int := if A iM_endMany p = 0 then 1 else A iM_endWeight (5 * p + e)
def wMin (A : xAs) (p e : Int) : Int := if A iM_endMany p = 0 then 0 else A iM_endMinutes (5 * p + e)
def sumTo (f : Int → Int) : Nat → Int
  | 0 => 0
  | k + 1 => sumTo f k + f k
def wAll (A : xAs) (p : Int) : Int := sumTo (wWt A p) (wEnds A p).toNat
/-- the class's cell of meeting m -/
def oM (m : Int) : Nat := 107 + 2 * m.toNat
def CH (A : xAs) (μ : xm) (R : xr) (n : Nat) : Prop := (xFin R n) ∧ (n = 107 + 2 * (A iM 1).toNat) ∧ (gi μ iC 8 = A iM 0) ∧ (gi μ iC_tape 1 = A iM 11) ∧ (∀ z, 0 ≤ z → z < 400 → gi μ iC_tape_bytes z = A iM_tape z) ∧ (∀ z, 0 ≤ z → z < 192 → gi μ iC_people_worths z = A iM_worthOf z) ∧ (∀ z, 0 ≤ z → z < 192 → gi μ iC_people_given z = A iM_gaveIn z) ∧ (∀ z, 0 ≤ z → z < 192 → gi μ iC_people_taken z = A iM_tookIn z) ∧ (gi μ iC_meetings 5 = A iM 1) ∧ (∀ m, 0 ≤ m → m < A iM 1 → R iC_meetings_list m.toNat = some (oM m)) ∧ (∀ m, 0 ≤ m → m < A iM 1 → gi μ (oM m) 0 = A iM_dayOf m) ∧ (∀ m, 0 ≤ m → m < A iM 1 → gi μ (oM m) 1 = A iM_minuteOf m) ∧ (∀ m, 0 ≤ m → m < A iM 1 → gi μ (oM m) 2 = A iM_peopleOf m) ∧ (∀ m, 0 ≤ m → m < A iM 1 → gi μ (oM m) 4 = A iM_isSettled m) ∧ (∀ m p, 0 ≤ m → m < A iM 1 → 0 ≤ p → p < 8 → gi μ (oM m + 1) p = A iM_cameAt (8 * m + p)) ∧ (gi μ iC_notes 6 = A iM 37) ∧ (∀ i, 0 ≤ i → i < A iM 37 → gi μ iC_notes_owers i = A iM_owesIt i) ∧ (∀ i, 0 ≤ i → i < A iM 37 → gi μ iC_notes_holders i = A iM_hasIt i) ∧ (∀ i, 0 ≤ i → i < A iM 37 → gi μ iC_notes_minutes i = A iM_leftOf i) ∧ (∀ i, 0 ≤ i → i < A iM 37 → gi μ iC_notes_made i = A iM_madeOn i) ∧ (∀ i, 0 ≤ i → i < A iM 37 → gi μ iC_notes_lapses i = A iM_lapseOf i) ∧ (∀ p, 0 ≤ p → p < 8 → gi μ iC_ways_told p = A iM_endMany p) ∧ (∀ p e, 0 ≤ p → p < 8 → 0 ≤ e → e < wEnds A p → gi μ iC_ways_minutes (5 * p + e) = wMin A p e) ∧ (∀ p e, 0 ≤ p → p < 8 → 0 ≤ e → e < wEnds A p → gi μ iC_ways_weights (5 * p + e) = wWt A p e) ∧ (∀ p, 0 ≤ p → p < 8 → gi μ iC_ways_allWeights p = wAll A p) ∧ (∀ p, 0 ≤ p → p < 8 → gi μ iC_ways_crossing p = bitI (A iM 56) p) ∧ (gi μ iC_ways 7 = A iM 53) ∧ (gi μ iC_ways 8 = A iM 54) ∧ (gi μ iC_ways 9 = A iM 55) ∧ (gi μ iC_ways 10 = A iM 2) ∧ (gi μ iC_striking_clear 0 = 0) ∧ (R iC_rest 4 ≠ R iC_rest 5) ∧ (R iC_reader 1 ≠ R iC_reader 2) ∧ (R iC_rest 4 ≠ some iC_rest_each ∧ R iC_rest 5 ≠ some iC_rest_each ∧ (∃ a, R iC_rest 4 = some a) ∧ ∃ a, R iC_rest 5 = some a) ∧ ((∃ a, R iC_reader 1 = some a) ∧ ∃ a, R iC_reader 2 = some a) ∧ (A iM 3 = sumTo (fun m => A iM_isSettled m) (A iM 1).toNat)
theorem CH.fin {A : xAs} {μ : xm} {R : xr} {n : Nat} (h : CH A μ R n) : xFin R n := h.1
theorem CH.n {A : xAs} {μ : xm} {R : xr} {n : Nat} (h : CH A μ R n) : n = 107 + 2 * (A iM 1).toNat := h.2.1
theorem CH.now {A : xAs} {μ : xm} {R : xr} {n : Nat} (h : CH A μ R n) : gi μ iC 8 = A iM 0 := h.2.2.1
theorem CH.taped {A : xAs} {μ : xm} {R : xr} {n : Nat} (h : CH A μ R n) : gi μ iC_tape 1 = A iM 11 := h.2.2.2.1
theorem CH.tape {A : xAs} {μ : xm} {R : xr} {n : Nat} (h : CH A μ R n) : ∀ z, 0 ≤ z → z < 400 → gi μ iC_tape_bytes z = A iM_tape z := h.2.2.2.2.1
theorem CH.worths {A : xAs} {μ : xm} {R : xr} {n : Nat} (h : CH A μ R n) : ∀ z, 0 ≤ z → z < 192 → gi μ iC_people_worths z = A iM_worthOf z := h.2.2.2.2.2.1
theorem CH.given {A : xAs} {μ : xm} {R : xr} {n : Nat} (h : CH A μ R n) : ∀ z, 0 ≤ z → z < 192 → gi μ iC_people_given z = A iM_gaveIn z := h.2.2.2.2.2.2.1
theorem CH.taken {A : xAs} {μ : xm} {R : xr} {n : Nat} (h : CH A μ R n) : ∀ z, 0 ≤ z → z < 192 → gi μ iC_people_taken z = A iM_tookIn z := h.2.2.2.2.2.2.2.1
theorem CH.mt {A : xAs} {μ : xm} {R : xr} {n : Nat} (h : CH A μ R n) : gi μ iC_meetings 5 = A iM 1 := h.2.2.2.2.2.2.2.2.1
theorem CH.list {A : xAs} {μ : xm} {R : xr} {n : Nat} (h : CH A μ R n) : ∀ m, 0 ≤ m → m < A iM 1 → R iC_meetings_list m.toNat = some (oM m) := h.2.2.2.2.2.2.2.2.2.1
theorem CH.day {A : xAs} {μ : xm} {R : xr} {n : Nat} (h : CH A μ R n) : ∀ m, 0 ≤ m → m < A iM 1 → gi μ (oM m) 0 = A iM_dayOf m := h.2.2.2.2.2.2.2.2.2.2.1
theorem CH.minute {A : xAs} {μ : xm} {R : xr} {n : Nat} (h : CH A μ R n) : ∀ m, 0 ≤ m → m < A iM 1 → gi μ (oM m) 1 = A iM_minuteOf m := h.2.2.2.2.2.2.2.2.2.2.2.1
theorem CH.people {A : xAs} {μ : xm} {R : xr} {n : Nat} (h : CH A μ R n) : ∀ m, 0 ≤ m → m < A iM 1 → gi μ (oM m) 2 = A iM_peopleOf m := h.2.2.2.2.2.2.2.2.2.2.2.2.1
theorem CH.settled {A : xAs} {μ : xm} {R : xr} {n : Nat} (h : CH A μ R n) : ∀ m, 0 ≤ m → m < A iM 1 → gi μ (oM m) 4 = A iM_isSettled m := h.2.2.2.2.2.2.2.2.2.2.2.2.2.1
theorem CH.came {A : xAs} {μ : xm} {R : xr} {n : Nat} (h : CH A μ R n) : ∀ m p, 0 ≤ m → m < A iM 1 → 0 ≤ p → p < 8 → gi μ (oM m + 1) p = A iM_cameAt (8 * m + p) := h.2.2.2.2.2.2.2.2.2.2.2.2.2.2.1
theorem CH.notes {A : xAs} {μ : xm} {R : xr} {n : Nat} (h : CH A μ R n) : gi μ iC_notes 6 = A iM 37 := h.2.2.2.2.2.2.2.2.2.2.2.2.2.2.2.1
theorem CH.owers {A : xAs} {μ : xm} {R : xr} {n : Nat} (h : CH A μ R n) : ∀ i, 0 ≤ i → i < A iM 37 → gi μ iC_notes_owers i = A iM_owesIt i := h.2.2.2.2.2.2.2.2.2.2.2.2.2.2.2.2.1
theorem CH.holders {A : xAs} {μ : xm} {R : xr} {n : Nat} (h : CH A μ R n) : ∀ i, 0 ≤ i → i < A iM 37 → gi μ iC_notes_holders i = A iM_hasIt i := h.2.2.2.2.2.2.2.2.2.2.2.2.2.2.2.2.2.1
theorem CH.minutes {A : xAs} {μ : xm} {R : xr} {n : Nat} (h : CH A μ R n) : ∀ i, 0 ≤ i → i < A iM 37 → gi μ iC_notes_minutes i = A iM_leftOf i := h.2.2.2.2.2.2.2.2.2.2.2.2.2.2.2.2.2.2.1
theorem CH.made {A : xAs} {μ : xm} {R : xr} {n : Nat} (h : CH A μ R n) : ∀ i, 0 ≤ i → i < A iM 37 → gi μ iC_notes_made i = A iM_madeOn i := h.2.2.2.2.2.2.2.2.2.2.2.2.2.2.2.2.2.2.2.1
theorem CH.lapses {A : xAs} {μ : xm} {R : xr} {n : Nat} (h : CH A μ R n) : ∀ i, 0 ≤ i → i < A iM 37 → gi μ iC_notes_lapses i = A iM_lapseOf i := h.2.2.2.2.2.2.2.2.2.2.2.2.2.2.2.2.2.2.2.2.1
theorem CH.told {A : xAs} {μ : xm} {R : xr} {n : Nat} (h : CH A μ R n) : ∀ p, 0 ≤ p → p < 8 → gi μ iC_ways_told p = A iM_endMany p := h.2.2.2.2.2.2.2.2.2.2.2.2.2.2.2.2.2.2.2.2.2.1
theorem CH.wmin {A : xAs} {μ : xm} {R : xr} {n : Nat} (h : CH A μ R n) : ∀ p e, 0 ≤ p → p < 8 → 0 ≤ e → e < wEnds A p → gi μ iC_ways_minutes (5 * p + e) = wMin A p e := h.2.2.2.2.2.2.2.2.2.2.2.2.2.2.2.2.2.2.2.2.2.2.1
theorem CH.wwt {A : xAs} {μ : xm} {R : xr} {n : Nat} (h : CH A μ R n) : ∀ p e, 0 ≤ p → p < 8 → 0 ≤ e → e < wEnds A p → gi μ iC_ways_weights (5 * p + e) = wWt A p e := h.2.2.2.2.2.2.2.2.2.2.2.2.2.2.2.2.2.2.2.2.2.2.2.1
theorem CH.wall {A : xAs} {μ : xm} {R : xr} {n : Nat} (h : CH A μ R n) : ∀ p, 0 ≤ p → p < 8 → gi μ iC_ways_allWeights p = wAll A p := h.2.2.2.2.2.2.2.2.2.2.2.2.2.2.2.2.2.2.2.2.2.2.2.2.1
theorem CH.cross {A : xAs} {μ : xm} {R : xr} {n : Nat} (h : CH A μ R n) : ∀ p, 0 ≤ p → p < 8 → gi μ iC_ways_crossing p = bitI (A iM 56) p := h.2.2.2.2.2.2.2.2.2.2.2.2.2.2.2.2.2.2.2.2.2.2.2.2.2.1
theorem CH.shut {A : xAs} {μ : xm} {R : xr} {n : Nat} (h : CH A μ R n) : gi μ iC_ways 7 = A iM 53 := h.2.2.2.2.2.2.2.2.2.2.2.2.2.2.2.2.2.2.2.2.2.2.2.2.2.2.1
theorem CH.all {A : xAs} {μ : xm} {R : xr} {n : Nat} (h : CH A μ R n) : gi μ iC_ways 8 = A iM 54 := h.2.2.2.2.2.2.2.2.2.2.2.2.2.2.2.2.2.2.2.2.2.2.2.2.2.2.2.1
theorem CH.more {A : xAs} {μ : xm} {R : xr} {n : Nat} (h : CH A μ R n) : gi μ iC_ways 9 = A iM 55 := h.2.2.2.2.2.2.2.2.2.2.2.2.2.2.2.2.2.2.2.2.2.2.2.2.2.2.2.2.1
theorem CH.drawn {A : xAs} {μ : xm} {R : xr} {n : Nat} (h : CH A μ R n) : gi μ iC_ways 10 = A iM 2 := h.2.2.2.2.2.2.2.2.2.2.2.2.2.2.2.2.2.2.2.2.2.2.2.2.2.2.2.2.2.1
theorem CH.clear {A : xAs} {μ : xm} {R : xr} {n : Nat} (h : CH A μ R n) : gi μ iC_striking_clear 0 = 0 := h.2.2.2.2.2.2.2.2.2.2.2.2.2.2.2.2.2.2.2.2.2.2.2.2.2.2.2.2.2.2.1
theorem CH.rest {A : xAs} {μ : xm} {R : xr} {n : Nat} (h : CH A μ R n) : R iC_rest 4 ≠ R iC_rest 5 := h.2.2.2.2.2.2.2.2.2.2.2.2.2.2.2.2.2.2.2.2.2.2.2.2.2.2.2.2.2.2.2.1
theorem CH.reader {A : xAs} {μ : xm} {R : xr} {n : Nat} (h : CH A μ R n) : R iC_reader 1 ≠ R iC_reader 2 := h.2.2.2.2.2.2.2.2.2.2.2.2.2.2.2.2.2.2.2.2.2.2.2.2.2.2.2.2.2.2.2.2.1
theorem CH.lasts {A : xAs} {μ : xm} {R : xr} {n : Nat} (h : CH A μ R n) : R iC_rest 4 ≠ some iC_rest_each ∧ R iC_rest 5 ≠ some iC_rest_each ∧ (∃ a, R iC_rest 4 = some a) ∧ ∃ a, R iC_rest 5 = some a := h.2.2.2.2.2.2.2.2.2.2.2.2.2.2.2.2.2.2.2.2.2.2.2.2.2.2.2.2.2.2.2.2.2.1
theorem CH.laws {A : xAs} {μ : xm} {R : xr} {n : Nat} (h : CH A μ R n) : (∃ a, R iC_reader 1 = some a) ∧ ∃ a, R iC_reader 2 = some a := h.2.2.2.2.2.2.2.2.2.2.2.2.2.2.2.2.2.2.2.2.2.2.2.2.2.2.2.2.2.2.2.2.2.2.1
theorem CH.settledMany {A : xAs} {μ : xm} {R : xr} {n : Nat} (h : CH A μ R n) : A iM 3 = sumTo (fun m => A iM_isSettled m) (A iM 1).toNat := h.2.2.2.2.2.2.2.2.2.2.2.2.2.2.2.2.2.2.2.2.2.2.2.2.2.2.2.2.2.2.2.2.2.2.2
