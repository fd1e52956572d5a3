/-! how the plain model reads a condition: what goes on behind a piece -/
abbrev bdB (μ : xm) : Option (xm ⊕ (Int32 × xm)) := fX12_readsCondition_b40 μ
abbrev bdV (μ : xm) : Option (xm ⊕ (xm ⊕ (Int32 × xm))) := fX12_readsCondition_b92 μ
abbrev aft (q21 : xm ⊕ (Int32 × xm)) : Option (xm ⊕ (Int32 × xm)) := xsm q21 (fun q22 => xbd (fX12_here q22) fun q24 => if q24 = 38 then (fX12_readsCondition_j180 q22) else (xbd (fX12_here q22) fun q31 => if q31 = 124 then (fX12_readsCondition_j180 q22) else (xbd (fX12_wrongAt 1 (q22.1 iM 12) q22) fun q32 => xbd (xz q32.1) fun z33 => some (.inr (z33, q32.2))))) (fun q23 => some (.inr q23))
def cnt (n : Nat) (r : xm ⊕ (Int32 × xm)) : Option (Int32 × xm) := match r with
  | .inl μ => xloop n bdB μ
  | .inr q => some q
def BK (n : Nat) (μ : xm) (P : Int32 × xm → Prop) : Prop := xok (xloop n bdB μ) P
def AK (n m : Nat) (μ : xm) (P : Int32 × xm → Prop) : Prop := xok (xbd (xbd (xloop m bdV μ) aft) (cnt n)) P
/-- from a piece's end on: first the ! that end with it -/
def EK (n m : Nat) (μ : xm) (P : Int32 × xm → Prop) : Prop := ∃ (k : Nat) (ν : xm), (k : Int) ≤ gi μ iM 17 ∧ St bdE k μ ν ∧ bdE ν = some (.inr ν) ∧ AK n m ν P
theorem BK.step {n : Nat} {μ ν : xm} {P : Int32 × xm → Prop} (e : bdB μ = some (.inl ν)) (h : BK n ν P) : BK (n + 1) μ P := by
  unfold BK
  unfold xloop
  rw [e]
  exact h
theorem BK.stop {n : Nat} {μ : xm} {r : Int32 × xm} {P : Int32 × xm → Prop} (e : bdB μ = some (.inr r)) (h : P r) : BK (n + 1) μ P := by
  unfold BK
  unfold xloop
  rw [e]
  exact xok_some.mpr h
theorem BK.aft {n : Nat} {μ ν : xm} {P : Int32 × xm → Prop} (e : bdB μ = xbd (xloop xfu bdV ν) aft) (h : AK n xfu ν P) : BK (n + 1) μ P := by
  unfold AK at h
  unfold BK
  unfold xloop
  rw [e]
  obtain ⟨v, h1, h2⟩ := h
  obtain ⟨q, e1, e2⟩ := xbd_some h1
  rw [e1]
  unfold cnt at e2
  cases q with
  | inl x => exact ⟨v, e2, h2⟩
  | inr x => exact ⟨v, e2, h2⟩
theorem AK.step {n m : Nat} {μ ν : xm} {P : Int32 × xm → Prop} (e : bdV μ = some (.inl ν)) (h : AK n m ν P) : AK n (m + 1) μ P := by
  unfold AK at h ⊢
  have hh : xloop (m + 1) bdV μ = xloop m bdV ν := by
    conv => lhs; unfold xloop
    rw [e]
  rw [hh]
  exact h
theorem AK.stop {n m : Nat} {μ : xm} {r : xm ⊕ (Int32 × xm)} {P : Int32 × xm → Prop} (e : bdV μ = some (.inr r)) (h : xok (xbd (aft r) (cnt n)) P) : AK n (m + 1) μ P := by
  unfold AK
  have hh : xloop (m + 1) bdV μ = some r := by
    unfold xloop
    rw [e]
  rw [hh, xbd_e]
  exact h
theorem ends_ok {k : Nat} {μ ν : xm} (h : St bdE k μ ν) (hk : k ≤ 300) (he : bdE ν = some (.inr ν)) : fX12_endsPiece μ = some ν := by
  have e := h (xfu - k)
  rw [show xfu - k + k = xfu by unfold xfu; omega] at e
  unfold fX12_endsPiece
  rw [show xloop xfu (fun v => fX12_endsPiece_b0 v) μ = some ν from ?_, xbd_e]
  show xloop xfu bdE μ = _
  rw [e, show xfu - k = (xfu - k - 1) + 1 by unfold xfu; omega]
  unfold xloop
  rw [he]
