/-! The methods that make cells. -/
def xz0I (μ : xm) (o : Nat) : xm := (fun a j => if a = o then 0 else μ.1 a j, μ.2)
def xz0J (μ : xm) (o : Nat) : xm := (μ.1, fun a j => if a = o then 0 else μ.2 a j)
def xz0R (R : xr) (o : Nat) : xr := fun a j => if a = o then none else R a j
theorem xz0R_ne {R : xr} {o a : Nat} (h : a ≠ o) : xz0R R o a = R a := by funext j; simp [xz0R, h]
theorem xz0R_lo {R : xr} {o a j : Nat} (h : a ≠ o) : xz0R R o a j = R a j := by rw [xz0R_ne h]
theorem xup_lo {α : Type} {f : Nat → Nat → α} {i k a j : Nat} {v : α} (h : a ≠ i ∨ j ≠ k) : xup f i k v a j = f a j := by
  rcases h with h | h
  · rw [xup_ne h]
  · by_cases e : a = i
    · subst e; exact xup_nek h
    · rw [xup_ne e]
def xdf (ft : FieldType) : Bool := match ft with
  | .float => false
  | .double => false
  | _ => true
theorem xdf_df {ft : FieldType} {z : Nat} {σ : xM} {n j : Nat} (h : xdf ft = true) : defaultValue ft = xfv z (xw0 σ n) ft n j := by
  cases ft <;> simp [xdf] at h <;> simp [xfv, xw0, defaultValue, xrf, va_rf]
theorem xdf_ok {ci z : Nat} {σ : xM} {n : Nat} (h : (List.range (xN ci)).all (fun j => xdf (xft ci j)) = true) : ∀ j, j < xN ci → defaultValue (xft ci j) = xfv z (xw0 σ n) (xft ci j) n j :=
  fun j hj => xdf_df (List.all_eq_true.mp h j (List.mem_range.mpr hj))
section XV5
variable {E : xE} {C : xC} {Y : xY} {pc : Nat} {L : List (Nat × Value)} {st : List Value} {μ ν : xm} {R S : xr} {n ce sl : Nat}
theorem xv_newI {N : Nat} {z : Int32} (hw : Cond.arrayClass .int ∈ xtb) (hk : xkd n = (1, N)) (hz0 : ¬ z < 0) (hN : z.toNatClampNeg = N) (hN2 : N ≤ 100000) (hce : ce + 1 ≤ C.1.cells) (hsl : sl + N ≤ C.1.slots) (hp : xz0I μ n = ν) (hd : decode Y.2.1 pc = .ok (.newarray .int, 2)) (h : Ev E C Y (pc + 2) L (.ref (E.2.2.2 + n) :: st) (xσ ν R) (n + 1) (ce + 1) (sl + N)) : Ev E C Y pc L (.int z :: st) (xσ μ R) n ce sl := by
  subst hp
  exact ev_newI hw hk hz0 hN hN2 hce hsl hd h
theorem xv_newB {N : Nat} {z : Int32} (hw : Cond.arrayClass .byte ∈ xtb) (hk : xkd n = (3, N)) (hz0 : ¬ z < 0) (hN : z.toNatClampNeg = N) (hN2 : N ≤ 100000) (hce : ce + 1 ≤ C.1.cells) (hsl : sl + N ≤ C.1.slots) (hp : xz0I μ n = ν) (hd : decode Y.2.1 pc = .ok (.newarray .byte, 2)) (h : Ev E C Y (pc + 2) L (.ref (E.2.2.2 + n) :: st) (xσ ν R) (n + 1) (ce + 1) (sl + N)) : Ev E C Y pc L (.int z :: st) (xσ μ R) n ce sl := by
  subst hp
  exact ev_newB hw hk hz0 hN hN2 hce hsl hd h
theorem xv_newZ {N : Nat} {z : Int32} (hw : Cond.arrayClass .boolean ∈ xtb) (hk : xkd n = (4, N)) (hz0 : ¬ z < 0) (hN : z.toNatClampNeg = N) (hN2 : N ≤ 100000) (hce : ce + 1 ≤ C.1.cells) (hsl : sl + N ≤ C.1.slots) (hp : xz0I μ n = ν) (hd : decode Y.2.1 pc = .ok (.newarray .boolean, 2)) (h : Ev E C Y (pc + 2) L (.ref (E.2.2.2 + n) :: st) (xσ ν R) (n + 1) (ce + 1) (sl + N)) : Ev E C Y pc L (.int z :: st) (xσ μ R) n ce sl := by
  subst hp
  exact ev_newZ hw hk hz0 hN hN2 hce hsl hd h
theorem xv_newJ {N : Nat} {z : Int32} (hw : Cond.arrayClass .long ∈ xtb) (hk : xkd n = (2, N)) (hz0 : ¬ z < 0) (hN : z.toNatClampNeg = N) (hN2 : N ≤ 100000) (hce : ce + 1 ≤ C.1.cells) (hsl : sl + N ≤ C.1.slots) (hp : xz0J μ n = ν) (hd : decode Y.2.1 pc = .ok (.newarray .long, 2)) (h : Ev E C Y (pc + 2) L (.ref (E.2.2.2 + n) :: st) (xσ ν R) (n + 1) (ce + 1) (sl + N)) : Ev E C Y pc L (.int z :: st) (xσ μ R) n ce sl := by
  subst hp
  exact ev_newJ hw hk hz0 hN hN2 hce hsl hd h
theorem xv_newQ {N ix : Nat} {z : Int32} (hw : Cond.classLink Y.1.cls ix RX2 ∈ xtb) (hk : xkd n = (5, N)) (hz0 : ¬ z < 0) (hN : z.toNatClampNeg = N) (hN2 : N ≤ 100000) (hce : ce + 1 ≤ C.1.cells) (hsl : sl + N ≤ C.1.slots) (hp : xz0R R n = S) (hd : decode Y.2.1 pc = .ok (.anewarray ix, 3)) (h : Ev E C Y (pc + 3) L (.ref (E.2.2.2 + n) :: st) (xσ μ S) (n + 1) (ce + 1) (sl + N)) : Ev E C Y pc L (.int z :: st) (xσ μ R) n ce sl := by
  subst hp
  exact ev_newQ hw hk hz0 hN hN2 hce hsl hd h
theorem xv_new {ix ci N : Nat} (hc : xCl ci) (hNN : xN ci = N) (hdef : ∀ j, j < xN ci → defaultValue (xft ci j) = xfv E.2.2.2 (xw0 (xσ μ R) n) (xft ci j) n j) (hw : Cond.classLink Y.1.cls ix (xCn ci) ∈ xtb) (hw2 : Cond.instantiable (xCn ci) (xN ci) ∈ xtb) (hw3 : Cond.initialized (xCn ci) ∈ xtb) (hk : xkd n = (0, ci)) (hce : ce + 1 ≤ C.1.cells) (hsl : sl + N ≤ C.1.slots) (hp : xz0I (xz0J μ n) n = ν) (hq : xz0R R n = S) (hd : decode Y.2.1 pc = .ok (.new ix, 3)) (h : Ev E C Y (pc + 3) L (.ref (E.2.2.2 + n) :: st) (xσ ν S) (n + 1) (ce + 1) (sl + N)) : Ev E C Y pc L st (xσ μ R) n ce sl := by
  subst hp; subst hq
  exact ev_new hc hNN hdef hw hw2 hw3 hk hce hsl hd h
end XV5
def xwl5_a : List Cond := [Cond.methodLink RX11 1 objectInit, Cond.instanceMethod objectInit, Cond.classLink RX11 7 RX9, Cond.instantiable RX9 2, Cond.instanceMethod yX9_init, Cond.methodLink RX9 3 objectInit, Cond.arrayClass .byte, Cond.classLink RX11 16 RX1, Cond.instantiable RX1 6, Cond.instanceMethod yX1_init, Cond.methodLink RX1 3 objectInit, Cond.classLink RX1 15 RX0, Cond.instantiable RX0 8, Cond.instanceMethod yX0_init, Cond.methodLink RX0 3 objectInit, Cond.arrayClass .int, Cond.arrayClass .long, Cond.classLink RX11 23 RX5, Cond.instantiable RX5 3, Cond.methodLink RX11 25 yX5_init, Cond.instanceMethod yX5_init, Cond.methodLink RX5 3 objectInit, Cond.classLink RX11 30 RX3, Cond.instantiable RX3 7, Cond.methodLink RX11 32 yX3_init, Cond.instanceMethod yX3_init, Cond.methodLink RX3 3 objectInit, Cond.classLink RX3 9 RX2, Cond.classLink RX11 39 RX4, Cond.instantiable RX4 7, Cond.instanceMethod yX4_init, Cond.methodLink RX4 3 objectInit, Cond.classLink RX11 46 RX7, Cond.instantiable RX7 6, Cond.instanceMethod yX7_init, Cond.methodLink RX7 3 objectInit, Cond.classLink RX11 53 RX10, Cond.instantiable RX10 11, Cond.methodLink RX11 55 yX10_init, Cond.instanceMethod yX10_init, Cond.methodLink RX10 3 objectInit, Cond.arrayClass .boolean, Cond.classLink RX11 60 RX6, Cond.instantiable RX6 7, Cond.methodLink RX11 62 yX6_init, Cond.instanceMethod yX6_init, Cond.methodLink RX6 3 objectInit, Cond.classLink RX6 19 RX8, Cond.instantiable RX8 3, Cond.instanceMethod yX8_init, Cond.methodLink RX8 3 objectInit, Cond.methodLink RX2 3 objectInit, Cond.methodLink RX2 25 yJ7_fill_53178, Cond.fieldLink RX2 15 "LateMinutes$Meeting" "day" "I", Cond.methodLink RX12 1 objectInit, Cond.fieldLink RX12 142 "LateMinutesModel" "endAt" "[I"]
set_option maxRecDepth 100000 in
theorem xwi5_a : ∀ w ∈ xwl5_a, w ∈ xtb := xwi [130, 131, 133, 134, 136, 138, 146, 147, 148, 150, 152, 153, 154, 156, 158, 184, 185, 205, 206, 207, 208, 210, 224, 225, 226, 227, 229, 230, 254, 255, 257, 259, 282, 283, 285, 287, 307, 308, 309, 310, 312, 347, 348, 349, 350, 351, 353, 354, 355, 357, 359, 463, 464, 465, 1245, 1310] (by decide +kernel) (by decide +kernel)
theorem m_130 : Cond.methodLink RX11 1 objectInit ∈ xtb := xwi5_a _ (List.mem_of_getElem? (i := 0) rfl)
theorem m_131 : Cond.instanceMethod objectInit ∈ xtb := xwi5_a _ (List.mem_of_getElem? (i := 1) rfl)
theorem m_133 : Cond.classLink RX11 7 RX9 ∈ xtb := xwi5_a _ (List.mem_of_getElem? (i := 2) rfl)
theorem m_134 : Cond.instantiable RX9 2 ∈ xtb := xwi5_a _ (List.mem_of_getElem? (i := 3) rfl)
theorem m_136 : Cond.instanceMethod yX9_init ∈ xtb := xwi5_a _ (List.mem_of_getElem? (i := 4) rfl)
theorem m_138 : Cond.methodLink RX9 3 objectInit ∈ xtb := xwi5_a _ (List.mem_of_getElem? (i := 5) rfl)
theorem m_146 : Cond.arrayClass .byte ∈ xtb := xwi5_a _ (List.mem_of_getElem? (i := 6) rfl)
theorem m_147 : Cond.classLink RX11 16 RX1 ∈ xtb := xwi5_a _ (List.mem_of_getElem? (i := 7) rfl)
theorem m_148 : Cond.instantiable RX1 6 ∈ xtb := xwi5_a _ (List.mem_of_getElem? (i := 8) rfl)
theorem m_150 : Cond.instanceMethod yX1_init ∈ xtb := xwi5_a _ (List.mem_of_getElem? (i := 9) rfl)
theorem m_152 : Cond.methodLink RX1 3 objectInit ∈ xtb := xwi5_a _ (List.mem_of_getElem? (i := 10) rfl)
theorem m_153 : Cond.classLink RX1 15 RX0 ∈ xtb := xwi5_a _ (List.mem_of_getElem? (i := 11) rfl)
theorem m_154 : Cond.instantiable RX0 8 ∈ xtb := xwi5_a _ (List.mem_of_getElem? (i := 12) rfl)
theorem m_156 : Cond.instanceMethod yX0_init ∈ xtb := xwi5_a _ (List.mem_of_getElem? (i := 13) rfl)
theorem m_158 : Cond.methodLink RX0 3 objectInit ∈ xtb := xwi5_a _ (List.mem_of_getElem? (i := 14) rfl)
theorem m_184 : Cond.arrayClass .int ∈ xtb := xwi5_a _ (List.mem_of_getElem? (i := 15) rfl)
theorem m_185 : Cond.arrayClass .long ∈ xtb := xwi5_a _ (List.mem_of_getElem? (i := 16) rfl)
theorem m_205 : Cond.classLink RX11 23 RX5 ∈ xtb := xwi5_a _ (List.mem_of_getElem? (i := 17) rfl)
theorem m_206 : Cond.instantiable RX5 3 ∈ xtb := xwi5_a _ (List.mem_of_getElem? (i := 18) rfl)
theorem m_207 : Cond.methodLink RX11 25 yX5_init ∈ xtb := xwi5_a _ (List.mem_of_getElem? (i := 19) rfl)
theorem m_208 : Cond.instanceMethod yX5_init ∈ xtb := xwi5_a _ (List.mem_of_getElem? (i := 20) rfl)
theorem m_210 : Cond.methodLink RX5 3 objectInit ∈ xtb := xwi5_a _ (List.mem_of_getElem? (i := 21) rfl)
theorem m_224 : Cond.classLink RX11 30 RX3 ∈ xtb := xwi5_a _ (List.mem_of_getElem? (i := 22) rfl)
theorem m_225 : Cond.instantiable RX3 7 ∈ xtb := xwi5_a _ (List.mem_of_getElem? (i := 23) rfl)
theorem m_226 : Cond.methodLink RX11 32 yX3_init ∈ xtb := xwi5_a _ (List.mem_of_getElem? (i := 24) rfl)
theorem m_227 : Cond.instanceMethod yX3_init ∈ xtb := xwi5_a _ (List.mem_of_getElem? (i := 25) rfl)
theorem m_229 : Cond.methodLink RX3 3 objectInit ∈ xtb := xwi5_a _ (List.mem_of_getElem? (i := 26) rfl)
theorem m_230 : Cond.classLink RX3 9 RX2 ∈ xtb := xwi5_a _ (List.mem_of_getElem? (i := 27) rfl)
theorem m_254 : Cond.classLink RX11 39 RX4 ∈ xtb := xwi5_a _ (List.mem_of_getElem? (i := 28) rfl)
theorem m_255 : Cond.instantiable RX4 7 ∈ xtb := xwi5_a _ (List.mem_of_getElem? (i := 29) rfl)
theorem m_257 : Cond.instanceMethod yX4_init ∈ xtb := xwi5_a _ (List.mem_of_getElem? (i := 30) rfl)
theorem m_259 : Cond.methodLink RX4 3 objectInit ∈ xtb := xwi5_a _ (List.mem_of_getElem? (i := 31) rfl)
theorem m_282 : Cond.classLink RX11 46 RX7 ∈ xtb := xwi5_a _ (List.mem_of_getElem? (i := 32) rfl)
theorem m_283 : Cond.instantiable RX7 6 ∈ xtb := xwi5_a _ (List.mem_of_getElem? (i := 33) rfl)
theorem m_285 : Cond.instanceMethod yX7_init ∈ xtb := xwi5_a _ (List.mem_of_getElem? (i := 34) rfl)
theorem m_287 : Cond.methodLink RX7 3 objectInit ∈ xtb := xwi5_a _ (List.mem_of_getElem? (i := 35) rfl)
theorem m_307 : Cond.classLink RX11 53 RX10 ∈ xtb := xwi5_a _ (List.mem_of_getElem? (i := 36) rfl)
theorem m_308 : Cond.instantiable RX10 11 ∈ xtb := xwi5_a _ (List.mem_of_getElem? (i := 37) rfl)
theorem m_309 : Cond.methodLink RX11 55 yX10_init ∈ xtb := xwi5_a _ (List.mem_of_getElem? (i := 38) rfl)
theorem m_310 : Cond.instanceMethod yX10_init ∈ xtb := xwi5_a _ (List.mem_of_getElem? (i := 39) rfl)
theorem m_312 : Cond.methodLink RX10 3 objectInit ∈ xtb := xwi5_a _ (List.mem_of_getElem? (i := 40) rfl)
theorem m_347 : Cond.arrayClass .boolean ∈ xtb := xwi5_a _ (List.mem_of_getElem? (i := 41) rfl)
theorem m_348 : Cond.classLink RX11 60 RX6 ∈ xtb := xwi5_a _ (List.mem_of_getElem? (i := 42) rfl)
theorem m_349 : Cond.instantiable RX6 7 ∈ xtb := xwi5_a _ (List.mem_of_getElem? (i := 43) rfl)
theorem m_350 : Cond.methodLink RX11 62 yX6_init ∈ xtb := xwi5_a _ (List.mem_of_getElem? (i := 44) rfl)
theorem m_351 : Cond.instanceMethod yX6_init ∈ xtb := xwi5_a _ (List.mem_of_getElem? (i := 45) rfl)
theorem m_353 : Cond.methodLink RX6 3 objectInit ∈ xtb := xwi5_a _ (List.mem_of_getElem? (i := 46) rfl)
theorem m_354 : Cond.classLink RX6 19 RX8 ∈ xtb := xwi5_a _ (List.mem_of_getElem? (i := 47) rfl)
theorem m_355 : Cond.instantiable RX8 3 ∈ xtb := xwi5_a _ (List.mem_of_getElem? (i := 48) rfl)
theorem m_357 : Cond.instanceMethod yX8_init ∈ xtb := xwi5_a _ (List.mem_of_getElem? (i := 49) rfl)
theorem m_359 : Cond.methodLink RX8 3 objectInit ∈ xtb := xwi5_a _ (List.mem_of_getElem? (i := 50) rfl)
theorem m_463 : Cond.methodLink RX2 3 objectInit ∈ xtb := xwi5_a _ (List.mem_of_getElem? (i := 51) rfl)
theorem m_464 : Cond.methodLink RX2 25 yJ7_fill_53178 ∈ xtb := xwi5_a _ (List.mem_of_getElem? (i := 52) rfl)
theorem m_465 : Cond.fieldLink RX2 15 "LateMinutes$Meeting" "day" "I" ∈ xtb := xwi5_a _ (List.mem_of_getElem? (i := 53) rfl)
theorem m_1245 : Cond.methodLink RX12 1 objectInit ∈ xtb := xwi5_a _ (List.mem_of_getElem? (i := 54) rfl)
theorem m_1310 : Cond.fieldLink RX12 142 "LateMinutesModel" "endAt" "[I" ∈ xtb := xwi5_a _ (List.mem_of_getElem? (i := 55) rfl)
def xwl5_b : List Cond := [Cond.code objectInit ⟨#[0xb1]⟩ 1 none]
set_option maxRecDepth 100000 in
theorem xwi5_b : ∀ w ∈ xwl5_b, w ∈ xtb := xwi [132] rfl (by decide +kernel)
theorem m_132 : Cond.code objectInit ⟨#[0xb1]⟩ 1 none ∈ xtb := xwi5_b _ (List.mem_of_getElem? (i := 0) rfl)
theorem lk_RX12_142 : xLk RX12 142 12 64 := ⟨by decide, m_1310⟩
theorem lk_RX2_15 : xLk RX2 15 2 0 := ⟨by decide, m_465⟩
theorem xdf_0 : (List.range (xN 0)).all (fun j => xdf (xft 0 j)) = true := by decide +kernel
theorem xdf_1 : (List.range (xN 1)).all (fun j => xdf (xft 1 j)) = true := by decide +kernel
theorem xdf_2 : (List.range (xN 2)).all (fun j => xdf (xft 2 j)) = true := by decide +kernel
theorem xdf_3 : (List.range (xN 3)).all (fun j => xdf (xft 3 j)) = true := by decide +kernel
theorem xdf_4 : (List.range (xN 4)).all (fun j => xdf (xft 4 j)) = true := by decide +kernel
theorem xdf_5 : (List.range (xN 5)).all (fun j => xdf (xft 5 j)) = true := by decide +kernel
theorem xdf_6 : (List.range (xN 6)).all (fun j => xdf (xft 6 j)) = true := by decide +kernel
theorem xdf_7 : (List.range (xN 7)).all (fun j => xdf (xft 7 j)) = true := by decide +kernel
theorem xdf_8 : (List.range (xN 8)).all (fun j => xdf (xft 8 j)) = true := by decide +kernel
theorem xdf_9 : (List.range (xN 9)).all (fun j => xdf (xft 9 j)) = true := by decide +kernel
theorem xdf_10 : (List.range (xN 10)).all (fun j => xdf (xft 10 j)) = true := by decide +kernel
theorem xdf_11 : (List.range (xN 11)).all (fun j => xdf (xft 11 j)) = true := by decide +kernel
theorem xdf_12 : (List.range (xN 12)).all (fun j => xdf (xft 12 j)) = true := by decide +kernel
def fX2_init (o : Nat) (p0 : Int32) (p1 : Int32) (p2 : Int32) (μ : xm) (R : xr) : Option (xm × xr) := xlt (xz0I μ (o + 1)) fun μ1 => xlt (xup R o 3 (some (o + 1))) fun R2 => xlt (xpI μ1 o 0 p0) fun μ3 => xlt (xpI μ3 o 1 p1) fun μ4 => xlt (xpI μ4 o 2 p2) fun μ5 => xbd (fJ7_fill_53178 (o + 1) (-1) μ5) fun q6 => some (q6, R2)
set_option maxHeartbeats 4000000 in
set_option maxRecDepth 100000 in
theorem kX2_init {E : xE} {d : Nat} {QQ : xP} (hd : 1 ≤ d) {o : Nat} (hk0 : xkd o = (0, 2)) (hk1 : xkd (o + 1) = (1, 8)) {p0 : Int32} {p1 : Int32} {p2 : Int32} {μ : xm} {R : xr} {res : xm × xr} (h : fX2_init o p0 p1 p2 μ R = some res) (hQ : QQ none (xσ res.1 res.2) (o + 2)) : xCon E d Y_X2_init 1 8 [.ref (E.2.2.2 + o), .int p0, .int p1, .int p2] (xσ μ R) (o + 1) QQ := by
  refine xCon_of pn_RX2 (Nat.le_of_ble_eq_true rfl) (L0 := [(0, .ref (E.2.2.2 + o)), (1, .int p0), (2, .int p1), (3, .int p2)]) rfl ?_
  unfold fX2_init at h
  refine ev_aload_n 0 dX2_init_0 rfl rfl ?_
  refine ev_objInit ⟨m_463, m_131, m_132⟩ (Nat.le_of_ble_eq_true rfl) (Nat.le_trans (by decide) hd) (Nat.le_trans (by decide) (Nat.mul_le_mul_left 80 (Nat.le_trans (by decide : 1 ≤ 1) hd))) dX2_init_1 ?_
  refine ev_aload_n 0 dX2_init_4 rfl rfl ?_
  refine ev_bipush (v := 8) dX2_init_5 (by decide) ?_
  obtain ⟨μ1, hμ1, h⟩ := xlt_some h
  refine xv_newI (N := 8) m_184 hk1 (by decide) rfl (by decide) (Nat.le_of_ble_eq_true rfl) (Nat.le_of_ble_eq_true rfl) hμ1 dX2_init_7 ?_
  show Ev E (xcm E d 1 8 QQ) Y_X2_init 9 [(0, .ref (E.2.2.2 + o)), (1, .int p0), (2, .int p1), (3, .int p2)] [.ref (E.2.2.2 + (o + 1)), .ref (E.2.2.2 + o)] (xσ μ1 R) (o + 2) 1 8
  obtain ⟨R2, hR2, h⟩ := xlt_some h
  refine xv_putFR cl_2 lk_RX2_9 rfl rfl rfl hk0 (by omega) (fun _ => rfl) (fun _ => rfl) (fun _ => rfl) hR2 dX2_init_9 ?_
  refine ev_aload_n 0 dX2_init_12 rfl rfl ?_
  refine ev_iload_n 1 dX2_init_13 rfl rfl ?_
  obtain ⟨μ3, hμ3, h⟩ := xlt_some h
  refine xv_putFI cl_2 lk_RX2_15 rfl rfl rfl hk0 (by omega) rfl rfl (fun _ => rfl) hμ3 dX2_init_14 ?_
  refine ev_aload_n 0 dX2_init_17 rfl rfl ?_
  refine ev_iload_n 2 dX2_init_18 rfl rfl ?_
  obtain ⟨μ4, hμ4, h⟩ := xlt_some h
  refine xv_putFI cl_2 lk_RX2_19 rfl rfl rfl hk0 (by omega) rfl rfl (fun _ => rfl) hμ4 dX2_init_19 ?_
  refine ev_aload_n 0 dX2_init_22 rfl rfl ?_
  refine ev_iload_n 3 dX2_init_23 rfl rfl ?_
  obtain ⟨μ5, hμ5, h⟩ := xlt_some h
  refine xv_putFI cl_2 lk_RX2_22 rfl rfl rfl hk0 (by omega) rfl rfl (fun _ => rfl) hμ5 dX2_init_24 ?_
  refine ev_aload_n 0 dX2_init_27 rfl rfl ?_
  refine xv_getF (a := (o + 1)) cl_2 lk_RX2_9 hk0 (by omega) (fun _ => rfl) (by rw [← hR2]; exact xup_self) dX2_init_28 ?_
  refine ev_iconst (v := (-1)) dX2_init_31 (by decide) ?_
  obtain ⟨q6, hq6, h⟩ := xbd_some h
  refine ev_callS (As := [.ref (E.2.2.2 + (o + 1)), .int (-1)]) (rest := []) 2 (kJ7_fill_53178 (E := E) (d := 0) (QQ := (fun v τ n' => v = none ∧ τ = xσ q6 R2 ∧ n' = (o + 2))) (Nat.le_refl _) (xIsA_of hk1 (by omega)) hq6 ⟨rfl, rfl, rfl⟩) my_J7_fill_53178 ⟨m_464, m_212⟩ rfl rfl (Nat.le_of_ble_eq_true rfl) (Nat.le_trans (by decide) hd) (xlo (by decide) (Nat.le_trans (by decide) hd)) (Nat.le_of_ble_eq_true rfl) (Nat.le_of_ble_eq_true rfl) dX2_init_32 (fun v τ n' hv => ?_)
  obtain ⟨rfl, rfl, rfl⟩ := hv
  show Ev E (xcm E d 1 8 QQ) Y_X2_init 35 [(0, .ref (E.2.2.2 + o)), (1, .int p0), (2, .int p1), (3, .int p2)] [] (xσ q6 R2) (o + 2) 1 8
  cases h
  exact ev_vret rfl hQ dX2_init_35 (Nat.le_of_ble_eq_true rfl) (Nat.le_of_ble_eq_true rfl)
theorem keep_X2_init {o : Nat} {p0 : Int32} {p1 : Int32} {p2 : Int32} {μ : xm} {R : xr} {res : xm × xr} (h : fX2_init o p0 p1 p2 μ R = some res) : ∀ a, a < o → res.2 a = R a := by
  intro a ha
  unfold fX2_init at h
  obtain ⟨μ1, hμ1, h⟩ := xlt_some h
  obtain ⟨R2, hR2, h⟩ := xlt_some h
  obtain ⟨μ3, hμ3, h⟩ := xlt_some h
  obtain ⟨μ4, hμ4, h⟩ := xlt_some h
  obtain ⟨μ5, hμ5, h⟩ := xlt_some h
  obtain ⟨q6, hq6, h⟩ := xbd_some h
  cases h
  show R2 a = R a
  rw [← hR2, xup_ne (by omega)]
def fX9_init_1  (μ : xm) (R : xr) : Option (xm × xr) := xlt (xz0I μ 2) fun μ1 => xlt (xup R 1 0 (some 2)) fun R2 => some (μ1, R2)
set_option maxHeartbeats 4000000 in
set_option maxRecDepth 100000 in
theorem kX9_init_1 {E : xE} {d : Nat} {QQ : xP} (hd : 1 ≤ d) {μ : xm} {R : xr} {res : xm × xr} (h : fX9_init_1  μ R = some res) (hQ : QQ none (xσ res.1 res.2) 3) : xCon E d Y_X9_init 1 400 [.ref (E.2.2.2 + 1)] (xσ μ R) 2 QQ := by
  refine xCon_of pn_RX9 (Nat.le_of_ble_eq_true rfl) (L0 := [(0, .ref (E.2.2.2 + 1))]) rfl ?_
  unfold fX9_init_1 at h
  refine ev_aload_n 0 dX9_init_0 rfl rfl ?_
  refine ev_objInit ⟨m_138, m_131, m_132⟩ (Nat.le_of_ble_eq_true rfl) (Nat.le_trans (by decide) hd) (Nat.le_trans (by decide) (Nat.mul_le_mul_left 80 (Nat.le_trans (by decide : 1 ≤ 1) hd))) dX9_init_1 ?_
  refine ev_aload_n 0 dX9_init_4 rfl rfl ?_
  refine ev_sipush (v := 400) dX9_init_5 (by decide) ?_
  obtain ⟨μ1, hμ1, h⟩ := xlt_some h
  refine xv_newB (N := 400) m_146 (by decide +kernel) (by decide) rfl (by decide) (Nat.le_of_ble_eq_true rfl) (Nat.le_of_ble_eq_true rfl) hμ1 dX9_init_8 ?_
  show Ev E (xcm E d 1 400 QQ) Y_X9_init 10 [(0, .ref (E.2.2.2 + 1))] [.ref (E.2.2.2 + 2), .ref (E.2.2.2 + 1)] (xσ μ1 R) 3 1 400
  obtain ⟨R2, hR2, h⟩ := xlt_some h
  refine xv_putFR cl_9 lk_RX9_9 rfl rfl rfl (by decide +kernel) (by omega) (fun _ => rfl) (fun _ => rfl) (fun _ => rfl) hR2 dX9_init_10 ?_
  cases h
  exact ev_vret rfl hQ dX9_init_13 (Nat.le_of_ble_eq_true rfl) (Nat.le_of_ble_eq_true rfl)
theorem keep_X9_init_1 {μ : xm} {R : xr} {res : xm × xr} (h : fX9_init_1  μ R = some res) : ∀ a, a < 1 → res.2 a = R a := by
  intro a ha
  unfold fX9_init_1 at h
  obtain ⟨μ1, hμ1, h⟩ := xlt_some h
  obtain ⟨R2, hR2, h⟩ := xlt_some h
  cases h
  show R2 a = R a
  rw [← hR2, xup_ne (by omega)]
def fX0_init_5  (μ : xm) (R : xr) : Option (xm × xr) := xlt (xz0I μ 6) fun μ1 => xlt (xup R 5 0 (some 6)) fun R2 => xlt (xz0I μ1 7) fun μ3 => xlt (xup R2 5 1 (some 7)) fun R4 => xlt (xz0I μ3 8) fun μ5 => xlt (xup R4 5 2 (some 8)) fun R6 => xlt (xz0I μ5 9) fun μ7 => xlt (xup R6 5 3 (some 9)) fun R8 => xlt (xz0I μ7 10) fun μ9 => xlt (xup R8 5 4 (some 10)) fun R10 => xlt (xz0J μ9 11) fun μ11 => xlt (xup R10 5 5 (some 11)) fun R12 => some (μ11, R12)
set_option maxHeartbeats 4000000 in
set_option maxRecDepth 100000 in
theorem kX0_init_5 {E : xE} {d : Nat} {QQ : xP} (hd : 1 ≤ d) {μ : xm} {R : xr} {res : xm × xr} (h : fX0_init_5  μ R = some res) (hQ : QQ none (xσ res.1 res.2) 12) : xCon E d Y_X0_init 6 288 [.ref (E.2.2.2 + 5)] (xσ μ R) 6 QQ := by
  refine xCon_of pn_RX0 (Nat.le_of_ble_eq_true rfl) (L0 := [(0, .ref (E.2.2.2 + 5))]) rfl ?_
  unfold fX0_init_5 at h
  refine ev_aload_n 0 dX0_init_0 rfl rfl ?_
  refine ev_objInit ⟨m_158, m_131, m_132⟩ (Nat.le_of_ble_eq_true rfl) (Nat.le_trans (by decide) hd) (Nat.le_trans (by decide) (Nat.mul_le_mul_left 80 (Nat.le_trans (by decide : 1 ≤ 1) hd))) dX0_init_1 ?_
  refine ev_aload_n 0 dX0_init_4 rfl rfl ?_
  refine ev_bipush (v := 14) dX0_init_5 (by decide) ?_
  obtain ⟨μ1, hμ1, h⟩ := xlt_some h
  refine xv_newI (N := 14) m_184 (by decide +kernel) (by decide) rfl (by decide) (Nat.le_of_ble_eq_true rfl) (Nat.le_of_ble_eq_true rfl) hμ1 dX0_init_7 ?_
  show Ev E (xcm E d 6 288 QQ) Y_X0_init 9 [(0, .ref (E.2.2.2 + 5))] [.ref (E.2.2.2 + 6), .ref (E.2.2.2 + 5)] (xσ μ1 R) 7 1 14
  obtain ⟨R2, hR2, h⟩ := xlt_some h
  refine xv_putFR cl_0 lk_RX0_9 rfl rfl rfl (by decide +kernel) (by omega) (fun _ => rfl) (fun _ => rfl) (fun _ => rfl) hR2 dX0_init_9 ?_
  refine ev_aload_n 0 dX0_init_12 rfl rfl ?_
  refine ev_bipush (v := 14) dX0_init_13 (by decide) ?_
  obtain ⟨μ3, hμ3, h⟩ := xlt_some h
  refine xv_newI (N := 14) m_184 (by decide +kernel) (by decide) rfl (by decide) (Nat.le_of_ble_eq_true rfl) (Nat.le_of_ble_eq_true rfl) hμ3 dX0_init_15 ?_
  show Ev E (xcm E d 6 288 QQ) Y_X0_init 17 [(0, .ref (E.2.2.2 + 5))] [.ref (E.2.2.2 + 7), .ref (E.2.2.2 + 5)] (xσ μ3 R2) 8 2 28
  obtain ⟨R4, hR4, h⟩ := xlt_some h
  refine xv_putFR cl_0 lk_RX0_15 rfl rfl rfl (by decide +kernel) (by omega) (fun _ => rfl) (fun _ => rfl) (fun _ => rfl) hR4 dX0_init_17 ?_
  refine ev_aload_n 0 dX0_init_20 rfl rfl ?_
  refine ev_bipush (v := 14) dX0_init_21 (by decide) ?_
  obtain ⟨μ5, hμ5, h⟩ := xlt_some h
  refine xv_newI (N := 14) m_184 (by decide +kernel) (by decide) rfl (by decide) (Nat.le_of_ble_eq_true rfl) (Nat.le_of_ble_eq_true rfl) hμ5 dX0_init_23 ?_
  show Ev E (xcm E d 6 288 QQ) Y_X0_init 25 [(0, .ref (E.2.2.2 + 5))] [.ref (E.2.2.2 + 8), .ref (E.2.2.2 + 5)] (xσ μ5 R4) 9 3 42
  obtain ⟨R6, hR6, h⟩ := xlt_some h
  refine xv_putFR cl_0 lk_RX0_18 rfl rfl rfl (by decide +kernel) (by omega) (fun _ => rfl) (fun _ => rfl) (fun _ => rfl) hR6 dX0_init_25 ?_
  refine ev_aload_n 0 dX0_init_28 rfl rfl ?_
  refine ev_bipush (v := 14) dX0_init_29 (by decide) ?_
  obtain ⟨μ7, hμ7, h⟩ := xlt_some h
  refine xv_newI (N := 14) m_184 (by decide +kernel) (by decide) rfl (by decide) (Nat.le_of_ble_eq_true rfl) (Nat.le_of_ble_eq_true rfl) hμ7 dX0_init_31 ?_
  show Ev E (xcm E d 6 288 QQ) Y_X0_init 33 [(0, .ref (E.2.2.2 + 5))] [.ref (E.2.2.2 + 9), .ref (E.2.2.2 + 5)] (xσ μ7 R6) 10 4 56
  obtain ⟨R8, hR8, h⟩ := xlt_some h
  refine xv_putFR cl_0 lk_RX0_21 rfl rfl rfl (by decide +kernel) (by omega) (fun _ => rfl) (fun _ => rfl) (fun _ => rfl) hR8 dX0_init_33 ?_
  refine ev_aload_n 0 dX0_init_36 rfl rfl ?_
  refine ev_sipush (v := 200) dX0_init_37 (by decide) ?_
  obtain ⟨μ9, hμ9, h⟩ := xlt_some h
  refine xv_newI (N := 200) m_184 (by decide +kernel) (by decide) rfl (by decide) (Nat.le_of_ble_eq_true rfl) (Nat.le_of_ble_eq_true rfl) hμ9 dX0_init_40 ?_
  show Ev E (xcm E d 6 288 QQ) Y_X0_init 42 [(0, .ref (E.2.2.2 + 5))] [.ref (E.2.2.2 + 10), .ref (E.2.2.2 + 5)] (xσ μ9 R8) 11 5 256
  obtain ⟨R10, hR10, h⟩ := xlt_some h
  refine xv_putFR cl_0 lk_RX0_24 rfl rfl rfl (by decide +kernel) (by omega) (fun _ => rfl) (fun _ => rfl) (fun _ => rfl) hR10 dX0_init_42 ?_
  refine ev_aload_n 0 dX0_init_45 rfl rfl ?_
  refine ev_bipush (v := 32) dX0_init_46 (by decide) ?_
  obtain ⟨μ11, hμ11, h⟩ := xlt_some h
  refine xv_newJ (N := 32) m_185 (by decide +kernel) (by decide) rfl (by decide) (Nat.le_of_ble_eq_true rfl) (Nat.le_of_ble_eq_true rfl) hμ11 dX0_init_48 ?_
  show Ev E (xcm E d 6 288 QQ) Y_X0_init 50 [(0, .ref (E.2.2.2 + 5))] [.ref (E.2.2.2 + 11), .ref (E.2.2.2 + 5)] (xσ μ11 R10) 12 6 288
  obtain ⟨R12, hR12, h⟩ := xlt_some h
  refine xv_putFR cl_0 lk_RX0_27 rfl rfl rfl (by decide +kernel) (by omega) (fun _ => rfl) (fun _ => rfl) (fun _ => rfl) hR12 dX0_init_50 ?_
  cases h
  exact ev_vret rfl hQ dX0_init_53 (Nat.le_of_ble_eq_true rfl) (Nat.le_of_ble_eq_true rfl)
theorem keep_X0_init_5 {μ : xm} {R : xr} {res : xm × xr} (h : fX0_init_5  μ R = some res) : ∀ a, a < 5 → res.2 a = R a := by
  intro a ha
  unfold fX0_init_5 at h
  obtain ⟨μ1, hμ1, h⟩ := xlt_some h
  obtain ⟨R2, hR2, h⟩ := xlt_some h
  obtain ⟨μ3, hμ3, h⟩ := xlt_some h
  obtain ⟨R4, hR4, h⟩ := xlt_some h
  obtain ⟨μ5, hμ5, h⟩ := xlt_some h
  obtain ⟨R6, hR6, h⟩ := xlt_some h
  obtain ⟨μ7, hμ7, h⟩ := xlt_some h
  obtain ⟨R8, hR8, h⟩ := xlt_some h
  obtain ⟨μ9, hμ9, h⟩ := xlt_some h
  obtain ⟨R10, hR10, h⟩ := xlt_some h
  obtain ⟨μ11, hμ11, h⟩ := xlt_some h
  obtain ⟨R12, hR12, h⟩ := xlt_some h
  cases h
  show R12 a = R a
  rw [← hR12, xup_ne (by omega), ← hR10, xup_ne (by omega), ← hR8, xup_ne (by omega), ← hR6, xup_ne (by omega), ← hR4, xup_ne (by omega), ← hR2, xup_ne (by omega)]
def fX0_init_12  (μ : xm) (R : xr) : Option (xm × xr) := xlt (xz0I μ 13) fun μ1 => xlt (xup R 12 0 (some 13)) fun R2 => xlt (xz0I μ1 14) fun μ3 => xlt (xup R2 12 1 (some 14)) fun R4 => xlt (xz0I μ3 15) fun μ5 => xlt (xup R4 12 2 (some 15)) fun R6 => xlt (xz0I μ5 16) fun μ7 => xlt (xup R6 12 3 (some 16)) fun R8 => xlt (xz0I μ7 17) fun μ9 => xlt (xup R8 12 4 (some 17)) fun R10 => xlt (xz0J μ9 18) fun μ11 => xlt (xup R10 12 5 (some 18)) fun R12 => some (μ11, R12)
set_option maxHeartbeats 4000000 in
set_option maxRecDepth 100000 in
theorem kX0_init_12 {E : xE} {d : Nat} {QQ : xP} (hd : 1 ≤ d) {μ : xm} {R : xr} {res : xm × xr} (h : fX0_init_12  μ R = some res) (hQ : QQ none (xσ res.1 res.2) 19) : xCon E d Y_X0_init 6 288 [.ref (E.2.2.2 + 12)] (xσ μ R) 13 QQ := by
  refine xCon_of pn_RX0 (Nat.le_of_ble_eq_true rfl) (L0 := [(0, .ref (E.2.2.2 + 12))]) rfl ?_
  unfold fX0_init_12 at h
  refine ev_aload_n 0 dX0_init_0 rfl rfl ?_
  refine ev_objInit ⟨m_158, m_131, m_132⟩ (Nat.le_of_ble_eq_true rfl) (Nat.le_trans (by decide) hd) (Nat.le_trans (by decide) (Nat.mul_le_mul_left 80 (Nat.le_trans (by decide : 1 ≤ 1) hd))) dX0_init_1 ?_
  refine ev_aload_n 0 dX0_init_4 rfl rfl ?_
  refine ev_bipush (v := 14) dX0_init_5 (by decide) ?_
  obtain ⟨μ1, hμ1, h⟩ := xlt_some h
  refine xv_newI (N := 14) m_184 (by decide +kernel) (by decide) rfl (by decide) (Nat.le_of_ble_eq_true rfl) (Nat.le_of_ble_eq_true rfl) hμ1 dX0_init_7 ?_
  show Ev E (xcm E d 6 288 QQ) Y_X0_init 9 [(0, .ref (E.2.2.2 + 12))] [.ref (E.2.2.2 + 13), .ref (E.2.2.2 + 12)] (xσ μ1 R) 14 1 14
  obtain ⟨R2, hR2, h⟩ := xlt_some h
  refine xv_putFR cl_0 lk_RX0_9 rfl rfl rfl (by decide +kernel) (by omega) (fun _ => rfl) (fun _ => rfl) (fun _ => rfl) hR2 dX0_init_9 ?_
  refine ev_aload_n 0 dX0_init_12 rfl rfl ?_
  refine ev_bipush (v := 14) dX0_init_13 (by decide) ?_
  obtain ⟨μ3, hμ3, h⟩ := xlt_some h
  refine xv_newI (N := 14) m_184 (by decide +kernel) (by decide) rfl (by decide) (Nat.le_of_ble_eq_true rfl) (Nat.le_of_ble_eq_true rfl) hμ3 dX0_init_15 ?_
  show Ev E (xcm E d 6 288 QQ) Y_X0_init 17 [(0, .ref (E.2.2.2 + 12))] [.ref (E.2.2.2 + 14), .ref (E.2.2.2 + 12)] (xσ μ3 R2) 15 2 28
  obtain ⟨R4, hR4, h⟩ := xlt_some h
  refine xv_putFR cl_0 lk_RX0_15 rfl rfl rfl (by decide +kernel) (by omega) (fun _ => rfl) (fun _ => rfl) (fun _ => rfl) hR4 dX0_init_17 ?_
  refine ev_aload_n 0 dX0_init_20 rfl rfl ?_
  refine ev_bipush (v := 14) dX0_init_21 (by decide) ?_
  obtain ⟨μ5, hμ5, h⟩ := xlt_some h
  refine xv_newI (N := 14) m_184 (by decide +kernel) (by decide) rfl (by decide) (Nat.le_of_ble_eq_true rfl) (Nat.le_of_ble_eq_true rfl) hμ5 dX0_init_23 ?_
  show Ev E (xcm E d 6 288 QQ) Y_X0_init 25 [(0, .ref (E.2.2.2 + 12))] [.ref (E.2.2.2 + 15), .ref (E.2.2.2 + 12)] (xσ μ5 R4) 16 3 42
  obtain ⟨R6, hR6, h⟩ := xlt_some h
  refine xv_putFR cl_0 lk_RX0_18 rfl rfl rfl (by decide +kernel) (by omega) (fun _ => rfl) (fun _ => rfl) (fun _ => rfl) hR6 dX0_init_25 ?_
  refine ev_aload_n 0 dX0_init_28 rfl rfl ?_
  refine ev_bipush (v := 14) dX0_init_29 (by decide) ?_
  obtain ⟨μ7, hμ7, h⟩ := xlt_some h
  refine xv_newI (N := 14) m_184 (by decide +kernel) (by decide) rfl (by decide) (Nat.le_of_ble_eq_true rfl) (Nat.le_of_ble_eq_true rfl) hμ7 dX0_init_31 ?_
  show Ev E (xcm E d 6 288 QQ) Y_X0_init 33 [(0, .ref (E.2.2.2 + 12))] [.ref (E.2.2.2 + 16), .ref (E.2.2.2 + 12)] (xσ μ7 R6) 17 4 56
  obtain ⟨R8, hR8, h⟩ := xlt_some h
  refine xv_putFR cl_0 lk_RX0_21 rfl rfl rfl (by decide +kernel) (by omega) (fun _ => rfl) (fun _ => rfl) (fun _ => rfl) hR8 dX0_init_33 ?_
  refine ev_aload_n 0 dX0_init_36 rfl rfl ?_
  refine ev_sipush (v := 200) dX0_init_37 (by decide) ?_
  obtain ⟨μ9, hμ9, h⟩ := xlt_some h
  refine xv_newI (N := 200) m_184 (by decide +kernel) (by decide) rfl (by decide) (Nat.le_of_ble_eq_true rfl) (Nat.le_of_ble_eq_true rfl) hμ9 dX0_init_40 ?_
  show Ev E (xcm E d 6 288 QQ) Y_X0_init 42 [(0, .ref (E.2.2.2 + 12))] [.ref (E.2.2.2 + 17), .ref (E.2.2.2 + 12)] (xσ μ9 R8) 18 5 256
  obtain ⟨R10, hR10, h⟩ := xlt_some h
  refine xv_putFR cl_0 lk_RX0_24 rfl rfl rfl (by decide +kernel) (by omega) (fun _ => rfl) (fun _ => rfl) (fun _ => rfl) hR10 dX0_init_42 ?_
  refine ev_aload_n 0 dX0_init_45 rfl rfl ?_
  refine ev_bipush (v := 32) dX0_init_46 (by decide) ?_
  obtain ⟨μ11, hμ11, h⟩ := xlt_some h
  refine xv_newJ (N := 32) m_185 (by decide +kernel) (by decide) rfl (by decide) (Nat.le_of_ble_eq_true rfl) (Nat.le_of_ble_eq_true rfl) hμ11 dX0_init_48 ?_
  show Ev E (xcm E d 6 288 QQ) Y_X0_init 50 [(0, .ref (E.2.2.2 + 12))] [.ref (E.2.2.2 + 18), .ref (E.2.2.2 + 12)] (xσ μ11 R10) 19 6 288
  obtain ⟨R12, hR12, h⟩ := xlt_some h
  refine xv_putFR cl_0 lk_RX0_27 rfl rfl rfl (by decide +kernel) (by omega) (fun _ => rfl) (fun _ => rfl) (fun _ => rfl) hR12 dX0_init_50 ?_
  cases h
  exact ev_vret rfl hQ dX0_init_53 (Nat.le_of_ble_eq_true rfl) (Nat.le_of_ble_eq_true rfl)
theorem keep_X0_init_12 {μ : xm} {R : xr} {res : xm × xr} (h : fX0_init_12  μ R = some res) : ∀ a, a < 12 → res.2 a = R a := by
  intro a ha
  unfold fX0_init_12 at h
  obtain ⟨μ1, hμ1, h⟩ := xlt_some h
  obtain ⟨R2, hR2, h⟩ := xlt_some h
  obtain ⟨μ3, hμ3, h⟩ := xlt_some h
  obtain ⟨R4, hR4, h⟩ := xlt_some h
  obtain ⟨μ5, hμ5, h⟩ := xlt_some h
  obtain ⟨R6, hR6, h⟩ := xlt_some h
  obtain ⟨μ7, hμ7, h⟩ := xlt_some h
  obtain ⟨R8, hR8, h⟩ := xlt_some h
  obtain ⟨μ9, hμ9, h⟩ := xlt_some h
  obtain ⟨R10, hR10, h⟩ := xlt_some h
  obtain ⟨μ11, hμ11, h⟩ := xlt_some h
  obtain ⟨R12, hR12, h⟩ := xlt_some h
  cases h
  show R12 a = R a
  rw [← hR12, xup_ne (by omega), ← hR10, xup_ne (by omega), ← hR8, xup_ne (by omega), ← hR6, xup_ne (by omega), ← hR4, xup_ne (by omega), ← hR2, xup_ne (by omega)]
def fX1_init_3  (μ : xm) (R : xr) : Option (xm × xr) := xlt (xz0I μ 4) fun μ1 => xlt (xup R 3 0 (some 4)) fun R2 => xlt (xz0I (xz0J μ1 5) 5) fun μ3 => xlt (xz0R R2 5) fun R4 => xbd (fX0_init_5 μ3 R4) fun q5 => xlt (xup q5.2 3 1 (some 5)) fun R6 => xlt (xz0I (xz0J q5.1 12) 12) fun μ7 => xlt (xz0R R6 12) fun R8 => xbd (fX0_init_12 μ7 R8) fun q9 => xlt (xup q9.2 3 2 (some 12)) fun R10 => some (q9.1, R10)
set_option maxHeartbeats 4000000 in
set_option maxRecDepth 100000 in
theorem kX1_init_3 {E : xE} {d : Nat} {QQ : xP} (hd : 2 ≤ d) {μ : xm} {R : xr} {res : xm × xr} (h : fX1_init_3  μ R = some res) (hQ : QQ none (xσ res.1 res.2) 19) : xCon E d Y_X1_init 15 792 [.ref (E.2.2.2 + 3)] (xσ μ R) 4 QQ := by
  refine xCon_of pn_RX1 (Nat.le_of_ble_eq_true rfl) (L0 := [(0, .ref (E.2.2.2 + 3))]) rfl ?_
  unfold fX1_init_3 at h
  refine ev_aload_n 0 dX1_init_0 rfl rfl ?_
  refine ev_objInit ⟨m_152, m_131, m_132⟩ (Nat.le_of_ble_eq_true rfl) (Nat.le_trans (by decide) hd) (Nat.le_trans (by decide) (Nat.mul_le_mul_left 80 (Nat.le_trans (by decide : 1 ≤ 2) hd))) dX1_init_1 ?_
  refine ev_aload_n 0 dX1_init_4 rfl rfl ?_
  refine ev_sipush (v := 200) dX1_init_5 (by decide) ?_
  obtain ⟨μ1, hμ1, h⟩ := xlt_some h
  refine xv_newB (N := 200) m_146 (by decide +kernel) (by decide) rfl (by decide) (Nat.le_of_ble_eq_true rfl) (Nat.le_of_ble_eq_true rfl) hμ1 dX1_init_8 ?_
  show Ev E (xcm E d 15 792 QQ) Y_X1_init 10 [(0, .ref (E.2.2.2 + 3))] [.ref (E.2.2.2 + 4), .ref (E.2.2.2 + 3)] (xσ μ1 R) 5 1 200
  obtain ⟨R2, hR2, h⟩ := xlt_some h
  refine xv_putFR cl_1 lk_RX1_9 rfl rfl rfl (by decide +kernel) (by omega) (fun _ => rfl) (fun _ => rfl) (fun _ => rfl) hR2 dX1_init_10 ?_
  refine ev_aload_n 0 dX1_init_13 rfl rfl ?_
  obtain ⟨μ3, hμ3, h⟩ := xlt_some h
  obtain ⟨R4, hR4, h⟩ := xlt_some h
  refine xv_new cl_0 (N := 8) rfl (xdf_ok xdf_0) m_153 m_154 m_112 (by decide +kernel) (Nat.le_of_ble_eq_true rfl) (Nat.le_of_ble_eq_true rfl) hμ3 hR4 dX1_init_14 ?_
  show Ev E (xcm E d 15 792 QQ) Y_X1_init 17 [(0, .ref (E.2.2.2 + 3))] [.ref (E.2.2.2 + 5), .ref (E.2.2.2 + 3)] (xσ μ3 R4) 6 2 208
  refine ev_dup dX1_init_17 rfl ?_
  obtain ⟨q5, hq5, h⟩ := xbd_some h
  refine ev_callIN (As := []) (rest := [.ref (E.2.2.2 + 5), .ref (E.2.2.2 + 3)]) 0 rfl (kX0_init_5 (E := E) (d := 1) (QQ := (fun v τ n' => v = none ∧ τ = xσ q5.1 q5.2 ∧ n' = 12)) (Nat.le_refl _) hq5 ⟨rfl, rfl, rfl⟩) my_X0_init ⟨⟨_, xnm_2⟩, rfl, m_156⟩ rfl rfl (Nat.le_of_ble_eq_true rfl) (Nat.le_trans (by decide) hd) (xlo (by decide) (Nat.le_trans (by decide) hd)) (Nat.le_of_ble_eq_true rfl) (Nat.le_of_ble_eq_true rfl) dX1_init_18 (fun v τ n' hv => ?_)
  obtain ⟨rfl, rfl, rfl⟩ := hv
  show Ev E (xcm E d 15 792 QQ) Y_X1_init 21 [(0, .ref (E.2.2.2 + 3))] [.ref (E.2.2.2 + 5), .ref (E.2.2.2 + 3)] (xσ q5.1 q5.2) 12 8 496
  obtain ⟨R6, hR6, h⟩ := xlt_some h
  refine xv_putR cl_1 lk_RX1_18 rfl (by decide +kernel) (by omega) (fun _ => rfl) (fun _ => rfl) (fun _ => rfl) hR6 dX1_init_21 ?_
  refine ev_aload_n 0 dX1_init_24 rfl rfl ?_
  obtain ⟨μ7, hμ7, h⟩ := xlt_some h
  obtain ⟨R8, hR8, h⟩ := xlt_some h
  refine xv_new cl_0 (N := 8) rfl (xdf_ok xdf_0) m_153 m_154 m_112 (by decide +kernel) (Nat.le_of_ble_eq_true rfl) (Nat.le_of_ble_eq_true rfl) hμ7 hR8 dX1_init_25 ?_
  show Ev E (xcm E d 15 792 QQ) Y_X1_init 28 [(0, .ref (E.2.2.2 + 3))] [.ref (E.2.2.2 + 12), .ref (E.2.2.2 + 3)] (xσ μ7 R8) 13 9 504
  refine ev_dup dX1_init_28 rfl ?_
  obtain ⟨q9, hq9, h⟩ := xbd_some h
  refine ev_callIN (As := []) (rest := [.ref (E.2.2.2 + 12), .ref (E.2.2.2 + 3)]) 0 rfl (kX0_init_12 (E := E) (d := 1) (QQ := (fun v τ n' => v = none ∧ τ = xσ q9.1 q9.2 ∧ n' = 19)) (Nat.le_refl _) hq9 ⟨rfl, rfl, rfl⟩) my_X0_init ⟨⟨_, xnm_2⟩, rfl, m_156⟩ rfl rfl (Nat.le_of_ble_eq_true rfl) (Nat.le_trans (by decide) hd) (xlo (by decide) (Nat.le_trans (by decide) hd)) (Nat.le_of_ble_eq_true rfl) (Nat.le_of_ble_eq_true rfl) dX1_init_29 (fun v τ n' hv => ?_)
  obtain ⟨rfl, rfl, rfl⟩ := hv
  show Ev E (xcm E d 15 792 QQ) Y_X1_init 32 [(0, .ref (E.2.2.2 + 3))] [.ref (E.2.2.2 + 12), .ref (E.2.2.2 + 3)] (xσ q9.1 q9.2) 19 15 792
  obtain ⟨R10, hR10, h⟩ := xlt_some h
  refine xv_putR cl_1 lk_RX1_22 rfl (by decide +kernel) (by omega) (fun _ => rfl) (fun _ => rfl) (fun _ => rfl) hR10 dX1_init_32 ?_
  cases h
  exact ev_vret rfl hQ dX1_init_35 (Nat.le_of_ble_eq_true rfl) (Nat.le_of_ble_eq_true rfl)
theorem keep_X1_init_3 {μ : xm} {R : xr} {res : xm × xr} (h : fX1_init_3  μ R = some res) : ∀ a, a < 3 → res.2 a = R a := by
  intro a ha
  unfold fX1_init_3 at h
  obtain ⟨μ1, hμ1, h⟩ := xlt_some h
  obtain ⟨R2, hR2, h⟩ := xlt_some h
  obtain ⟨μ3, hμ3, h⟩ := xlt_some h
  obtain ⟨R4, hR4, h⟩ := xlt_some h
  obtain ⟨q5, hq5, h⟩ := xbd_some h
  obtain ⟨R6, hR6, h⟩ := xlt_some h
  obtain ⟨μ7, hμ7, h⟩ := xlt_some h
  obtain ⟨R8, hR8, h⟩ := xlt_some h
  obtain ⟨q9, hq9, h⟩ := xbd_some h
  obtain ⟨R10, hR10, h⟩ := xlt_some h
  cases h
  show R10 a = R a
  rw [← hR10, xup_ne (by omega), keep_X0_init_12 hq9 _ (by omega), ← hR8, xz0R_ne (by omega), ← hR6, xup_ne (by omega), keep_X0_init_5 hq5 _ (by omega), ← hR4, xz0R_ne (by omega), ← hR2, xup_ne (by omega)]
def fX5_init_19  (μ : xm) (R : xr) : Option (xm × xr) := xlt (xz0I μ 20) fun μ1 => xlt (xup R 19 0 (some 20)) fun R2 => xlt (xz0I μ1 21) fun μ3 => xlt (xup R2 19 1 (some 21)) fun R4 => xlt (xz0I μ3 22) fun μ5 => xlt (xup R4 19 2 (some 22)) fun R6 => xbd (fJ7_fill_53178 20 1 μ5) fun q7 => some (q7, R6)
set_option maxHeartbeats 4000000 in
set_option maxRecDepth 100000 in
theorem kX5_init_19 {E : xE} {d : Nat} {QQ : xP} (hd : 1 ≤ d) {μ : xm} {R : xr} {res : xm × xr} (h : fX5_init_19  μ R = some res) (hQ : QQ none (xσ res.1 res.2) 23) : xCon E d Y_X5_init 3 576 [.ref (E.2.2.2 + 19)] (xσ μ R) 20 QQ := by
  refine xCon_of pn_RX5 (Nat.le_of_ble_eq_true rfl) (L0 := [(0, .ref (E.2.2.2 + 19))]) rfl ?_
  unfold fX5_init_19 at h
  refine ev_aload_n 0 dX5_init_0 rfl rfl ?_
  refine ev_objInit ⟨m_210, m_131, m_132⟩ (Nat.le_of_ble_eq_true rfl) (Nat.le_trans (by decide) hd) (Nat.le_trans (by decide) (Nat.mul_le_mul_left 80 (Nat.le_trans (by decide : 1 ≤ 1) hd))) dX5_init_1 ?_
  refine ev_aload_n 0 dX5_init_4 rfl rfl ?_
  refine ev_sipush (v := 192) dX5_init_5 (by decide) ?_
  obtain ⟨μ1, hμ1, h⟩ := xlt_some h
  refine xv_newI (N := 192) m_184 (by decide +kernel) (by decide) rfl (by decide) (Nat.le_of_ble_eq_true rfl) (Nat.le_of_ble_eq_true rfl) hμ1 dX5_init_8 ?_
  show Ev E (xcm E d 3 576 QQ) Y_X5_init 10 [(0, .ref (E.2.2.2 + 19))] [.ref (E.2.2.2 + 20), .ref (E.2.2.2 + 19)] (xσ μ1 R) 21 1 192
  obtain ⟨R2, hR2, h⟩ := xlt_some h
  refine xv_putFR cl_5 lk_RX5_9 rfl rfl rfl (by decide +kernel) (by omega) (fun _ => rfl) (fun _ => rfl) (fun _ => rfl) hR2 dX5_init_10 ?_
  refine ev_aload_n 0 dX5_init_13 rfl rfl ?_
  refine ev_sipush (v := 192) dX5_init_14 (by decide) ?_
  obtain ⟨μ3, hμ3, h⟩ := xlt_some h
  refine xv_newI (N := 192) m_184 (by decide +kernel) (by decide) rfl (by decide) (Nat.le_of_ble_eq_true rfl) (Nat.le_of_ble_eq_true rfl) hμ3 dX5_init_17 ?_
  show Ev E (xcm E d 3 576 QQ) Y_X5_init 19 [(0, .ref (E.2.2.2 + 19))] [.ref (E.2.2.2 + 21), .ref (E.2.2.2 + 19)] (xσ μ3 R2) 22 2 384
  obtain ⟨R4, hR4, h⟩ := xlt_some h
  refine xv_putFR cl_5 lk_RX5_15 rfl rfl rfl (by decide +kernel) (by omega) (fun _ => rfl) (fun _ => rfl) (fun _ => rfl) hR4 dX5_init_19 ?_
  refine ev_aload_n 0 dX5_init_22 rfl rfl ?_
  refine ev_sipush (v := 192) dX5_init_23 (by decide) ?_
  obtain ⟨μ5, hμ5, h⟩ := xlt_some h
  refine xv_newI (N := 192) m_184 (by decide +kernel) (by decide) rfl (by decide) (Nat.le_of_ble_eq_true rfl) (Nat.le_of_ble_eq_true rfl) hμ5 dX5_init_26 ?_
  show Ev E (xcm E d 3 576 QQ) Y_X5_init 28 [(0, .ref (E.2.2.2 + 19))] [.ref (E.2.2.2 + 22), .ref (E.2.2.2 + 19)] (xσ μ5 R4) 23 3 576
  obtain ⟨R6, hR6, h⟩ := xlt_some h
  refine xv_putFR cl_5 lk_RX5_18 rfl rfl rfl (by decide +kernel) (by omega) (fun _ => rfl) (fun _ => rfl) (fun _ => rfl) hR6 dX5_init_28 ?_
  refine ev_aload_n 0 dX5_init_31 rfl rfl ?_
  refine xv_getF (a := 20) cl_5 lk_RX5_9 (by decide +kernel) (by omega) (fun _ => rfl) (by rw [← hR6, xup_lo (by first | omega | decide), ← hR4, xup_lo (by first | omega | decide), ← hR2]; exact xup_self) dX5_init_32 ?_
  refine ev_iconst (v := 1) dX5_init_35 (by decide) ?_
  obtain ⟨q7, hq7, h⟩ := xbd_some h
  refine ev_callS (As := [.ref (E.2.2.2 + 20), .int 1]) (rest := []) 2 (kJ7_fill_53178 (E := E) (d := 0) (QQ := (fun v τ n' => v = none ∧ τ = xσ q7 R6 ∧ n' = 23)) (Nat.le_refl _) (xIsA_of (by decide +kernel : xkd 20 = (1, 192)) (by omega)) hq7 ⟨rfl, rfl, rfl⟩) my_J7_fill_53178 ⟨m_211, m_212⟩ rfl rfl (Nat.le_of_ble_eq_true rfl) (Nat.le_trans (by decide) hd) (xlo (by decide) (Nat.le_trans (by decide) hd)) (Nat.le_of_ble_eq_true rfl) (Nat.le_of_ble_eq_true rfl) dX5_init_36 (fun v τ n' hv => ?_)
  obtain ⟨rfl, rfl, rfl⟩ := hv
  show Ev E (xcm E d 3 576 QQ) Y_X5_init 39 [(0, .ref (E.2.2.2 + 19))] [] (xσ q7 R6) 23 3 576
  cases h
  exact ev_vret rfl hQ dX5_init_39 (Nat.le_of_ble_eq_true rfl) (Nat.le_of_ble_eq_true rfl)
theorem keep_X5_init_19 {μ : xm} {R : xr} {res : xm × xr} (h : fX5_init_19  μ R = some res) : ∀ a, a < 19 → res.2 a = R a := by
  intro a ha
  unfold fX5_init_19 at h
  obtain ⟨μ1, hμ1, h⟩ := xlt_some h
  obtain ⟨R2, hR2, h⟩ := xlt_some h
  obtain ⟨μ3, hμ3, h⟩ := xlt_some h
  obtain ⟨R4, hR4, h⟩ := xlt_some h
  obtain ⟨μ5, hμ5, h⟩ := xlt_some h
  obtain ⟨R6, hR6, h⟩ := xlt_some h
  obtain ⟨q7, hq7, h⟩ := xbd_some h
  cases h
  show R6 a = R a
  rw [← hR6, xup_ne (by omega), ← hR4, xup_ne (by omega), ← hR2, xup_ne (by omega)]
def fX3_init_23  (μ : xm) (R : xr) : Option (xm × xr) := xlt (xz0R R 24) fun R1 => xlt (xup R1 23 1 (some 24)) fun R2 => xlt (xz0I μ 25) fun μ3 => xlt (xup R2 23 2 (some 25)) fun R4 => xlt (xz0I μ3 26) fun μ5 => xlt (xup R4 23 3 (some 26)) fun R6 => xlt (xz0I μ5 27) fun μ7 => xlt (xup R6 23 4 (some 27)) fun R8 => xlt (xup R8 23 0 (some 19)) fun R9 => some (μ7, R9)
set_option maxHeartbeats 4000000 in
set_option maxRecDepth 100000 in
theorem kX3_init_23 {E : xE} {d : Nat} {QQ : xP} (hd : 1 ≤ d) {μ : xm} {R : xr} {res : xm × xr} (h : fX3_init_23  μ R = some res) (hQ : QQ none (xσ res.1 res.2) 28) : xCon E d Y_X3_init 4 98 [.ref (E.2.2.2 + 23), .ref (E.2.2.2 + 19)] (xσ μ R) 24 QQ := by
  refine xCon_of pn_RX3 (Nat.le_of_ble_eq_true rfl) (L0 := [(0, .ref (E.2.2.2 + 23)), (1, .ref (E.2.2.2 + 19))]) rfl ?_
  unfold fX3_init_23 at h
  refine ev_aload_n 0 dX3_init_0 rfl rfl ?_
  refine ev_objInit ⟨m_229, m_131, m_132⟩ (Nat.le_of_ble_eq_true rfl) (Nat.le_trans (by decide) hd) (Nat.le_trans (by decide) (Nat.mul_le_mul_left 80 (Nat.le_trans (by decide : 1 ≤ 1) hd))) dX3_init_1 ?_
  refine ev_aload_n 0 dX3_init_4 rfl rfl ?_
  refine ev_bipush (v := 24) dX3_init_5 (by decide) ?_
  obtain ⟨R1, hR1, h⟩ := xlt_some h
  refine xv_newQ (N := 24) m_230 (by decide +kernel) (by decide) rfl (by decide) (Nat.le_of_ble_eq_true rfl) (Nat.le_of_ble_eq_true rfl) hR1 dX3_init_7 ?_
  show Ev E (xcm E d 4 98 QQ) Y_X3_init 10 [(0, .ref (E.2.2.2 + 23)), (1, .ref (E.2.2.2 + 19))] [.ref (E.2.2.2 + 24), .ref (E.2.2.2 + 23)] (xσ μ R1) 25 1 24
  obtain ⟨R2, hR2, h⟩ := xlt_some h
  refine xv_putFR cl_3 lk_RX3_11 rfl rfl rfl (by decide +kernel) (by omega) (fun _ => rfl) (fun _ => rfl) (fun _ => rfl) hR2 dX3_init_10 ?_
  refine ev_aload_n 0 dX3_init_13 rfl rfl ?_
  refine ev_bipush (v := 26) dX3_init_14 (by decide) ?_
  obtain ⟨μ3, hμ3, h⟩ := xlt_some h
  refine xv_newI (N := 26) m_184 (by decide +kernel) (by decide) rfl (by decide) (Nat.le_of_ble_eq_true rfl) (Nat.le_of_ble_eq_true rfl) hμ3 dX3_init_16 ?_
  show Ev E (xcm E d 4 98 QQ) Y_X3_init 18 [(0, .ref (E.2.2.2 + 23)), (1, .ref (E.2.2.2 + 19))] [.ref (E.2.2.2 + 25), .ref (E.2.2.2 + 23)] (xσ μ3 R2) 26 2 50
  obtain ⟨R4, hR4, h⟩ := xlt_some h
  refine xv_putFR cl_3 lk_RX3_17 rfl rfl rfl (by decide +kernel) (by omega) (fun _ => rfl) (fun _ => rfl) (fun _ => rfl) hR4 dX3_init_18 ?_
  refine ev_aload_n 0 dX3_init_21 rfl rfl ?_
  refine ev_bipush (v := 24) dX3_init_22 (by decide) ?_
  obtain ⟨μ5, hμ5, h⟩ := xlt_some h
  refine xv_newI (N := 24) m_184 (by decide +kernel) (by decide) rfl (by decide) (Nat.le_of_ble_eq_true rfl) (Nat.le_of_ble_eq_true rfl) hμ5 dX3_init_24 ?_
  show Ev E (xcm E d 4 98 QQ) Y_X3_init 26 [(0, .ref (E.2.2.2 + 23)), (1, .ref (E.2.2.2 + 19))] [.ref (E.2.2.2 + 26), .ref (E.2.2.2 + 23)] (xσ μ5 R4) 27 3 74
  obtain ⟨R6, hR6, h⟩ := xlt_some h
  refine xv_putFR cl_3 lk_RX3_21 rfl rfl rfl (by decide +kernel) (by omega) (fun _ => rfl) (fun _ => rfl) (fun _ => rfl) hR6 dX3_init_26 ?_
  refine ev_aload_n 0 dX3_init_29 rfl rfl ?_
  refine ev_bipush (v := 24) dX3_init_30 (by decide) ?_
  obtain ⟨μ7, hμ7, h⟩ := xlt_some h
  refine xv_newI (N := 24) m_184 (by decide +kernel) (by decide) rfl (by decide) (Nat.le_of_ble_eq_true rfl) (Nat.le_of_ble_eq_true rfl) hμ7 dX3_init_32 ?_
  show Ev E (xcm E d 4 98 QQ) Y_X3_init 34 [(0, .ref (E.2.2.2 + 23)), (1, .ref (E.2.2.2 + 19))] [.ref (E.2.2.2 + 27), .ref (E.2.2.2 + 23)] (xσ μ7 R6) 28 4 98
  obtain ⟨R8, hR8, h⟩ := xlt_some h
  refine xv_putFR cl_3 lk_RX3_24 rfl rfl rfl (by decide +kernel) (by omega) (fun _ => rfl) (fun _ => rfl) (fun _ => rfl) hR8 dX3_init_34 ?_
  refine ev_aload_n 0 dX3_init_37 rfl rfl ?_
  refine ev_aload_n 1 dX3_init_38 rfl rfl ?_
  obtain ⟨R9, hR9, h⟩ := xlt_some h
  refine xv_putFR cl_3 lk_RX3_27 rfl rfl rfl (by decide +kernel) (by omega) (fun _ => rfl) (fun _ => rfl) (fun _ => rfl) hR9 dX3_init_39 ?_
  cases h
  exact ev_vret rfl hQ dX3_init_42 (Nat.le_of_ble_eq_true rfl) (Nat.le_of_ble_eq_true rfl)
theorem keep_X3_init_23 {μ : xm} {R : xr} {res : xm × xr} (h : fX3_init_23  μ R = some res) : ∀ a, a < 23 → res.2 a = R a := by
  intro a ha
  unfold fX3_init_23 at h
  obtain ⟨R1, hR1, h⟩ := xlt_some h
  obtain ⟨R2, hR2, h⟩ := xlt_some h
  obtain ⟨μ3, hμ3, h⟩ := xlt_some h
  obtain ⟨R4, hR4, h⟩ := xlt_some h
  obtain ⟨μ5, hμ5, h⟩ := xlt_some h
  obtain ⟨R6, hR6, h⟩ := xlt_some h
  obtain ⟨μ7, hμ7, h⟩ := xlt_some h
  obtain ⟨R8, hR8, h⟩ := xlt_some h
  obtain ⟨R9, hR9, h⟩ := xlt_some h
  cases h
  show R9 a = R a
  rw [← hR9, xup_ne (by omega), ← hR8, xup_ne (by omega), ← hR6, xup_ne (by omega), ← hR4, xup_ne (by omega), ← hR2, xup_ne (by omega), ← hR1, xz0R_ne (by omega)]
def fX4_init_28  (μ : xm) (R : xr) : Option (xm × xr) := xlt (xz0I μ 29) fun μ1 => xlt (xup R 28 0 (some 29)) fun R2 => xlt (xz0I μ1 30) fun μ3 => xlt (xup R2 28 1 (some 30)) fun R4 => xlt (xz0I μ3 31) fun μ5 => xlt (xup R4 28 2 (some 31)) fun R6 => xlt (xz0I μ5 32) fun μ7 => xlt (xup R6 28 3 (some 32)) fun R8 => xlt (xz0I μ7 33) fun μ9 => xlt (xup R8 28 4 (some 33)) fun R10 => xlt (xz0I μ9 34) fun μ11 => xlt (xup R10 28 5 (some 34)) fun R12 => some (μ11, R12)
set_option maxHeartbeats 4000000 in
set_option maxRecDepth 100000 in
theorem kX4_init_28 {E : xE} {d : Nat} {QQ : xP} (hd : 1 ≤ d) {μ : xm} {R : xr} {res : xm × xr} (h : fX4_init_28  μ R = some res) (hQ : QQ none (xσ res.1 res.2) 35) : xCon E d Y_X4_init 6 307 [.ref (E.2.2.2 + 28)] (xσ μ R) 29 QQ := by
  refine xCon_of pn_RX4 (Nat.le_of_ble_eq_true rfl) (L0 := [(0, .ref (E.2.2.2 + 28))]) rfl ?_
  unfold fX4_init_28 at h
  refine ev_aload_n 0 dX4_init_0 rfl rfl ?_
  refine ev_objInit ⟨m_259, m_131, m_132⟩ (Nat.le_of_ble_eq_true rfl) (Nat.le_trans (by decide) hd) (Nat.le_trans (by decide) (Nat.mul_le_mul_left 80 (Nat.le_trans (by decide : 1 ≤ 1) hd))) dX4_init_1 ?_
  refine ev_aload_n 0 dX4_init_4 rfl rfl ?_
  refine ev_bipush (v := 60) dX4_init_5 (by decide) ?_
  obtain ⟨μ1, hμ1, h⟩ := xlt_some h
  refine xv_newI (N := 60) m_184 (by decide +kernel) (by decide) rfl (by decide) (Nat.le_of_ble_eq_true rfl) (Nat.le_of_ble_eq_true rfl) hμ1 dX4_init_7 ?_
  show Ev E (xcm E d 6 307 QQ) Y_X4_init 9 [(0, .ref (E.2.2.2 + 28))] [.ref (E.2.2.2 + 29), .ref (E.2.2.2 + 28)] (xσ μ1 R) 30 1 60
  obtain ⟨R2, hR2, h⟩ := xlt_some h
  refine xv_putFR cl_4 lk_RX4_9 rfl rfl rfl (by decide +kernel) (by omega) (fun _ => rfl) (fun _ => rfl) (fun _ => rfl) hR2 dX4_init_9 ?_
  refine ev_aload_n 0 dX4_init_12 rfl rfl ?_
  refine ev_bipush (v := 60) dX4_init_13 (by decide) ?_
  obtain ⟨μ3, hμ3, h⟩ := xlt_some h
  refine xv_newI (N := 60) m_184 (by decide +kernel) (by decide) rfl (by decide) (Nat.le_of_ble_eq_true rfl) (Nat.le_of_ble_eq_true rfl) hμ3 dX4_init_15 ?_
  show Ev E (xcm E d 6 307 QQ) Y_X4_init 17 [(0, .ref (E.2.2.2 + 28))] [.ref (E.2.2.2 + 30), .ref (E.2.2.2 + 28)] (xσ μ3 R2) 31 2 120
  obtain ⟨R4, hR4, h⟩ := xlt_some h
  refine xv_putFR cl_4 lk_RX4_15 rfl rfl rfl (by decide +kernel) (by omega) (fun _ => rfl) (fun _ => rfl) (fun _ => rfl) hR4 dX4_init_17 ?_
  refine ev_aload_n 0 dX4_init_20 rfl rfl ?_
  refine ev_bipush (v := 60) dX4_init_21 (by decide) ?_
  obtain ⟨μ5, hμ5, h⟩ := xlt_some h
  refine xv_newI (N := 60) m_184 (by decide +kernel) (by decide) rfl (by decide) (Nat.le_of_ble_eq_true rfl) (Nat.le_of_ble_eq_true rfl) hμ5 dX4_init_23 ?_
  show Ev E (xcm E d 6 307 QQ) Y_X4_init 25 [(0, .ref (E.2.2.2 + 28))] [.ref (E.2.2.2 + 31), .ref (E.2.2.2 + 28)] (xσ μ5 R4) 32 3 180
  obtain ⟨R6, hR6, h⟩ := xlt_some h
  refine xv_putFR cl_4 lk_RX4_18 rfl rfl rfl (by decide +kernel) (by omega) (fun _ => rfl) (fun _ => rfl) (fun _ => rfl) hR6 dX4_init_25 ?_
  refine ev_aload_n 0 dX4_init_28 rfl rfl ?_
  refine ev_bipush (v := 60) dX4_init_29 (by decide) ?_
  obtain ⟨μ7, hμ7, h⟩ := xlt_some h
  refine xv_newI (N := 60) m_184 (by decide +kernel) (by decide) rfl (by decide) (Nat.le_of_ble_eq_true rfl) (Nat.le_of_ble_eq_true rfl) hμ7 dX4_init_31 ?_
  show Ev E (xcm E d 6 307 QQ) Y_X4_init 33 [(0, .ref (E.2.2.2 + 28))] [.ref (E.2.2.2 + 32), .ref (E.2.2.2 + 28)] (xσ μ7 R6) 33 4 240
  obtain ⟨R8, hR8, h⟩ := xlt_some h
  refine xv_putFR cl_4 lk_RX4_21 rfl rfl rfl (by decide +kernel) (by omega) (fun _ => rfl) (fun _ => rfl) (fun _ => rfl) hR8 dX4_init_33 ?_
  refine ev_aload_n 0 dX4_init_36 rfl rfl ?_
  refine ev_bipush (v := 60) dX4_init_37 (by decide) ?_
  obtain ⟨μ9, hμ9, h⟩ := xlt_some h
  refine xv_newI (N := 60) m_184 (by decide +kernel) (by decide) rfl (by decide) (Nat.le_of_ble_eq_true rfl) (Nat.le_of_ble_eq_true rfl) hμ9 dX4_init_39 ?_
  show Ev E (xcm E d 6 307 QQ) Y_X4_init 41 [(0, .ref (E.2.2.2 + 28))] [.ref (E.2.2.2 + 33), .ref (E.2.2.2 + 28)] (xσ μ9 R8) 34 5 300
  obtain ⟨R10, hR10, h⟩ := xlt_some h
  refine xv_putFR cl_4 lk_RX4_24 rfl rfl rfl (by decide +kernel) (by omega) (fun _ => rfl) (fun _ => rfl) (fun _ => rfl) hR10 dX4_init_41 ?_
  refine ev_aload_n 0 dX4_init_44 rfl rfl ?_
  refine ev_bipush (v := 7) dX4_init_45 (by decide) ?_
  obtain ⟨μ11, hμ11, h⟩ := xlt_some h
  refine xv_newI (N := 7) m_184 (by decide +kernel) (by decide) rfl (by decide) (Nat.le_of_ble_eq_true rfl) (Nat.le_of_ble_eq_true rfl) hμ11 dX4_init_47 ?_
  show Ev E (xcm E d 6 307 QQ) Y_X4_init 49 [(0, .ref (E.2.2.2 + 28))] [.ref (E.2.2.2 + 34), .ref (E.2.2.2 + 28)] (xσ μ11 R10) 35 6 307
  obtain ⟨R12, hR12, h⟩ := xlt_some h
  refine xv_putFR cl_4 lk_RX4_27 rfl rfl rfl (by decide +kernel) (by omega) (fun _ => rfl) (fun _ => rfl) (fun _ => rfl) hR12 dX4_init_49 ?_
  cases h
  exact ev_vret rfl hQ dX4_init_52 (Nat.le_of_ble_eq_true rfl) (Nat.le_of_ble_eq_true rfl)
theorem keep_X4_init_28 {μ : xm} {R : xr} {res : xm × xr} (h : fX4_init_28  μ R = some res) : ∀ a, a < 28 → res.2 a = R a := by
  intro a ha
  unfold fX4_init_28 at h
  obtain ⟨μ1, hμ1, h⟩ := xlt_some h
  obtain ⟨R2, hR2, h⟩ := xlt_some h
  obtain ⟨μ3, hμ3, h⟩ := xlt_some h
  obtain ⟨R4, hR4, h⟩ := xlt_some h
  obtain ⟨μ5, hμ5, h⟩ := xlt_some h
  obtain ⟨R6, hR6, h⟩ := xlt_some h
  obtain ⟨μ7, hμ7, h⟩ := xlt_some h
  obtain ⟨R8, hR8, h⟩ := xlt_some h
  obtain ⟨μ9, hμ9, h⟩ := xlt_some h
  obtain ⟨R10, hR10, h⟩ := xlt_some h
  obtain ⟨μ11, hμ11, h⟩ := xlt_some h
  obtain ⟨R12, hR12, h⟩ := xlt_some h
  cases h
  show R12 a = R a
  rw [← hR12, xup_ne (by omega), ← hR10, xup_ne (by omega), ← hR8, xup_ne (by omega), ← hR6, xup_ne (by omega), ← hR4, xup_ne (by omega), ← hR2, xup_ne (by omega)]
def fX7_init_35  (μ : xm) (R : xr) : Option (xm × xr) := xlt (xz0I μ 36) fun μ1 => xlt (xup R 35 0 (some 36)) fun R2 => xlt (xz0I μ1 37) fun μ3 => xlt (xup R2 35 1 (some 37)) fun R4 => xlt (xz0I μ3 38) fun μ5 => xlt (xup R4 35 2 (some 38)) fun R6 => xlt (xz0I μ5 39) fun μ7 => xlt (xup R6 35 3 (some 39)) fun R8 => xlt (xz0I μ7 40) fun μ9 => xlt (xup R8 35 4 (some 40)) fun R10 => xlt (xz0I μ9 41) fun μ11 => xlt (xup R10 35 5 (some 41)) fun R12 => some (μ11, R12)
set_option maxHeartbeats 4000000 in
set_option maxRecDepth 100000 in
theorem kX7_init_35 {E : xE} {d : Nat} {QQ : xP} (hd : 1 ≤ d) {μ : xm} {R : xr} {res : xm × xr} (h : fX7_init_35  μ R = some res) (hQ : QQ none (xσ res.1 res.2) 42) : xCon E d Y_X7_init 6 408 [.ref (E.2.2.2 + 35)] (xσ μ R) 36 QQ := by
  refine xCon_of pn_RX7 (Nat.le_of_ble_eq_true rfl) (L0 := [(0, .ref (E.2.2.2 + 35))]) rfl ?_
  unfold fX7_init_35 at h
  refine ev_aload_n 0 dX7_init_0 rfl rfl ?_
  refine ev_objInit ⟨m_287, m_131, m_132⟩ (Nat.le_of_ble_eq_true rfl) (Nat.le_trans (by decide) hd) (Nat.le_trans (by decide) (Nat.mul_le_mul_left 80 (Nat.le_trans (by decide : 1 ≤ 1) hd))) dX7_init_1 ?_
  refine ev_aload_n 0 dX7_init_4 rfl rfl ?_
  refine ev_bipush (v := 64) dX7_init_5 (by decide) ?_
  obtain ⟨μ1, hμ1, h⟩ := xlt_some h
  refine xv_newI (N := 64) m_184 (by decide +kernel) (by decide) rfl (by decide) (Nat.le_of_ble_eq_true rfl) (Nat.le_of_ble_eq_true rfl) hμ1 dX7_init_7 ?_
  show Ev E (xcm E d 6 408 QQ) Y_X7_init 9 [(0, .ref (E.2.2.2 + 35))] [.ref (E.2.2.2 + 36), .ref (E.2.2.2 + 35)] (xσ μ1 R) 37 1 64
  obtain ⟨R2, hR2, h⟩ := xlt_some h
  refine xv_putFR cl_7 lk_RX7_11 rfl rfl rfl (by decide +kernel) (by omega) (fun _ => rfl) (fun _ => rfl) (fun _ => rfl) hR2 dX7_init_9 ?_
  refine ev_aload_n 0 dX7_init_12 rfl rfl ?_
  refine ev_bipush (v := 64) dX7_init_13 (by decide) ?_
  obtain ⟨μ3, hμ3, h⟩ := xlt_some h
  refine xv_newI (N := 64) m_184 (by decide +kernel) (by decide) rfl (by decide) (Nat.le_of_ble_eq_true rfl) (Nat.le_of_ble_eq_true rfl) hμ3 dX7_init_15 ?_
  show Ev E (xcm E d 6 408 QQ) Y_X7_init 17 [(0, .ref (E.2.2.2 + 35))] [.ref (E.2.2.2 + 37), .ref (E.2.2.2 + 35)] (xσ μ3 R2) 38 2 128
  obtain ⟨R4, hR4, h⟩ := xlt_some h
  refine xv_putFR cl_7 lk_RX7_15 rfl rfl rfl (by decide +kernel) (by omega) (fun _ => rfl) (fun _ => rfl) (fun _ => rfl) hR4 dX7_init_17 ?_
  refine ev_aload_n 0 dX7_init_20 rfl rfl ?_
  refine ev_bipush (v := 8) dX7_init_21 (by decide) ?_
  obtain ⟨μ5, hμ5, h⟩ := xlt_some h
  refine xv_newI (N := 8) m_184 (by decide +kernel) (by decide) rfl (by decide) (Nat.le_of_ble_eq_true rfl) (Nat.le_of_ble_eq_true rfl) hμ5 dX7_init_23 ?_
  show Ev E (xcm E d 6 408 QQ) Y_X7_init 25 [(0, .ref (E.2.2.2 + 35))] [.ref (E.2.2.2 + 38), .ref (E.2.2.2 + 35)] (xσ μ5 R4) 39 3 136
  obtain ⟨R6, hR6, h⟩ := xlt_some h
  refine xv_putFR cl_7 lk_RX7_18 rfl rfl rfl (by decide +kernel) (by omega) (fun _ => rfl) (fun _ => rfl) (fun _ => rfl) hR6 dX7_init_25 ?_
  refine ev_aload_n 0 dX7_init_28 rfl rfl ?_
  refine ev_bipush (v := 8) dX7_init_29 (by decide) ?_
  obtain ⟨μ7, hμ7, h⟩ := xlt_some h
  refine xv_newI (N := 8) m_184 (by decide +kernel) (by decide) rfl (by decide) (Nat.le_of_ble_eq_true rfl) (Nat.le_of_ble_eq_true rfl) hμ7 dX7_init_31 ?_
  show Ev E (xcm E d 6 408 QQ) Y_X7_init 33 [(0, .ref (E.2.2.2 + 35))] [.ref (E.2.2.2 + 39), .ref (E.2.2.2 + 35)] (xσ μ7 R6) 40 4 144
  obtain ⟨R8, hR8, h⟩ := xlt_some h
  refine xv_putFR cl_7 lk_RX7_21 rfl rfl rfl (by decide +kernel) (by omega) (fun _ => rfl) (fun _ => rfl) (fun _ => rfl) hR8 dX7_init_33 ?_
  refine ev_aload_n 0 dX7_init_36 rfl rfl ?_
  refine ev_bipush (v := 8) dX7_init_37 (by decide) ?_
  obtain ⟨μ9, hμ9, h⟩ := xlt_some h
  refine xv_newI (N := 8) m_184 (by decide +kernel) (by decide) rfl (by decide) (Nat.le_of_ble_eq_true rfl) (Nat.le_of_ble_eq_true rfl) hμ9 dX7_init_39 ?_
  show Ev E (xcm E d 6 408 QQ) Y_X7_init 41 [(0, .ref (E.2.2.2 + 35))] [.ref (E.2.2.2 + 40), .ref (E.2.2.2 + 35)] (xσ μ9 R8) 41 5 152
  obtain ⟨R10, hR10, h⟩ := xlt_some h
  refine xv_putFR cl_7 lk_RX7_24 rfl rfl rfl (by decide +kernel) (by omega) (fun _ => rfl) (fun _ => rfl) (fun _ => rfl) hR10 dX7_init_41 ?_
  refine ev_aload_n 0 dX7_init_44 rfl rfl ?_
  refine ev_sipush (v := 256) dX7_init_45 (by decide) ?_
  obtain ⟨μ11, hμ11, h⟩ := xlt_some h
  refine xv_newI (N := 256) m_184 (by decide +kernel) (by decide) rfl (by decide) (Nat.le_of_ble_eq_true rfl) (Nat.le_of_ble_eq_true rfl) hμ11 dX7_init_48 ?_
  show Ev E (xcm E d 6 408 QQ) Y_X7_init 50 [(0, .ref (E.2.2.2 + 35))] [.ref (E.2.2.2 + 41), .ref (E.2.2.2 + 35)] (xσ μ11 R10) 42 6 408
  obtain ⟨R12, hR12, h⟩ := xlt_some h
  refine xv_putFR cl_7 lk_RX7_27 rfl rfl rfl (by decide +kernel) (by omega) (fun _ => rfl) (fun _ => rfl) (fun _ => rfl) hR12 dX7_init_50 ?_
  cases h
  exact ev_vret rfl hQ dX7_init_53 (Nat.le_of_ble_eq_true rfl) (Nat.le_of_ble_eq_true rfl)
theorem keep_X7_init_35 {μ : xm} {R : xr} {res : xm × xr} (h : fX7_init_35  μ R = some res) : ∀ a, a < 35 → res.2 a = R a := by
  intro a ha
  unfold fX7_init_35 at h
  obtain ⟨μ1, hμ1, h⟩ := xlt_some h
  obtain ⟨R2, hR2, h⟩ := xlt_some h
  obtain ⟨μ3, hμ3, h⟩ := xlt_some h
  obtain ⟨R4, hR4, h⟩ := xlt_some h
  obtain ⟨μ5, hμ5, h⟩ := xlt_some h
  obtain ⟨R6, hR6, h⟩ := xlt_some h
  obtain ⟨μ7, hμ7, h⟩ := xlt_some h
  obtain ⟨R8, hR8, h⟩ := xlt_some h
  obtain ⟨μ9, hμ9, h⟩ := xlt_some h
  obtain ⟨R10, hR10, h⟩ := xlt_some h
  obtain ⟨μ11, hμ11, h⟩ := xlt_some h
  obtain ⟨R12, hR12, h⟩ := xlt_some h
  cases h
  show R12 a = R a
  rw [← hR12, xup_ne (by omega), ← hR10, xup_ne (by omega), ← hR8, xup_ne (by omega), ← hR6, xup_ne (by omega), ← hR4, xup_ne (by omega), ← hR2, xup_ne (by omega)]
def fX10_init_42_b69 (x1 : Int32) (μ2 : xm) : Option ((Int32 × xm) ⊕ xm) := if 8 ≤ x1 then (some (.inr μ2)) else (xbd (xsI μ2 45 40 (x1 * 5) 1) fun μ4 => xbd (xsI μ4 46 8 x1 1) fun μ5 => xlt (x1 + 1) fun x6 => some (.inl (x6, μ5)))
def fX10_init_42  (μ : xm) (R : xr) : Option (xm × xr) := xlt (xz0I μ 43) fun μ1 => xlt (xup R 42 1 (some 43)) fun R2 => xlt (xz0I μ1 44) fun μ3 => xlt (xup R2 42 2 (some 44)) fun R4 => xlt (xz0I μ3 45) fun μ5 => xlt (xup R4 42 3 (some 45)) fun R6 => xlt (xz0I μ5 46) fun μ7 => xlt (xup R6 42 4 (some 46)) fun R8 => xlt (xz0I μ7 47) fun μ9 => xlt (xup R8 42 5 (some 47)) fun R10 => xlt (xz0J μ9 48) fun μ11 => xlt (xup R10 42 6 (some 48)) fun R12 => xlt (xpI μ11 42 8 1) fun μ13 => xlt (xpI μ13 42 10 1) fun μ14 => xlt (xup R12 42 0 (some 19)) fun R15 => xbd (xloop xfu (fun v => fX10_init_42_b69 v.1 v.2) (0, μ14)) fun q16 => some (q16, R15)
set_option maxHeartbeats 4000000 in
set_option maxRecDepth 100000 in
theorem kX10_init_42 {E : xE} {d : Nat} {QQ : xP} (hd : 1 ≤ d) {μ : xm} {R : xr} {res : xm × xr} (h : fX10_init_42  μ R = some res) (hQ : QQ none (xσ res.1 res.2) 49) : xCon E d Y_X10_init 6 113 [.ref (E.2.2.2 + 42), .ref (E.2.2.2 + 19)] (xσ μ R) 43 QQ := by
  refine xCon_of pn_RX10 (Nat.le_of_ble_eq_true rfl) (L0 := [(0, .ref (E.2.2.2 + 42)), (1, .ref (E.2.2.2 + 19))]) rfl ?_
  unfold fX10_init_42 at h
  refine ev_aload_n 0 dX10_init_0 rfl rfl ?_
  refine ev_objInit ⟨m_312, m_131, m_132⟩ (Nat.le_of_ble_eq_true rfl) (Nat.le_trans (by decide) hd) (Nat.le_trans (by decide) (Nat.mul_le_mul_left 80 (Nat.le_trans (by decide : 1 ≤ 1) hd))) dX10_init_1 ?_
  refine ev_aload_n 0 dX10_init_4 rfl rfl ?_
  refine ev_bipush (v := 8) dX10_init_5 (by decide) ?_
  obtain ⟨μ1, hμ1, h⟩ := xlt_some h
  refine xv_newI (N := 8) m_184 (by decide +kernel) (by decide) rfl (by decide) (Nat.le_of_ble_eq_true rfl) (Nat.le_of_ble_eq_true rfl) hμ1 dX10_init_7 ?_
  show Ev E (xcm E d 6 113 QQ) Y_X10_init 9 [(0, .ref (E.2.2.2 + 42)), (1, .ref (E.2.2.2 + 19))] [.ref (E.2.2.2 + 43), .ref (E.2.2.2 + 42)] (xσ μ1 R) 44 1 8
  obtain ⟨R2, hR2, h⟩ := xlt_some h
  refine xv_putFR cl_10 lk_RX10_9 rfl rfl rfl (by decide +kernel) (by omega) (fun _ => rfl) (fun _ => rfl) (fun _ => rfl) hR2 dX10_init_9 ?_
  refine ev_aload_n 0 dX10_init_12 rfl rfl ?_
  refine ev_bipush (v := 40) dX10_init_13 (by decide) ?_
  obtain ⟨μ3, hμ3, h⟩ := xlt_some h
  refine xv_newI (N := 40) m_184 (by decide +kernel) (by decide) rfl (by decide) (Nat.le_of_ble_eq_true rfl) (Nat.le_of_ble_eq_true rfl) hμ3 dX10_init_15 ?_
  show Ev E (xcm E d 6 113 QQ) Y_X10_init 17 [(0, .ref (E.2.2.2 + 42)), (1, .ref (E.2.2.2 + 19))] [.ref (E.2.2.2 + 44), .ref (E.2.2.2 + 42)] (xσ μ3 R2) 45 2 48
  obtain ⟨R4, hR4, h⟩ := xlt_some h
  refine xv_putFR cl_10 lk_RX10_15 rfl rfl rfl (by decide +kernel) (by omega) (fun _ => rfl) (fun _ => rfl) (fun _ => rfl) hR4 dX10_init_17 ?_
  refine ev_aload_n 0 dX10_init_20 rfl rfl ?_
  refine ev_bipush (v := 40) dX10_init_21 (by decide) ?_
  obtain ⟨μ5, hμ5, h⟩ := xlt_some h
  refine xv_newI (N := 40) m_184 (by decide +kernel) (by decide) rfl (by decide) (Nat.le_of_ble_eq_true rfl) (Nat.le_of_ble_eq_true rfl) hμ5 dX10_init_23 ?_
  show Ev E (xcm E d 6 113 QQ) Y_X10_init 25 [(0, .ref (E.2.2.2 + 42)), (1, .ref (E.2.2.2 + 19))] [.ref (E.2.2.2 + 45), .ref (E.2.2.2 + 42)] (xσ μ5 R4) 46 3 88
  obtain ⟨R6, hR6, h⟩ := xlt_some h
  refine xv_putFR cl_10 lk_RX10_18 rfl rfl rfl (by decide +kernel) (by omega) (fun _ => rfl) (fun _ => rfl) (fun _ => rfl) hR6 dX10_init_25 ?_
  refine ev_aload_n 0 dX10_init_28 rfl rfl ?_
  refine ev_bipush (v := 8) dX10_init_29 (by decide) ?_
  obtain ⟨μ7, hμ7, h⟩ := xlt_some h
  refine xv_newI (N := 8) m_184 (by decide +kernel) (by decide) rfl (by decide) (Nat.le_of_ble_eq_true rfl) (Nat.le_of_ble_eq_true rfl) hμ7 dX10_init_31 ?_
  show Ev E (xcm E d 6 113 QQ) Y_X10_init 33 [(0, .ref (E.2.2.2 + 42)), (1, .ref (E.2.2.2 + 19))] [.ref (E.2.2.2 + 46), .ref (E.2.2.2 + 42)] (xσ μ7 R6) 47 4 96
  obtain ⟨R8, hR8, h⟩ := xlt_some h
  refine xv_putFR cl_10 lk_RX10_21 rfl rfl rfl (by decide +kernel) (by omega) (fun _ => rfl) (fun _ => rfl) (fun _ => rfl) hR8 dX10_init_33 ?_
  refine ev_aload_n 0 dX10_init_36 rfl rfl ?_
  refine ev_bipush (v := 8) dX10_init_37 (by decide) ?_
  obtain ⟨μ9, hμ9, h⟩ := xlt_some h
  refine xv_newZ (N := 8) m_347 (by decide +kernel) (by decide) rfl (by decide) (Nat.le_of_ble_eq_true rfl) (Nat.le_of_ble_eq_true rfl) hμ9 dX10_init_39 ?_
  show Ev E (xcm E d 6 113 QQ) Y_X10_init 41 [(0, .ref (E.2.2.2 + 42)), (1, .ref (E.2.2.2 + 19))] [.ref (E.2.2.2 + 47), .ref (E.2.2.2 + 42)] (xσ μ9 R8) 48 5 104
  obtain ⟨R10, hR10, h⟩ := xlt_some h
  refine xv_putFR cl_10 lk_RX10_24 rfl rfl rfl (by decide +kernel) (by omega) (fun _ => rfl) (fun _ => rfl) (fun _ => rfl) hR10 dX10_init_41 ?_
  refine ev_aload_n 0 dX10_init_44 rfl rfl ?_
  refine ev_bipush (v := 9) dX10_init_45 (by decide) ?_
  obtain ⟨μ11, hμ11, h⟩ := xlt_some h
  refine xv_newJ (N := 9) m_185 (by decide +kernel) (by decide) rfl (by decide) (Nat.le_of_ble_eq_true rfl) (Nat.le_of_ble_eq_true rfl) hμ11 dX10_init_47 ?_
  show Ev E (xcm E d 6 113 QQ) Y_X10_init 49 [(0, .ref (E.2.2.2 + 42)), (1, .ref (E.2.2.2 + 19))] [.ref (E.2.2.2 + 48), .ref (E.2.2.2 + 42)] (xσ μ11 R10) 49 6 113
  obtain ⟨R12, hR12, h⟩ := xlt_some h
  refine xv_putFR cl_10 lk_RX10_28 rfl rfl rfl (by decide +kernel) (by omega) (fun _ => rfl) (fun _ => rfl) (fun _ => rfl) hR12 dX10_init_49 ?_
  refine ev_aload_n 0 dX10_init_52 rfl rfl ?_
  refine ev_iconst (v := 1) dX10_init_53 (by decide) ?_
  obtain ⟨μ13, hμ13, h⟩ := xlt_some h
  refine xv_putI cl_10 lk_RX10_32 rfl (by decide +kernel) (by omega) rfl rfl (fun _ => rfl) hμ13 dX10_init_54 ?_
  refine ev_aload_n 0 dX10_init_57 rfl rfl ?_
  refine ev_iconst (v := 1) dX10_init_58 (by decide) ?_
  obtain ⟨μ14, hμ14, h⟩ := xlt_some h
  refine xv_putI cl_10 lk_RX10_36 rfl (by decide +kernel) (by omega) rfl rfl (fun _ => rfl) hμ14 dX10_init_59 ?_
  refine ev_aload_n 0 dX10_init_62 rfl rfl ?_
  refine ev_aload_n 1 dX10_init_63 rfl rfl ?_
  obtain ⟨R15, hR15, h⟩ := xlt_some h
  refine xv_putFR cl_10 lk_RX10_39 rfl rfl rfl (by decide +kernel) (by omega) (fun _ => rfl) (fun _ => rfl) (fun _ => rfl) hR15 dX10_init_64 ?_
  refine ev_iconst (v := 0) dX10_init_67 (by decide) ?_
  refine xv_istore_n (L' := [(2, .int 0), (0, .ref (E.2.2.2 + 42)), (1, .ref (E.2.2.2 + 19))]) rfl dX10_init_68 rfl (Nat.le_of_ble_eq_true rfl) rfl ?_
  obtain ⟨q16, hq16, h⟩ := xbd_some h
  have hwe : R15 42 3 = some 45 := (by rw [← hR15, xup_lo (by first | omega | decide), ← hR12, xup_lo (by first | omega | decide), ← hR10, xup_lo (by first | omega | decide), ← hR8, xup_lo (by first | omega | decide), ← hR6]; exact xup_self)
  have hal : R15 42 4 = some 46 := (by rw [← hR15, xup_lo (by first | omega | decide), ← hR12, xup_lo (by first | omega | decide), ← hR10, xup_lo (by first | omega | decide), ← hR8]; exact xup_self)
  refine ev_sub (L' := [(0, .ref (E.2.2.2 + 42)), (2, .int 0)]) [1, 0] rfl ?_
  refine xloop_run (fun v => Ev E (xcm E d 6 113 QQ) Y_X10_init 69 [(0, .ref (E.2.2.2 + 42)), (2, .int v.1)] [] (xσ v.2 R15) 49 6 113) (fun v => Ev E (xcm E d 6 113 QQ) Y_X10_init 97 [(0, .ref (E.2.2.2 + 42))] [] (xσ v R15) 49 6 113) ?_ _ _ _ hq16 ?_
  · rintro ⟨x1, μ2⟩ y3 h hk
    replace h : fX10_init_42_b69 x1 μ2 = some y3 := h
    show Ev E (xcm E d 6 113 QQ) Y_X10_init 69 [(0, .ref (E.2.2.2 + 42)), (2, .int x1)] [] (xσ μ2 R15) 49 6 113
    unfold fX10_init_42_b69 at h
    refine ev_iload_n 1 dX10_init_69 rfl rfl ?_
    refine ev_bipush (v := 8) dX10_init_70 (by decide) ?_
    refine ev_icmp_ge (tgt := 97) dX10_init_72 (by decide) (fun c72 => ?_) (fun c72 => ?_)
    · replace h := xif_t c72 h
      cases h
      replace hk := xel_r hk
      exact ev_sub [0] rfl hk
    · replace h := xif_f c72 h
      refine ev_aload_n 0 dX10_init_75 rfl rfl ?_
      refine xv_getF (a := 45) cl_10 lk_RX10_18 (by decide +kernel) (by omega) (fun _ => rfl) hwe dX10_init_76 ?_
      refine ev_iload_n 1 dX10_init_79 rfl rfl ?_
      refine ev_iconst (v := 5) dX10_init_80 (by decide) ?_
      refine ev_imul dX10_init_81 ?_
      refine ev_iconst (v := 1) dX10_init_82 (by decide) ?_
      obtain ⟨μ4, hμ4, h⟩ := xbd_some h
      refine xv_iast (by decide +kernel) (by omega) hμ4 dX10_init_83 ?_
      refine ev_aload_n 0 dX10_init_84 rfl rfl ?_
      refine xv_getF (a := 46) cl_10 lk_RX10_21 (by decide +kernel) (by omega) (fun _ => rfl) hal dX10_init_85 ?_
      refine ev_iload_n 1 dX10_init_88 rfl rfl ?_
      refine ev_iconst (v := 1) dX10_init_89 (by decide) ?_
      obtain ⟨μ5, hμ5, h⟩ := xbd_some h
      refine xv_iast (by decide +kernel) (by omega) hμ5 dX10_init_90 ?_
      obtain ⟨x6, hx6, h⟩ := xlt_some h
      refine ev_iinc (L' := [(2, .int x6), (0, .ref (E.2.2.2 + 42))]) 1 dX10_init_91 rfl ((by rfl : x1 + Int32.ofInt 1 = x1 + 1).trans hx6) (Nat.le_of_ble_eq_true rfl) rfl ?_
      refine ev_goto (tgt := 69) dX10_init_94 (by decide) ?_
      cases h
      replace hk := xel_l hk
      exact ev_sub [1, 0] rfl hk
  show Ev E (xcm E d 6 113 QQ) Y_X10_init 97 [(0, .ref (E.2.2.2 + 42))] [] (xσ q16 R15) 49 6 113
  cases h
  exact ev_vret rfl hQ dX10_init_97 (Nat.le_of_ble_eq_true rfl) (Nat.le_of_ble_eq_true rfl)
theorem keep_X10_init_42 {μ : xm} {R : xr} {res : xm × xr} (h : fX10_init_42  μ R = some res) : ∀ a, a < 42 → res.2 a = R a := by
  intro a ha
  unfold fX10_init_42 at h
  obtain ⟨μ1, hμ1, h⟩ := xlt_some h
  obtain ⟨R2, hR2, h⟩ := xlt_some h
  obtain ⟨μ3, hμ3, h⟩ := xlt_some h
  obtain ⟨R4, hR4, h⟩ := xlt_some h
  obtain ⟨μ5, hμ5, h⟩ := xlt_some h
  obtain ⟨R6, hR6, h⟩ := xlt_some h
  obtain ⟨μ7, hμ7, h⟩ := xlt_some h
  obtain ⟨R8, hR8, h⟩ := xlt_some h
  obtain ⟨μ9, hμ9, h⟩ := xlt_some h
  obtain ⟨R10, hR10, h⟩ := xlt_some h
  obtain ⟨μ11, hμ11, h⟩ := xlt_some h
  obtain ⟨R12, hR12, h⟩ := xlt_some h
  obtain ⟨μ13, hμ13, h⟩ := xlt_some h
  obtain ⟨μ14, hμ14, h⟩ := xlt_some h
  obtain ⟨R15, hR15, h⟩ := xlt_some h
  obtain ⟨q16, hq16, h⟩ := xbd_some h
  cases h
  show R15 a = R a
  rw [← hR15, xup_ne (by omega), ← hR12, xup_ne (by omega), ← hR10, xup_ne (by omega), ← hR8, xup_ne (by omega), ← hR6, xup_ne (by omega), ← hR4, xup_ne (by omega), ← hR2, xup_ne (by omega)]
def fX8_init_52  (μ : xm) (R : xr) : Option (xm × xr) := xlt (xz0I μ 53) fun μ1 => xlt (xup R 52 0 (some 53)) fun R2 => xlt (xz0J μ1 54) fun μ3 => xlt (xup R2 52 1 (some 54)) fun R4 => some (μ3, R4)
set_option maxHeartbeats 4000000 in
set_option maxRecDepth 100000 in
theorem kX8_init_52 {E : xE} {d : Nat} {QQ : xP} (hd : 1 ≤ d) {μ : xm} {R : xr} {res : xm × xr} (h : fX8_init_52  μ R = some res) (hQ : QQ none (xσ res.1 res.2) 55) : xCon E d Y_X8_init 2 42 [.ref (E.2.2.2 + 52)] (xσ μ R) 53 QQ := by
  refine xCon_of pn_RX8 (Nat.le_of_ble_eq_true rfl) (L0 := [(0, .ref (E.2.2.2 + 52))]) rfl ?_
  unfold fX8_init_52 at h
  refine ev_aload_n 0 dX8_init_0 rfl rfl ?_
  refine ev_objInit ⟨m_359, m_131, m_132⟩ (Nat.le_of_ble_eq_true rfl) (Nat.le_trans (by decide) hd) (Nat.le_trans (by decide) (Nat.mul_le_mul_left 80 (Nat.le_trans (by decide : 1 ≤ 1) hd))) dX8_init_1 ?_
  refine ev_aload_n 0 dX8_init_4 rfl rfl ?_
  refine ev_bipush (v := 21) dX8_init_5 (by decide) ?_
  obtain ⟨μ1, hμ1, h⟩ := xlt_some h
  refine xv_newI (N := 21) m_184 (by decide +kernel) (by decide) rfl (by decide) (Nat.le_of_ble_eq_true rfl) (Nat.le_of_ble_eq_true rfl) hμ1 dX8_init_7 ?_
  show Ev E (xcm E d 2 42 QQ) Y_X8_init 9 [(0, .ref (E.2.2.2 + 52))] [.ref (E.2.2.2 + 53), .ref (E.2.2.2 + 52)] (xσ μ1 R) 54 1 21
  obtain ⟨R2, hR2, h⟩ := xlt_some h
  refine xv_putFR cl_8 lk_RX8_11 rfl rfl rfl (by decide +kernel) (by omega) (fun _ => rfl) (fun _ => rfl) (fun _ => rfl) hR2 dX8_init_9 ?_
  refine ev_aload_n 0 dX8_init_12 rfl rfl ?_
  refine ev_bipush (v := 21) dX8_init_13 (by decide) ?_
  obtain ⟨μ3, hμ3, h⟩ := xlt_some h
  refine xv_newJ (N := 21) m_185 (by decide +kernel) (by decide) rfl (by decide) (Nat.le_of_ble_eq_true rfl) (Nat.le_of_ble_eq_true rfl) hμ3 dX8_init_15 ?_
  show Ev E (xcm E d 2 42 QQ) Y_X8_init 17 [(0, .ref (E.2.2.2 + 52))] [.ref (E.2.2.2 + 54), .ref (E.2.2.2 + 52)] (xσ μ3 R2) 55 2 42
  obtain ⟨R4, hR4, h⟩ := xlt_some h
  refine xv_putFR cl_8 lk_RX8_15 rfl rfl rfl (by decide +kernel) (by omega) (fun _ => rfl) (fun _ => rfl) (fun _ => rfl) hR4 dX8_init_17 ?_
  cases h
  exact ev_vret rfl hQ dX8_init_20 (Nat.le_of_ble_eq_true rfl) (Nat.le_of_ble_eq_true rfl)
theorem keep_X8_init_52 {μ : xm} {R : xr} {res : xm × xr} (h : fX8_init_52  μ R = some res) : ∀ a, a < 52 → res.2 a = R a := by
  intro a ha
  unfold fX8_init_52 at h
  obtain ⟨μ1, hμ1, h⟩ := xlt_some h
  obtain ⟨R2, hR2, h⟩ := xlt_some h
  obtain ⟨μ3, hμ3, h⟩ := xlt_some h
  obtain ⟨R4, hR4, h⟩ := xlt_some h
  cases h
  show R4 a = R a
  rw [← hR4, xup_ne (by omega), ← hR2, xup_ne (by omega)]
def fX8_init_55  (μ : xm) (R : xr) : Option (xm × xr) := xlt (xz0I μ 56) fun μ1 => xlt (xup R 55 0 (some 56)) fun R2 => xlt (xz0J μ1 57) fun μ3 => xlt (xup R2 55 1 (some 57)) fun R4 => some (μ3, R4)
set_option maxHeartbeats 4000000 in
set_option maxRecDepth 100000 in
theorem kX8_init_55 {E : xE} {d : Nat} {QQ : xP} (hd : 1 ≤ d) {μ : xm} {R : xr} {res : xm × xr} (h : fX8_init_55  μ R = some res) (hQ : QQ none (xσ res.1 res.2) 58) : xCon E d Y_X8_init 2 42 [.ref (E.2.2.2 + 55)] (xσ μ R) 56 QQ := by
  refine xCon_of pn_RX8 (Nat.le_of_ble_eq_true rfl) (L0 := [(0, .ref (E.2.2.2 + 55))]) rfl ?_
  unfold fX8_init_55 at h
  refine ev_aload_n 0 dX8_init_0 rfl rfl ?_
  refine ev_objInit ⟨m_359, m_131, m_132⟩ (Nat.le_of_ble_eq_true rfl) (Nat.le_trans (by decide) hd) (Nat.le_trans (by decide) (Nat.mul_le_mul_left 80 (Nat.le_trans (by decide : 1 ≤ 1) hd))) dX8_init_1 ?_
  refine ev_aload_n 0 dX8_init_4 rfl rfl ?_
  refine ev_bipush (v := 21) dX8_init_5 (by decide) ?_
  obtain ⟨μ1, hμ1, h⟩ := xlt_some h
  refine xv_newI (N := 21) m_184 (by decide +kernel) (by decide) rfl (by decide) (Nat.le_of_ble_eq_true rfl) (Nat.le_of_ble_eq_true rfl) hμ1 dX8_init_7 ?_
  show Ev E (xcm E d 2 42 QQ) Y_X8_init 9 [(0, .ref (E.2.2.2 + 55))] [.ref (E.2.2.2 + 56), .ref (E.2.2.2 + 55)] (xσ μ1 R) 57 1 21
  obtain ⟨R2, hR2, h⟩ := xlt_some h
  refine xv_putFR cl_8 lk_RX8_11 rfl rfl rfl (by decide +kernel) (by omega) (fun _ => rfl) (fun _ => rfl) (fun _ => rfl) hR2 dX8_init_9 ?_
  refine ev_aload_n 0 dX8_init_12 rfl rfl ?_
  refine ev_bipush (v := 21) dX8_init_13 (by decide) ?_
  obtain ⟨μ3, hμ3, h⟩ := xlt_some h
  refine xv_newJ (N := 21) m_185 (by decide +kernel) (by decide) rfl (by decide) (Nat.le_of_ble_eq_true rfl) (Nat.le_of_ble_eq_true rfl) hμ3 dX8_init_15 ?_
  show Ev E (xcm E d 2 42 QQ) Y_X8_init 17 [(0, .ref (E.2.2.2 + 55))] [.ref (E.2.2.2 + 57), .ref (E.2.2.2 + 55)] (xσ μ3 R2) 58 2 42
  obtain ⟨R4, hR4, h⟩ := xlt_some h
  refine xv_putFR cl_8 lk_RX8_15 rfl rfl rfl (by decide +kernel) (by omega) (fun _ => rfl) (fun _ => rfl) (fun _ => rfl) hR4 dX8_init_17 ?_
  cases h
  exact ev_vret rfl hQ dX8_init_20 (Nat.le_of_ble_eq_true rfl) (Nat.le_of_ble_eq_true rfl)
theorem keep_X8_init_55 {μ : xm} {R : xr} {res : xm × xr} (h : fX8_init_55  μ R = some res) : ∀ a, a < 55 → res.2 a = R a := by
  intro a ha
  unfold fX8_init_55 at h
  obtain ⟨μ1, hμ1, h⟩ := xlt_some h
  obtain ⟨R2, hR2, h⟩ := xlt_some h
  obtain ⟨μ3, hμ3, h⟩ := xlt_some h
  obtain ⟨R4, hR4, h⟩ := xlt_some h
  cases h
  show R4 a = R a
  rw [← hR4, xup_ne (by omega), ← hR2, xup_ne (by omega)]
def fX8_init_58  (μ : xm) (R : xr) : Option (xm × xr) := xlt (xz0I μ 59) fun μ1 => xlt (xup R 58 0 (some 59)) fun R2 => xlt (xz0J μ1 60) fun μ3 => xlt (xup R2 58 1 (some 60)) fun R4 => some (μ3, R4)
set_option maxHeartbeats 4000000 in
set_option maxRecDepth 100000 in
theorem kX8_init_58 {E : xE} {d : Nat} {QQ : xP} (hd : 1 ≤ d) {μ : xm} {R : xr} {res : xm × xr} (h : fX8_init_58  μ R = some res) (hQ : QQ none (xσ res.1 res.2) 61) : xCon E d Y_X8_init 2 42 [.ref (E.2.2.2 + 58)] (xσ μ R) 59 QQ := by
  refine xCon_of pn_RX8 (Nat.le_of_ble_eq_true rfl) (L0 := [(0, .ref (E.2.2.2 + 58))]) rfl ?_
  unfold fX8_init_58 at h
  refine ev_aload_n 0 dX8_init_0 rfl rfl ?_
  refine ev_objInit ⟨m_359, m_131, m_132⟩ (Nat.le_of_ble_eq_true rfl) (Nat.le_trans (by decide) hd) (Nat.le_trans (by decide) (Nat.mul_le_mul_left 80 (Nat.le_trans (by decide : 1 ≤ 1) hd))) dX8_init_1 ?_
  refine ev_aload_n 0 dX8_init_4 rfl rfl ?_
  refine ev_bipush (v := 21) dX8_init_5 (by decide) ?_
  obtain ⟨μ1, hμ1, h⟩ := xlt_some h
  refine xv_newI (N := 21) m_184 (by decide +kernel) (by decide) rfl (by decide) (Nat.le_of_ble_eq_true rfl) (Nat.le_of_ble_eq_true rfl) hμ1 dX8_init_7 ?_
  show Ev E (xcm E d 2 42 QQ) Y_X8_init 9 [(0, .ref (E.2.2.2 + 58))] [.ref (E.2.2.2 + 59), .ref (E.2.2.2 + 58)] (xσ μ1 R) 60 1 21
  obtain ⟨R2, hR2, h⟩ := xlt_some h
  refine xv_putFR cl_8 lk_RX8_11 rfl rfl rfl (by decide +kernel) (by omega) (fun _ => rfl) (fun _ => rfl) (fun _ => rfl) hR2 dX8_init_9 ?_
  refine ev_aload_n 0 dX8_init_12 rfl rfl ?_
  refine ev_bipush (v := 21) dX8_init_13 (by decide) ?_
  obtain ⟨μ3, hμ3, h⟩ := xlt_some h
  refine xv_newJ (N := 21) m_185 (by decide +kernel) (by decide) rfl (by decide) (Nat.le_of_ble_eq_true rfl) (Nat.le_of_ble_eq_true rfl) hμ3 dX8_init_15 ?_
  show Ev E (xcm E d 2 42 QQ) Y_X8_init 17 [(0, .ref (E.2.2.2 + 58))] [.ref (E.2.2.2 + 60), .ref (E.2.2.2 + 58)] (xσ μ3 R2) 61 2 42
  obtain ⟨R4, hR4, h⟩ := xlt_some h
  refine xv_putFR cl_8 lk_RX8_15 rfl rfl rfl (by decide +kernel) (by omega) (fun _ => rfl) (fun _ => rfl) (fun _ => rfl) hR4 dX8_init_17 ?_
  cases h
  exact ev_vret rfl hQ dX8_init_20 (Nat.le_of_ble_eq_true rfl) (Nat.le_of_ble_eq_true rfl)
theorem keep_X8_init_58 {μ : xm} {R : xr} {res : xm × xr} (h : fX8_init_58  μ R = some res) : ∀ a, a < 58 → res.2 a = R a := by
  intro a ha
  unfold fX8_init_58 at h
  obtain ⟨μ1, hμ1, h⟩ := xlt_some h
  obtain ⟨R2, hR2, h⟩ := xlt_some h
  obtain ⟨μ3, hμ3, h⟩ := xlt_some h
  obtain ⟨R4, hR4, h⟩ := xlt_some h
  cases h
  show R4 a = R a
  rw [← hR4, xup_ne (by omega), ← hR2, xup_ne (by omega)]
def fX6_init_49  (μ : xm) (R : xr) : Option (xm × xr) := xlt (xz0I μ 50) fun μ1 => xlt (xup R 49 2 (some 50)) fun R2 => xlt (xz0J μ1 51) fun μ3 => xlt (xup R2 49 3 (some 51)) fun R4 => xlt (xz0I (xz0J μ3 52) 52) fun μ5 => xlt (xz0R R4 52) fun R6 => xbd (fX8_init_52 μ5 R6) fun q7 => xlt (xup q7.2 49 4 (some 52)) fun R8 => xlt (xz0I (xz0J q7.1 55) 55) fun μ9 => xlt (xz0R R8 55) fun R10 => xbd (fX8_init_55 μ9 R10) fun q11 => xlt (xup q11.2 49 5 (some 55)) fun R12 => xlt (xz0I (xz0J q11.1 58) 58) fun μ13 => xlt (xz0R R12 58) fun R14 => xbd (fX8_init_58 μ13 R14) fun q15 => xlt (xup q15.2 49 6 (some 58)) fun R16 => xlt (xup R16 49 0 (some 19)) fun R17 => xlt (xup R17 49 1 (some 42)) fun R18 => some (q15.1, R18)
set_option maxHeartbeats 4000000 in
set_option maxRecDepth 100000 in
theorem kX6_init_49 {E : xE} {d : Nat} {QQ : xP} (hd : 2 ≤ d) {μ : xm} {R : xr} {res : xm × xr} (h : fX6_init_49  μ R = some res) (hQ : QQ none (xσ res.1 res.2) 61) : xCon E d Y_X6_init 11 168 [.ref (E.2.2.2 + 49), .ref (E.2.2.2 + 19), .ref (E.2.2.2 + 42)] (xσ μ R) 50 QQ := by
  refine xCon_of pn_RX6 (Nat.le_of_ble_eq_true rfl) (L0 := [(0, .ref (E.2.2.2 + 49)), (1, .ref (E.2.2.2 + 19)), (2, .ref (E.2.2.2 + 42))]) rfl ?_
  unfold fX6_init_49 at h
  refine ev_aload_n 0 dX6_init_0 rfl rfl ?_
  refine ev_objInit ⟨m_353, m_131, m_132⟩ (Nat.le_of_ble_eq_true rfl) (Nat.le_trans (by decide) hd) (Nat.le_trans (by decide) (Nat.mul_le_mul_left 80 (Nat.le_trans (by decide : 1 ≤ 2) hd))) dX6_init_1 ?_
  refine ev_aload_n 0 dX6_init_4 rfl rfl ?_
  refine ev_bipush (v := 8) dX6_init_5 (by decide) ?_
  obtain ⟨μ1, hμ1, h⟩ := xlt_some h
  refine xv_newI (N := 8) m_184 (by decide +kernel) (by decide) rfl (by decide) (Nat.le_of_ble_eq_true rfl) (Nat.le_of_ble_eq_true rfl) hμ1 dX6_init_7 ?_
  show Ev E (xcm E d 11 168 QQ) Y_X6_init 9 [(0, .ref (E.2.2.2 + 49)), (1, .ref (E.2.2.2 + 19)), (2, .ref (E.2.2.2 + 42))] [.ref (E.2.2.2 + 50), .ref (E.2.2.2 + 49)] (xσ μ1 R) 51 1 8
  obtain ⟨R2, hR2, h⟩ := xlt_some h
  refine xv_putFR cl_6 lk_RX6_9 rfl rfl rfl (by decide +kernel) (by omega) (fun _ => rfl) (fun _ => rfl) (fun _ => rfl) hR2 dX6_init_9 ?_
  refine ev_aload_n 0 dX6_init_12 rfl rfl ?_
  refine ev_bipush (v := 25) dX6_init_13 (by decide) ?_
  obtain ⟨μ3, hμ3, h⟩ := xlt_some h
  refine xv_newJ (N := 25) m_185 (by decide +kernel) (by decide) rfl (by decide) (Nat.le_of_ble_eq_true rfl) (Nat.le_of_ble_eq_true rfl) hμ3 dX6_init_15 ?_
  show Ev E (xcm E d 11 168 QQ) Y_X6_init 17 [(0, .ref (E.2.2.2 + 49)), (1, .ref (E.2.2.2 + 19)), (2, .ref (E.2.2.2 + 42))] [.ref (E.2.2.2 + 51), .ref (E.2.2.2 + 49)] (xσ μ3 R2) 52 2 33
  obtain ⟨R4, hR4, h⟩ := xlt_some h
  refine xv_putFR cl_6 lk_RX6_15 rfl rfl rfl (by decide +kernel) (by omega) (fun _ => rfl) (fun _ => rfl) (fun _ => rfl) hR4 dX6_init_17 ?_
  refine ev_aload_n 0 dX6_init_20 rfl rfl ?_
  obtain ⟨μ5, hμ5, h⟩ := xlt_some h
  obtain ⟨R6, hR6, h⟩ := xlt_some h
  refine xv_new cl_8 (N := 3) rfl (xdf_ok xdf_8) m_354 m_355 m_120 (by decide +kernel) (Nat.le_of_ble_eq_true rfl) (Nat.le_of_ble_eq_true rfl) hμ5 hR6 dX6_init_21 ?_
  show Ev E (xcm E d 11 168 QQ) Y_X6_init 24 [(0, .ref (E.2.2.2 + 49)), (1, .ref (E.2.2.2 + 19)), (2, .ref (E.2.2.2 + 42))] [.ref (E.2.2.2 + 52), .ref (E.2.2.2 + 49)] (xσ μ5 R6) 53 3 36
  refine ev_dup dX6_init_24 rfl ?_
  obtain ⟨q7, hq7, h⟩ := xbd_some h
  refine ev_callIN (As := []) (rest := [.ref (E.2.2.2 + 52), .ref (E.2.2.2 + 49)]) 0 rfl (kX8_init_52 (E := E) (d := 1) (QQ := (fun v τ n' => v = none ∧ τ = xσ q7.1 q7.2 ∧ n' = 55)) (Nat.le_refl _) hq7 ⟨rfl, rfl, rfl⟩) my_X8_init ⟨⟨_, xnm_5⟩, rfl, m_357⟩ rfl rfl (Nat.le_of_ble_eq_true rfl) (Nat.le_trans (by decide) hd) (xlo (by decide) (Nat.le_trans (by decide) hd)) (Nat.le_of_ble_eq_true rfl) (Nat.le_of_ble_eq_true rfl) dX6_init_25 (fun v τ n' hv => ?_)
  obtain ⟨rfl, rfl, rfl⟩ := hv
  show Ev E (xcm E d 11 168 QQ) Y_X6_init 28 [(0, .ref (E.2.2.2 + 49)), (1, .ref (E.2.2.2 + 19)), (2, .ref (E.2.2.2 + 42))] [.ref (E.2.2.2 + 52), .ref (E.2.2.2 + 49)] (xσ q7.1 q7.2) 55 5 78
  obtain ⟨R8, hR8, h⟩ := xlt_some h
  refine xv_putR cl_6 lk_RX6_22 rfl (by decide +kernel) (by omega) (fun _ => rfl) (fun _ => rfl) (fun _ => rfl) hR8 dX6_init_28 ?_
  refine ev_aload_n 0 dX6_init_31 rfl rfl ?_
  obtain ⟨μ9, hμ9, h⟩ := xlt_some h
  obtain ⟨R10, hR10, h⟩ := xlt_some h
  refine xv_new cl_8 (N := 3) rfl (xdf_ok xdf_8) m_354 m_355 m_120 (by decide +kernel) (Nat.le_of_ble_eq_true rfl) (Nat.le_of_ble_eq_true rfl) hμ9 hR10 dX6_init_32 ?_
  show Ev E (xcm E d 11 168 QQ) Y_X6_init 35 [(0, .ref (E.2.2.2 + 49)), (1, .ref (E.2.2.2 + 19)), (2, .ref (E.2.2.2 + 42))] [.ref (E.2.2.2 + 55), .ref (E.2.2.2 + 49)] (xσ μ9 R10) 56 6 81
  refine ev_dup dX6_init_35 rfl ?_
  obtain ⟨q11, hq11, h⟩ := xbd_some h
  refine ev_callIN (As := []) (rest := [.ref (E.2.2.2 + 55), .ref (E.2.2.2 + 49)]) 0 rfl (kX8_init_55 (E := E) (d := 1) (QQ := (fun v τ n' => v = none ∧ τ = xσ q11.1 q11.2 ∧ n' = 58)) (Nat.le_refl _) hq11 ⟨rfl, rfl, rfl⟩) my_X8_init ⟨⟨_, xnm_5⟩, rfl, m_357⟩ rfl rfl (Nat.le_of_ble_eq_true rfl) (Nat.le_trans (by decide) hd) (xlo (by decide) (Nat.le_trans (by decide) hd)) (Nat.le_of_ble_eq_true rfl) (Nat.le_of_ble_eq_true rfl) dX6_init_36 (fun v τ n' hv => ?_)
  obtain ⟨rfl, rfl, rfl⟩ := hv
  show Ev E (xcm E d 11 168 QQ) Y_X6_init 39 [(0, .ref (E.2.2.2 + 49)), (1, .ref (E.2.2.2 + 19)), (2, .ref (E.2.2.2 + 42))] [.ref (E.2.2.2 + 55), .ref (E.2.2.2 + 49)] (xσ q11.1 q11.2) 58 8 123
  obtain ⟨R12, hR12, h⟩ := xlt_some h
  refine xv_putR cl_6 lk_RX6_26 rfl (by decide +kernel) (by omega) (fun _ => rfl) (fun _ => rfl) (fun _ => rfl) hR12 dX6_init_39 ?_
  refine ev_aload_n 0 dX6_init_42 rfl rfl ?_
  obtain ⟨μ13, hμ13, h⟩ := xlt_some h
  obtain ⟨R14, hR14, h⟩ := xlt_some h
  refine xv_new cl_8 (N := 3) rfl (xdf_ok xdf_8) m_354 m_355 m_120 (by decide +kernel) (Nat.le_of_ble_eq_true rfl) (Nat.le_of_ble_eq_true rfl) hμ13 hR14 dX6_init_43 ?_
  show Ev E (xcm E d 11 168 QQ) Y_X6_init 46 [(0, .ref (E.2.2.2 + 49)), (1, .ref (E.2.2.2 + 19)), (2, .ref (E.2.2.2 + 42))] [.ref (E.2.2.2 + 58), .ref (E.2.2.2 + 49)] (xσ μ13 R14) 59 9 126
  refine ev_dup dX6_init_46 rfl ?_
  obtain ⟨q15, hq15, h⟩ := xbd_some h
  refine ev_callIN (As := []) (rest := [.ref (E.2.2.2 + 58), .ref (E.2.2.2 + 49)]) 0 rfl (kX8_init_58 (E := E) (d := 1) (QQ := (fun v τ n' => v = none ∧ τ = xσ q15.1 q15.2 ∧ n' = 61)) (Nat.le_refl _) hq15 ⟨rfl, rfl, rfl⟩) my_X8_init ⟨⟨_, xnm_5⟩, rfl, m_357⟩ rfl rfl (Nat.le_of_ble_eq_true rfl) (Nat.le_trans (by decide) hd) (xlo (by decide) (Nat.le_trans (by decide) hd)) (Nat.le_of_ble_eq_true rfl) (Nat.le_of_ble_eq_true rfl) dX6_init_47 (fun v τ n' hv => ?_)
  obtain ⟨rfl, rfl, rfl⟩ := hv
  show Ev E (xcm E d 11 168 QQ) Y_X6_init 50 [(0, .ref (E.2.2.2 + 49)), (1, .ref (E.2.2.2 + 19)), (2, .ref (E.2.2.2 + 42))] [.ref (E.2.2.2 + 58), .ref (E.2.2.2 + 49)] (xσ q15.1 q15.2) 61 11 168
  obtain ⟨R16, hR16, h⟩ := xlt_some h
  refine xv_putFR cl_6 lk_RX6_29 rfl rfl rfl (by decide +kernel) (by omega) (fun _ => rfl) (fun _ => rfl) (fun _ => rfl) hR16 dX6_init_50 ?_
  refine ev_aload_n 0 dX6_init_53 rfl rfl ?_
  refine ev_aload_n 1 dX6_init_54 rfl rfl ?_
  obtain ⟨R17, hR17, h⟩ := xlt_some h
  refine xv_putFR cl_6 lk_RX6_32 rfl rfl rfl (by decide +kernel) (by omega) (fun _ => rfl) (fun _ => rfl) (fun _ => rfl) hR17 dX6_init_55 ?_
  refine ev_aload_n 0 dX6_init_58 rfl rfl ?_
  refine ev_aload_n 2 dX6_init_59 rfl rfl ?_
  obtain ⟨R18, hR18, h⟩ := xlt_some h
  refine xv_putFR cl_6 lk_RX6_36 rfl rfl rfl (by decide +kernel) (by omega) (fun _ => rfl) (fun _ => rfl) (fun _ => rfl) hR18 dX6_init_60 ?_
  cases h
  exact ev_vret rfl hQ dX6_init_63 (Nat.le_of_ble_eq_true rfl) (Nat.le_of_ble_eq_true rfl)
theorem keep_X6_init_49 {μ : xm} {R : xr} {res : xm × xr} (h : fX6_init_49  μ R = some res) : ∀ a, a < 49 → res.2 a = R a := by
  intro a ha
  unfold fX6_init_49 at h
  obtain ⟨μ1, hμ1, h⟩ := xlt_some h
  obtain ⟨R2, hR2, h⟩ := xlt_some h
  obtain ⟨μ3, hμ3, h⟩ := xlt_some h
  obtain ⟨R4, hR4, h⟩ := xlt_some h
  obtain ⟨μ5, hμ5, h⟩ := xlt_some h
  obtain ⟨R6, hR6, h⟩ := xlt_some h
  obtain ⟨q7, hq7, h⟩ := xbd_some h
  obtain ⟨R8, hR8, h⟩ := xlt_some h
  obtain ⟨μ9, hμ9, h⟩ := xlt_some h
  obtain ⟨R10, hR10, h⟩ := xlt_some h
  obtain ⟨q11, hq11, h⟩ := xbd_some h
  obtain ⟨R12, hR12, h⟩ := xlt_some h
  obtain ⟨μ13, hμ13, h⟩ := xlt_some h
  obtain ⟨R14, hR14, h⟩ := xlt_some h
  obtain ⟨q15, hq15, h⟩ := xbd_some h
  obtain ⟨R16, hR16, h⟩ := xlt_some h
  obtain ⟨R17, hR17, h⟩ := xlt_some h
  obtain ⟨R18, hR18, h⟩ := xlt_some h
  cases h
  show R18 a = R a
  rw [← hR18, xup_ne (by omega), ← hR17, xup_ne (by omega), ← hR16, xup_ne (by omega), keep_X8_init_58 hq15 _ (by omega), ← hR14, xz0R_ne (by omega), ← hR12, xup_ne (by omega), keep_X8_init_55 hq11 _ (by omega), ← hR10, xz0R_ne (by omega), ← hR8, xup_ne (by omega), keep_X8_init_52 hq7 _ (by omega), ← hR6, xz0R_ne (by omega), ← hR4, xup_ne (by omega), ← hR2, xup_ne (by omega)]
def fX11_init_0  (μ : xm) (R : xr) : Option (xm × xr) := xlt (xz0I (xz0J μ 1) 1) fun μ1 => xlt (xz0R R 1) fun R2 => xbd (fX9_init_1 μ1 R2) fun q3 => xlt (xup q3.2 0 0 (some 1)) fun R4 => xlt (xz0I (xz0J q3.1 3) 3) fun μ5 => xlt (xz0R R4 3) fun R6 => xbd (fX1_init_3 μ5 R6) fun q7 => xlt (xup q7.2 0 1 (some 3)) fun R8 => xlt (xz0I (xz0J q7.1 19) 19) fun μ9 => xlt (xz0R R8 19) fun R10 => xbd (fX5_init_19 μ9 R10) fun q11 => xlt (xup q11.2 0 2 (some 19)) fun R12 => xlt (xz0I (xz0J q11.1 23) 23) fun μ13 => xlt (xz0R R12 23) fun R14 => xbd (fX3_init_23 μ13 R14) fun q15 => xlt (xup q15.2 0 3 (some 23)) fun R16 => xlt (xz0I (xz0J q15.1 28) 28) fun μ17 => xlt (xz0R R16 28) fun R18 => xbd (fX4_init_28 μ17 R18) fun q19 => xlt (xup q19.2 0 4 (some 28)) fun R20 => xlt (xz0I (xz0J q19.1 35) 35) fun μ21 => xlt (xz0R R20 35) fun R22 => xbd (fX7_init_35 μ21 R22) fun q23 => xlt (xup q23.2 0 5 (some 35)) fun R24 => xlt (xz0I (xz0J q23.1 42) 42) fun μ25 => xlt (xz0R R24 42) fun R26 => xbd (fX10_init_42 μ25 R26) fun q27 => xlt (xup q27.2 0 6 (some 42)) fun R28 => xlt (xz0I (xz0J q27.1 49) 49) fun μ29 => xlt (xz0R R28 49) fun R30 => xbd (fX6_init_49 μ29 R30) fun q31 => xlt (xup q31.2 0 7 (some 49)) fun R32 => xlt (xpI q31.1 0 8 0) fun μ33 => some (μ33, R32)
set_option maxHeartbeats 4000000 in
set_option maxRecDepth 100000 in
theorem kX11_init_0 {E : xE} {d : Nat} {QQ : xP} (hd : 3 ≤ d) {μ : xm} {R : xr} {res : xm × xr} (h : fX11_init_0  μ R = some res) (hQ : QQ none (xσ res.1 res.2) 61) : xCon E d Y_X11_init 60 2911 [.ref (E.2.2.2 + 0)] (xσ μ R) 1 QQ := by
  refine xCon_of pn_RX11 (Nat.le_of_ble_eq_true rfl) (L0 := [(0, .ref (E.2.2.2 + 0))]) rfl ?_
  unfold fX11_init_0 at h
  refine ev_aload_n 0 dX11_init_0 rfl rfl ?_
  refine ev_objInit ⟨m_130, m_131, m_132⟩ (Nat.le_of_ble_eq_true rfl) (Nat.le_trans (by decide) hd) (Nat.le_trans (by decide) (Nat.mul_le_mul_left 80 (Nat.le_trans (by decide : 1 ≤ 3) hd))) dX11_init_1 ?_
  refine ev_aload_n 0 dX11_init_4 rfl rfl ?_
  obtain ⟨μ1, hμ1, h⟩ := xlt_some h
  obtain ⟨R2, hR2, h⟩ := xlt_some h
  refine xv_new cl_9 (N := 2) rfl (xdf_ok xdf_9) m_133 m_134 m_110 (by decide +kernel) (Nat.le_of_ble_eq_true rfl) (Nat.le_of_ble_eq_true rfl) hμ1 hR2 dX11_init_5 ?_
  show Ev E (xcm E d 60 2911 QQ) Y_X11_init 8 [(0, .ref (E.2.2.2 + 0))] [.ref (E.2.2.2 + 1), .ref (E.2.2.2 + 0)] (xσ μ1 R2) 2 1 2
  refine ev_dup dX11_init_8 rfl ?_
  obtain ⟨q3, hq3, h⟩ := xbd_some h
  refine ev_callIN (As := []) (rest := [.ref (E.2.2.2 + 1), .ref (E.2.2.2 + 0)]) 0 rfl (kX9_init_1 (E := E) (d := 1) (QQ := (fun v τ n' => v = none ∧ τ = xσ q3.1 q3.2 ∧ n' = 3)) (Nat.le_refl _) hq3 ⟨rfl, rfl, rfl⟩) my_X9_init ⟨⟨_, xnm_0⟩, rfl, m_136⟩ rfl rfl (Nat.le_of_ble_eq_true rfl) (Nat.le_trans (by decide) hd) (xlo (by decide) (Nat.le_trans (by decide) hd)) (Nat.le_of_ble_eq_true rfl) (Nat.le_of_ble_eq_true rfl) dX11_init_9 (fun v τ n' hv => ?_)
  obtain ⟨rfl, rfl, rfl⟩ := hv
  show Ev E (xcm E d 60 2911 QQ) Y_X11_init 12 [(0, .ref (E.2.2.2 + 0))] [.ref (E.2.2.2 + 1), .ref (E.2.2.2 + 0)] (xσ q3.1 q3.2) 3 2 402
  obtain ⟨R4, hR4, h⟩ := xlt_some h
  refine xv_putFR cl_11 lk_RX11_10 rfl rfl rfl (by decide +kernel) (by omega) (fun _ => rfl) (fun _ => rfl) (fun _ => rfl) hR4 dX11_init_12 ?_
  refine ev_aload_n 0 dX11_init_15 rfl rfl ?_
  obtain ⟨μ5, hμ5, h⟩ := xlt_some h
  obtain ⟨R6, hR6, h⟩ := xlt_some h
  refine xv_new cl_1 (N := 6) rfl (xdf_ok xdf_1) m_147 m_148 m_111 (by decide +kernel) (Nat.le_of_ble_eq_true rfl) (Nat.le_of_ble_eq_true rfl) hμ5 hR6 dX11_init_16 ?_
  show Ev E (xcm E d 60 2911 QQ) Y_X11_init 19 [(0, .ref (E.2.2.2 + 0))] [.ref (E.2.2.2 + 3), .ref (E.2.2.2 + 0)] (xσ μ5 R6) 4 3 408
  refine ev_dup dX11_init_19 rfl ?_
  obtain ⟨q7, hq7, h⟩ := xbd_some h
  refine ev_callIN (As := []) (rest := [.ref (E.2.2.2 + 3), .ref (E.2.2.2 + 0)]) 0 rfl (kX1_init_3 (E := E) (d := 2) (QQ := (fun v τ n' => v = none ∧ τ = xσ q7.1 q7.2 ∧ n' = 19)) (Nat.le_refl _) hq7 ⟨rfl, rfl, rfl⟩) my_X1_init ⟨⟨_, xnm_1⟩, rfl, m_150⟩ rfl rfl (Nat.le_of_ble_eq_true rfl) (Nat.le_trans (by decide) hd) (xlo (by decide) (Nat.le_trans (by decide) hd)) (Nat.le_of_ble_eq_true rfl) (Nat.le_of_ble_eq_true rfl) dX11_init_20 (fun v τ n' hv => ?_)
  obtain ⟨rfl, rfl, rfl⟩ := hv
  show Ev E (xcm E d 60 2911 QQ) Y_X11_init 23 [(0, .ref (E.2.2.2 + 0))] [.ref (E.2.2.2 + 3), .ref (E.2.2.2 + 0)] (xσ q7.1 q7.2) 19 18 1200
  obtain ⟨R8, hR8, h⟩ := xlt_some h
  refine xv_putFR cl_11 lk_RX11_19 rfl rfl rfl (by decide +kernel) (by omega) (fun _ => rfl) (fun _ => rfl) (fun _ => rfl) hR8 dX11_init_23 ?_
  refine ev_aload_n 0 dX11_init_26 rfl rfl ?_
  obtain ⟨μ9, hμ9, h⟩ := xlt_some h
  obtain ⟨R10, hR10, h⟩ := xlt_some h
  refine xv_new cl_5 (N := 3) rfl (xdf_ok xdf_5) m_205 m_206 m_113 (by decide +kernel) (Nat.le_of_ble_eq_true rfl) (Nat.le_of_ble_eq_true rfl) hμ9 hR10 dX11_init_27 ?_
  show Ev E (xcm E d 60 2911 QQ) Y_X11_init 30 [(0, .ref (E.2.2.2 + 0))] [.ref (E.2.2.2 + 19), .ref (E.2.2.2 + 0)] (xσ μ9 R10) 20 19 1203
  refine ev_dup dX11_init_30 rfl ?_
  obtain ⟨q11, hq11, h⟩ := xbd_some h
  refine ev_callI (As := []) (rest := [.ref (E.2.2.2 + 19), .ref (E.2.2.2 + 0)]) 0 rfl (kX5_init_19 (E := E) (d := 1) (QQ := (fun v τ n' => v = none ∧ τ = xσ q11.1 q11.2 ∧ n' = 23)) (Nat.le_refl _) hq11 ⟨rfl, rfl, rfl⟩) my_X5_init ⟨m_207, rfl, m_208⟩ rfl rfl (Nat.le_of_ble_eq_true rfl) (Nat.le_trans (by decide) hd) (xlo (by decide) (Nat.le_trans (by decide) hd)) (Nat.le_of_ble_eq_true rfl) (Nat.le_of_ble_eq_true rfl) dX11_init_31 (fun v τ n' hv => ?_)
  obtain ⟨rfl, rfl, rfl⟩ := hv
  show Ev E (xcm E d 60 2911 QQ) Y_X11_init 34 [(0, .ref (E.2.2.2 + 0))] [.ref (E.2.2.2 + 19), .ref (E.2.2.2 + 0)] (xσ q11.1 q11.2) 23 22 1779
  obtain ⟨R12, hR12, h⟩ := xlt_some h
  refine xv_putFR cl_11 lk_RX11_26 rfl rfl rfl (by decide +kernel) (by omega) (fun _ => rfl) (fun _ => rfl) (fun _ => rfl) hR12 dX11_init_34 ?_
  refine ev_aload_n 0 dX11_init_37 rfl rfl ?_
  obtain ⟨μ13, hμ13, h⟩ := xlt_some h
  obtain ⟨R14, hR14, h⟩ := xlt_some h
  refine xv_new cl_3 (N := 7) rfl (xdf_ok xdf_3) m_224 m_225 m_115 (by decide +kernel) (Nat.le_of_ble_eq_true rfl) (Nat.le_of_ble_eq_true rfl) hμ13 hR14 dX11_init_38 ?_
  show Ev E (xcm E d 60 2911 QQ) Y_X11_init 41 [(0, .ref (E.2.2.2 + 0))] [.ref (E.2.2.2 + 23), .ref (E.2.2.2 + 0)] (xσ μ13 R14) 24 23 1786
  refine ev_dup dX11_init_41 rfl ?_
  refine ev_aload_n 0 dX11_init_42 rfl rfl ?_
  refine xv_getF (a := 19) cl_11 lk_RX11_26 (by decide +kernel) (by omega) (fun _ => rfl) (by rw [← hR14, xz0R_lo (by omega), ← hR12]; exact xup_self) dX11_init_43 ?_
  obtain ⟨q15, hq15, h⟩ := xbd_some h
  refine ev_callI (As := [.ref (E.2.2.2 + 19)]) (rest := [.ref (E.2.2.2 + 23), .ref (E.2.2.2 + 0)]) 1 rfl (kX3_init_23 (E := E) (d := 1) (QQ := (fun v τ n' => v = none ∧ τ = xσ q15.1 q15.2 ∧ n' = 28)) (Nat.le_refl _) hq15 ⟨rfl, rfl, rfl⟩) my_X3_init ⟨m_226, rfl, m_227⟩ rfl rfl (Nat.le_of_ble_eq_true rfl) (Nat.le_trans (by decide) hd) (xlo (by decide) (Nat.le_trans (by decide) hd)) (Nat.le_of_ble_eq_true rfl) (Nat.le_of_ble_eq_true rfl) dX11_init_46 (fun v τ n' hv => ?_)
  obtain ⟨rfl, rfl, rfl⟩ := hv
  show Ev E (xcm E d 60 2911 QQ) Y_X11_init 49 [(0, .ref (E.2.2.2 + 0))] [.ref (E.2.2.2 + 23), .ref (E.2.2.2 + 0)] (xσ q15.1 q15.2) 28 27 1884
  obtain ⟨R16, hR16, h⟩ := xlt_some h
  refine xv_putFR cl_11 lk_RX11_35 rfl rfl rfl (by decide +kernel) (by omega) (fun _ => rfl) (fun _ => rfl) (fun _ => rfl) hR16 dX11_init_49 ?_
  refine ev_aload_n 0 dX11_init_52 rfl rfl ?_
  obtain ⟨μ17, hμ17, h⟩ := xlt_some h
  obtain ⟨R18, hR18, h⟩ := xlt_some h
  refine xv_new cl_4 (N := 7) rfl (xdf_ok xdf_4) m_254 m_255 m_116 (by decide +kernel) (Nat.le_of_ble_eq_true rfl) (Nat.le_of_ble_eq_true rfl) hμ17 hR18 dX11_init_53 ?_
  show Ev E (xcm E d 60 2911 QQ) Y_X11_init 56 [(0, .ref (E.2.2.2 + 0))] [.ref (E.2.2.2 + 28), .ref (E.2.2.2 + 0)] (xσ μ17 R18) 29 28 1891
  refine ev_dup dX11_init_56 rfl ?_
  obtain ⟨q19, hq19, h⟩ := xbd_some h
  refine ev_callIN (As := []) (rest := [.ref (E.2.2.2 + 28), .ref (E.2.2.2 + 0)]) 0 rfl (kX4_init_28 (E := E) (d := 1) (QQ := (fun v τ n' => v = none ∧ τ = xσ q19.1 q19.2 ∧ n' = 35)) (Nat.le_refl _) hq19 ⟨rfl, rfl, rfl⟩) my_X4_init ⟨⟨_, xnm_3⟩, rfl, m_257⟩ rfl rfl (Nat.le_of_ble_eq_true rfl) (Nat.le_trans (by decide) hd) (xlo (by decide) (Nat.le_trans (by decide) hd)) (Nat.le_of_ble_eq_true rfl) (Nat.le_of_ble_eq_true rfl) dX11_init_57 (fun v τ n' hv => ?_)
  obtain ⟨rfl, rfl, rfl⟩ := hv
  show Ev E (xcm E d 60 2911 QQ) Y_X11_init 60 [(0, .ref (E.2.2.2 + 0))] [.ref (E.2.2.2 + 28), .ref (E.2.2.2 + 0)] (xσ q19.1 q19.2) 35 34 2198
  obtain ⟨R20, hR20, h⟩ := xlt_some h
  refine xv_putFR cl_11 lk_RX11_42 rfl rfl rfl (by decide +kernel) (by omega) (fun _ => rfl) (fun _ => rfl) (fun _ => rfl) hR20 dX11_init_60 ?_
  refine ev_aload_n 0 dX11_init_63 rfl rfl ?_
  obtain ⟨μ21, hμ21, h⟩ := xlt_some h
  obtain ⟨R22, hR22, h⟩ := xlt_some h
  refine xv_new cl_7 (N := 6) rfl (xdf_ok xdf_7) m_282 m_283 m_117 (by decide +kernel) (Nat.le_of_ble_eq_true rfl) (Nat.le_of_ble_eq_true rfl) hμ21 hR22 dX11_init_64 ?_
  show Ev E (xcm E d 60 2911 QQ) Y_X11_init 67 [(0, .ref (E.2.2.2 + 0))] [.ref (E.2.2.2 + 35), .ref (E.2.2.2 + 0)] (xσ μ21 R22) 36 35 2204
  refine ev_dup dX11_init_67 rfl ?_
  obtain ⟨q23, hq23, h⟩ := xbd_some h
  refine ev_callIN (As := []) (rest := [.ref (E.2.2.2 + 35), .ref (E.2.2.2 + 0)]) 0 rfl (kX7_init_35 (E := E) (d := 1) (QQ := (fun v τ n' => v = none ∧ τ = xσ q23.1 q23.2 ∧ n' = 42)) (Nat.le_refl _) hq23 ⟨rfl, rfl, rfl⟩) my_X7_init ⟨⟨_, xnm_4⟩, rfl, m_285⟩ rfl rfl (Nat.le_of_ble_eq_true rfl) (Nat.le_trans (by decide) hd) (xlo (by decide) (Nat.le_trans (by decide) hd)) (Nat.le_of_ble_eq_true rfl) (Nat.le_of_ble_eq_true rfl) dX11_init_68 (fun v τ n' hv => ?_)
  obtain ⟨rfl, rfl, rfl⟩ := hv
  show Ev E (xcm E d 60 2911 QQ) Y_X11_init 71 [(0, .ref (E.2.2.2 + 0))] [.ref (E.2.2.2 + 35), .ref (E.2.2.2 + 0)] (xσ q23.1 q23.2) 42 41 2612
  obtain ⟨R24, hR24, h⟩ := xlt_some h
  refine xv_putFR cl_11 lk_RX11_49 rfl rfl rfl (by decide +kernel) (by omega) (fun _ => rfl) (fun _ => rfl) (fun _ => rfl) hR24 dX11_init_71 ?_
  refine ev_aload_n 0 dX11_init_74 rfl rfl ?_
  obtain ⟨μ25, hμ25, h⟩ := xlt_some h
  obtain ⟨R26, hR26, h⟩ := xlt_some h
  refine xv_new cl_10 (N := 11) rfl (xdf_ok xdf_10) m_307 m_308 m_118 (by decide +kernel) (Nat.le_of_ble_eq_true rfl) (Nat.le_of_ble_eq_true rfl) hμ25 hR26 dX11_init_75 ?_
  show Ev E (xcm E d 60 2911 QQ) Y_X11_init 78 [(0, .ref (E.2.2.2 + 0))] [.ref (E.2.2.2 + 42), .ref (E.2.2.2 + 0)] (xσ μ25 R26) 43 42 2623
  refine ev_dup dX11_init_78 rfl ?_
  refine ev_aload_n 0 dX11_init_79 rfl rfl ?_
  refine xv_getF (a := 19) cl_11 lk_RX11_26 (by decide +kernel) (by omega) (fun _ => rfl) (by rw [← hR26, xz0R_lo (by omega), ← hR24, xup_lo (by first | omega | decide), keep_X7_init_35 hq23 _ (by omega), ← hR22, xz0R_lo (by omega), ← hR20, xup_lo (by first | omega | decide), keep_X4_init_28 hq19 _ (by omega), ← hR18, xz0R_lo (by omega), ← hR16, xup_lo (by first | omega | decide), keep_X3_init_23 hq15 _ (by omega), ← hR14, xz0R_lo (by omega), ← hR12]; exact xup_self) dX11_init_80 ?_
  obtain ⟨q27, hq27, h⟩ := xbd_some h
  refine ev_callI (As := [.ref (E.2.2.2 + 19)]) (rest := [.ref (E.2.2.2 + 42), .ref (E.2.2.2 + 0)]) 1 rfl (kX10_init_42 (E := E) (d := 1) (QQ := (fun v τ n' => v = none ∧ τ = xσ q27.1 q27.2 ∧ n' = 49)) (Nat.le_refl _) hq27 ⟨rfl, rfl, rfl⟩) my_X10_init ⟨m_309, rfl, m_310⟩ rfl rfl (Nat.le_of_ble_eq_true rfl) (Nat.le_trans (by decide) hd) (xlo (by decide) (Nat.le_trans (by decide) hd)) (Nat.le_of_ble_eq_true rfl) (Nat.le_of_ble_eq_true rfl) dX11_init_83 (fun v τ n' hv => ?_)
  obtain ⟨rfl, rfl, rfl⟩ := hv
  show Ev E (xcm E d 60 2911 QQ) Y_X11_init 86 [(0, .ref (E.2.2.2 + 0))] [.ref (E.2.2.2 + 42), .ref (E.2.2.2 + 0)] (xσ q27.1 q27.2) 49 48 2736
  obtain ⟨R28, hR28, h⟩ := xlt_some h
  refine xv_putFR cl_11 lk_RX11_56 rfl rfl rfl (by decide +kernel) (by omega) (fun _ => rfl) (fun _ => rfl) (fun _ => rfl) hR28 dX11_init_86 ?_
  refine ev_aload_n 0 dX11_init_89 rfl rfl ?_
  obtain ⟨μ29, hμ29, h⟩ := xlt_some h
  obtain ⟨R30, hR30, h⟩ := xlt_some h
  refine xv_new cl_6 (N := 7) rfl (xdf_ok xdf_6) m_348 m_349 m_119 (by decide +kernel) (Nat.le_of_ble_eq_true rfl) (Nat.le_of_ble_eq_true rfl) hμ29 hR30 dX11_init_90 ?_
  show Ev E (xcm E d 60 2911 QQ) Y_X11_init 93 [(0, .ref (E.2.2.2 + 0))] [.ref (E.2.2.2 + 49), .ref (E.2.2.2 + 0)] (xσ μ29 R30) 50 49 2743
  refine ev_dup dX11_init_93 rfl ?_
  refine ev_aload_n 0 dX11_init_94 rfl rfl ?_
  refine xv_getF (a := 19) cl_11 lk_RX11_26 (by decide +kernel) (by omega) (fun _ => rfl) (by rw [← hR30, xz0R_lo (by omega), ← hR28, xup_lo (by first | omega | decide), keep_X10_init_42 hq27 _ (by omega), ← hR26, xz0R_lo (by omega), ← hR24, xup_lo (by first | omega | decide), keep_X7_init_35 hq23 _ (by omega), ← hR22, xz0R_lo (by omega), ← hR20, xup_lo (by first | omega | decide), keep_X4_init_28 hq19 _ (by omega), ← hR18, xz0R_lo (by omega), ← hR16, xup_lo (by first | omega | decide), keep_X3_init_23 hq15 _ (by omega), ← hR14, xz0R_lo (by omega), ← hR12]; exact xup_self) dX11_init_95 ?_
  refine ev_aload_n 0 dX11_init_98 rfl rfl ?_
  refine xv_getF (a := 42) cl_11 lk_RX11_56 (by decide +kernel) (by omega) (fun _ => rfl) (by rw [← hR30, xz0R_lo (by omega), ← hR28]; exact xup_self) dX11_init_99 ?_
  obtain ⟨q31, hq31, h⟩ := xbd_some h
  refine ev_callI (As := [.ref (E.2.2.2 + 19), .ref (E.2.2.2 + 42)]) (rest := [.ref (E.2.2.2 + 49), .ref (E.2.2.2 + 0)]) 2 rfl (kX6_init_49 (E := E) (d := 2) (QQ := (fun v τ n' => v = none ∧ τ = xσ q31.1 q31.2 ∧ n' = 61)) (Nat.le_refl _) hq31 ⟨rfl, rfl, rfl⟩) my_X6_init ⟨m_350, rfl, m_351⟩ rfl rfl (Nat.le_of_ble_eq_true rfl) (Nat.le_trans (by decide) hd) (xlo (by decide) (Nat.le_trans (by decide) hd)) (Nat.le_of_ble_eq_true rfl) (Nat.le_of_ble_eq_true rfl) dX11_init_102 (fun v τ n' hv => ?_)
  obtain ⟨rfl, rfl, rfl⟩ := hv
  show Ev E (xcm E d 60 2911 QQ) Y_X11_init 105 [(0, .ref (E.2.2.2 + 0))] [.ref (E.2.2.2 + 49), .ref (E.2.2.2 + 0)] (xσ q31.1 q31.2) 61 60 2911
  obtain ⟨R32, hR32, h⟩ := xlt_some h
  refine xv_putFR cl_11 lk_RX11_65 rfl rfl rfl (by decide +kernel) (by omega) (fun _ => rfl) (fun _ => rfl) (fun _ => rfl) hR32 dX11_init_105 ?_
  refine ev_aload_n 0 dX11_init_108 rfl rfl ?_
  refine ev_iconst (v := 0) dX11_init_109 (by decide) ?_
  obtain ⟨μ33, hμ33, h⟩ := xlt_some h
  refine xv_putI cl_11 lk_RX11_69 rfl (by decide +kernel) (by omega) rfl rfl (fun _ => rfl) hμ33 dX11_init_110 ?_
  cases h
  exact ev_vret rfl hQ dX11_init_113 (Nat.le_of_ble_eq_true rfl) (Nat.le_of_ble_eq_true rfl)
theorem keep_X11_init_0 {μ : xm} {R : xr} {res : xm × xr} (h : fX11_init_0  μ R = some res) : ∀ a, a < 0 → res.2 a = R a := by
  intro a ha
  unfold fX11_init_0 at h
  obtain ⟨μ1, hμ1, h⟩ := xlt_some h
  obtain ⟨R2, hR2, h⟩ := xlt_some h
  obtain ⟨q3, hq3, h⟩ := xbd_some h
  obtain ⟨R4, hR4, h⟩ := xlt_some h
  obtain ⟨μ5, hμ5, h⟩ := xlt_some h
  obtain ⟨R6, hR6, h⟩ := xlt_some h
  obtain ⟨q7, hq7, h⟩ := xbd_some h
  obtain ⟨R8, hR8, h⟩ := xlt_some h
  obtain ⟨μ9, hμ9, h⟩ := xlt_some h
  obtain ⟨R10, hR10, h⟩ := xlt_some h
  obtain ⟨q11, hq11, h⟩ := xbd_some h
  obtain ⟨R12, hR12, h⟩ := xlt_some h
  obtain ⟨μ13, hμ13, h⟩ := xlt_some h
  obtain ⟨R14, hR14, h⟩ := xlt_some h
  obtain ⟨q15, hq15, h⟩ := xbd_some h
  obtain ⟨R16, hR16, h⟩ := xlt_some h
  obtain ⟨μ17, hμ17, h⟩ := xlt_some h
  obtain ⟨R18, hR18, h⟩ := xlt_some h
  obtain ⟨q19, hq19, h⟩ := xbd_some h
  obtain ⟨R20, hR20, h⟩ := xlt_some h
  obtain ⟨μ21, hμ21, h⟩ := xlt_some h
  obtain ⟨R22, hR22, h⟩ := xlt_some h
  obtain ⟨q23, hq23, h⟩ := xbd_some h
  obtain ⟨R24, hR24, h⟩ := xlt_some h
  obtain ⟨μ25, hμ25, h⟩ := xlt_some h
  obtain ⟨R26, hR26, h⟩ := xlt_some h
  obtain ⟨q27, hq27, h⟩ := xbd_some h
  obtain ⟨R28, hR28, h⟩ := xlt_some h
  obtain ⟨μ29, hμ29, h⟩ := xlt_some h
  obtain ⟨R30, hR30, h⟩ := xlt_some h
  obtain ⟨q31, hq31, h⟩ := xbd_some h
  obtain ⟨R32, hR32, h⟩ := xlt_some h
  obtain ⟨μ33, hμ33, h⟩ := xlt_some h
  cases h
  show R32 a = R a
  rw [← hR32, xup_ne (by omega), keep_X6_init_49 hq31 _ (by omega), ← hR30, xz0R_ne (by omega), ← hR28, xup_ne (by omega), keep_X10_init_42 hq27 _ (by omega), ← hR26, xz0R_ne (by omega), ← hR24, xup_ne (by omega), keep_X7_init_35 hq23 _ (by omega), ← hR22, xz0R_ne (by omega), ← hR20, xup_ne (by omega), keep_X4_init_28 hq19 _ (by omega), ← hR18, xz0R_ne (by omega), ← hR16, xup_ne (by omega), keep_X3_init_23 hq15 _ (by omega), ← hR14, xz0R_ne (by omega), ← hR12, xup_ne (by omega), keep_X5_init_19 hq11 _ (by omega), ← hR10, xz0R_ne (by omega), ← hR8, xup_ne (by omega), keep_X1_init_3 hq7 _ (by omega), ← hR6, xz0R_ne (by omega), ← hR4, xup_ne (by omega), keep_X9_init_1 hq3 _ (by omega), ← hR2, xz0R_ne (by omega)]
def fX12_init_61_b373 (x1 : Int32) (μ2 : xm) : Option ((Int32 × xm) ⊕ xm) := if 192 ≤ x1 then (some (.inr μ2)) else (xbd (xsI μ2 62 192 x1 1) fun μ4 => xlt (x1 + 1) fun x5 => some (.inl (x5, μ4)))
def fX12_init_61  (μ : xm) (R : xr) : Option (xm × xr) := xlt (xz0I μ 62) fun μ1 => xlt (xup R 61 4 (some 62)) fun R2 => xlt (xz0I μ1 63) fun μ3 => xlt (xup R2 61 5 (some 63)) fun R4 => xlt (xz0I μ3 64) fun μ5 => xlt (xup R4 61 6 (some 64)) fun R6 => xlt (xz0I μ5 65) fun μ7 => xlt (xup R6 61 7 (some 65)) fun R8 => xlt (xz0I μ7 66) fun μ9 => xlt (xup R8 61 8 (some 66)) fun R10 => xlt (xz0I μ9 67) fun μ11 => xlt (xup R10 61 9 (some 67)) fun R12 => xlt (xz0I μ11 68) fun μ13 => xlt (xup R12 61 10 (some 68)) fun R14 => xlt (xz0I μ13 69) fun μ15 => xlt (xup R14 61 21 (some 69)) fun R16 => xlt (xz0I μ15 70) fun μ17 => xlt (xup R16 61 22 (some 70)) fun R18 => xlt (xz0I μ17 71) fun μ19 => xlt (xup R18 61 23 (some 71)) fun R20 => xlt (xz0I μ19 72) fun μ21 => xlt (xup R20 61 24 (some 72)) fun R22 => xlt (xz0I μ21 73) fun μ23 => xlt (xup R22 61 25 (some 73)) fun R24 => xlt (xz0I μ23 74) fun μ25 => xlt (xup R24 61 26 (some 74)) fun R26 => xlt (xz0I μ25 75) fun μ27 => xlt (xup R26 61 27 (some 75)) fun R28 => xlt (xz0I μ27 76) fun μ29 => xlt (xup R28 61 28 (some 76)) fun R30 => xlt (xz0I μ29 77) fun μ31 => xlt (xup R30 61 29 (some 77)) fun R32 => xlt (xz0I μ31 78) fun μ33 => xlt (xup R32 61 30 (some 78)) fun R34 => xlt (xz0I μ33 79) fun μ35 => xlt (xup R34 61 31 (some 79)) fun R36 => xlt (xz0I μ35 80) fun μ37 => xlt (xup R36 61 32 (some 80)) fun R38 => xlt (xz0I μ37 81) fun μ39 => xlt (xup R38 61 33 (some 81)) fun R40 => xlt (xz0I μ39 82) fun μ41 => xlt (xup R40 61 35 (some 82)) fun R42 => xlt (xz0I μ41 83) fun μ43 => xlt (xup R42 61 36 (some 83)) fun R44 => xlt (xz0I μ43 84) fun μ45 => xlt (xup R44 61 38 (some 84)) fun R46 => xlt (xz0I μ45 85) fun μ47 => xlt (xup R46 61 39 (some 85)) fun R48 => xlt (xz0I μ47 86) fun μ49 => xlt (xup R48 61 40 (some 86)) fun R50 => xlt (xz0I μ49 87) fun μ51 => xlt (xup R50 61 41 (some 87)) fun R52 => xlt (xz0I μ51 88) fun μ53 => xlt (xup R52 61 42 (some 88)) fun R54 => xlt (xz0I μ53 89) fun μ55 => xlt (xup R54 61 43 (some 89)) fun R56 => xlt (xz0I μ55 90) fun μ57 => xlt (xup R56 61 44 (some 90)) fun R58 => xlt (xz0I μ57 91) fun μ59 => xlt (xup R58 61 45 (some 91)) fun R60 => xlt (xz0I μ59 92) fun μ61 => xlt (xup R60 61 46 (some 92)) fun R62 => xlt (xz0I μ61 93) fun μ63 => xlt (xup R62 61 47 (some 93)) fun R64 => xlt (xz0I μ63 94) fun μ65 => xlt (xup R64 61 48 (some 94)) fun R66 => xlt (xz0I μ65 95) fun μ67 => xlt (xup R66 61 49 (some 95)) fun R68 => xlt (xz0I μ67 96) fun μ69 => xlt (xup R68 61 50 (some 96)) fun R70 => xlt (xz0I μ69 97) fun μ71 => xlt (xup R70 61 51 (some 97)) fun R72 => xlt (xz0I μ71 98) fun μ73 => xlt (xup R72 61 52 (some 98)) fun R74 => xlt (xz0I μ73 99) fun μ75 => xlt (xup R74 61 57 (some 99)) fun R76 => xlt (xz0I μ75 100) fun μ77 => xlt (xup R76 61 58 (some 100)) fun R78 => xlt (xz0I μ77 101) fun μ79 => xlt (xup R78 61 59 (some 101)) fun R80 => xlt (xz0J μ79 102) fun μ81 => xlt (xup R80 61 60 (some 102)) fun R82 => xlt (xz0I μ81 103) fun μ83 => xlt (xup R82 61 62 (some 103)) fun R84 => xlt (xz0I μ83 104) fun μ85 => xlt (xup R84 61 63 (some 104)) fun R86 => xlt (xz0I μ85 105) fun μ87 => xlt (xup R86 61 64 (some 105)) fun R88 => xlt (xz0I μ87 106) fun μ89 => xlt (xup R88 61 65 (some 106)) fun R90 => xbd (xloop xfu (fun v => fX12_init_61_b373 v.1 v.2) (0, μ89)) fun q91 => xlt (xpI q91 61 54 1) fun μ92 => xlt (xpI μ92 61 2 1) fun μ93 => some (μ93, R90)
set_option maxHeartbeats 4000000 in
set_option maxRecDepth 100000 in
theorem kX12_init_61 {E : xE} {d : Nat} {QQ : xP} (hd : 1 ≤ d) {μ : xm} {R : xr} {res : xm × xr} (h : fX12_init_61  μ R = some res) (hQ : QQ none (xσ res.1 res.2) 107) : xCon E d Y_X12_init 45 3312 [.ref (E.2.2.2 + 61)] (xσ μ R) 62 QQ := by
  refine xCon_of pn_RX12 (Nat.le_of_ble_eq_true rfl) (L0 := [(0, .ref (E.2.2.2 + 61))]) rfl ?_
  unfold fX12_init_61 at h
  refine ev_aload_n 0 dX12_init_0 rfl rfl ?_
  refine ev_objInit ⟨m_1245, m_131, m_132⟩ (Nat.le_of_ble_eq_true rfl) (Nat.le_trans (by decide) hd) (Nat.le_trans (by decide) (Nat.mul_le_mul_left 80 (Nat.le_trans (by decide : 1 ≤ 1) hd))) dX12_init_1 ?_
  refine ev_aload_n 0 dX12_init_4 rfl rfl ?_
  refine ev_sipush (v := 192) dX12_init_5 (by decide) ?_
  obtain ⟨μ1, hμ1, h⟩ := xlt_some h
  refine xv_newI (N := 192) m_184 (by decide +kernel) (by decide) rfl (by decide) (Nat.le_of_ble_eq_true rfl) (Nat.le_of_ble_eq_true rfl) hμ1 dX12_init_8 ?_
  show Ev E (xcm E d 45 3312 QQ) Y_X12_init 10 [(0, .ref (E.2.2.2 + 61))] [.ref (E.2.2.2 + 62), .ref (E.2.2.2 + 61)] (xσ μ1 R) 63 1 192
  obtain ⟨R2, hR2, h⟩ := xlt_some h
  refine xv_putFR cl_12 lk_RX12_7 rfl rfl rfl (by decide +kernel) (by omega) (fun _ => rfl) (fun _ => rfl) (fun _ => rfl) hR2 dX12_init_10 ?_
  refine ev_aload_n 0 dX12_init_13 rfl rfl ?_
  refine ev_bipush (v := 24) dX12_init_14 (by decide) ?_
  obtain ⟨μ3, hμ3, h⟩ := xlt_some h
  refine xv_newI (N := 24) m_184 (by decide +kernel) (by decide) rfl (by decide) (Nat.le_of_ble_eq_true rfl) (Nat.le_of_ble_eq_true rfl) hμ3 dX12_init_16 ?_
  show Ev E (xcm E d 45 3312 QQ) Y_X12_init 18 [(0, .ref (E.2.2.2 + 61))] [.ref (E.2.2.2 + 63), .ref (E.2.2.2 + 61)] (xσ μ3 R2) 64 2 216
  obtain ⟨R4, hR4, h⟩ := xlt_some h
  refine xv_putFR cl_12 lk_RX12_13 rfl rfl rfl (by decide +kernel) (by omega) (fun _ => rfl) (fun _ => rfl) (fun _ => rfl) hR4 dX12_init_18 ?_
  refine ev_aload_n 0 dX12_init_21 rfl rfl ?_
  refine ev_bipush (v := 24) dX12_init_22 (by decide) ?_
  obtain ⟨μ5, hμ5, h⟩ := xlt_some h
  refine xv_newI (N := 24) m_184 (by decide +kernel) (by decide) rfl (by decide) (Nat.le_of_ble_eq_true rfl) (Nat.le_of_ble_eq_true rfl) hμ5 dX12_init_24 ?_
  show Ev E (xcm E d 45 3312 QQ) Y_X12_init 26 [(0, .ref (E.2.2.2 + 61))] [.ref (E.2.2.2 + 64), .ref (E.2.2.2 + 61)] (xσ μ5 R4) 65 3 240
  obtain ⟨R6, hR6, h⟩ := xlt_some h
  refine xv_putFR cl_12 lk_RX12_16 rfl rfl rfl (by decide +kernel) (by omega) (fun _ => rfl) (fun _ => rfl) (fun _ => rfl) hR6 dX12_init_26 ?_
  refine ev_aload_n 0 dX12_init_29 rfl rfl ?_
  refine ev_bipush (v := 24) dX12_init_30 (by decide) ?_
  obtain ⟨μ7, hμ7, h⟩ := xlt_some h
  refine xv_newI (N := 24) m_184 (by decide +kernel) (by decide) rfl (by decide) (Nat.le_of_ble_eq_true rfl) (Nat.le_of_ble_eq_true rfl) hμ7 dX12_init_32 ?_
  show Ev E (xcm E d 45 3312 QQ) Y_X12_init 34 [(0, .ref (E.2.2.2 + 61))] [.ref (E.2.2.2 + 65), .ref (E.2.2.2 + 61)] (xσ μ7 R6) 66 4 264
  obtain ⟨R8, hR8, h⟩ := xlt_some h
  refine xv_putFR cl_12 lk_RX12_19 rfl rfl rfl (by decide +kernel) (by omega) (fun _ => rfl) (fun _ => rfl) (fun _ => rfl) hR8 dX12_init_34 ?_
  refine ev_aload_n 0 dX12_init_37 rfl rfl ?_
  refine ev_sipush (v := 192) dX12_init_38 (by decide) ?_
  obtain ⟨μ9, hμ9, h⟩ := xlt_some h
  refine xv_newI (N := 192) m_184 (by decide +kernel) (by decide) rfl (by decide) (Nat.le_of_ble_eq_true rfl) (Nat.le_of_ble_eq_true rfl) hμ9 dX12_init_41 ?_
  show Ev E (xcm E d 45 3312 QQ) Y_X12_init 43 [(0, .ref (E.2.2.2 + 61))] [.ref (E.2.2.2 + 66), .ref (E.2.2.2 + 61)] (xσ μ9 R8) 67 5 456
  obtain ⟨R10, hR10, h⟩ := xlt_some h
  refine xv_putFR cl_12 lk_RX12_22 rfl rfl rfl (by decide +kernel) (by omega) (fun _ => rfl) (fun _ => rfl) (fun _ => rfl) hR10 dX12_init_43 ?_
  refine ev_aload_n 0 dX12_init_46 rfl rfl ?_
  refine ev_bipush (v := 24) dX12_init_47 (by decide) ?_
  obtain ⟨μ11, hμ11, h⟩ := xlt_some h
  refine xv_newZ (N := 24) m_347 (by decide +kernel) (by decide) rfl (by decide) (Nat.le_of_ble_eq_true rfl) (Nat.le_of_ble_eq_true rfl) hμ11 dX12_init_49 ?_
  show Ev E (xcm E d 45 3312 QQ) Y_X12_init 51 [(0, .ref (E.2.2.2 + 61))] [.ref (E.2.2.2 + 67), .ref (E.2.2.2 + 61)] (xσ μ11 R10) 68 6 480
  obtain ⟨R12, hR12, h⟩ := xlt_some h
  refine xv_putFR cl_12 lk_RX12_25 rfl rfl rfl (by decide +kernel) (by omega) (fun _ => rfl) (fun _ => rfl) (fun _ => rfl) hR12 dX12_init_51 ?_
  refine ev_aload_n 0 dX12_init_54 rfl rfl ?_
  refine ev_sipush (v := 400) dX12_init_55 (by decide) ?_
  obtain ⟨μ13, hμ13, h⟩ := xlt_some h
  refine xv_newB (N := 400) m_146 (by decide +kernel) (by decide) rfl (by decide) (Nat.le_of_ble_eq_true rfl) (Nat.le_of_ble_eq_true rfl) hμ13 dX12_init_58 ?_
  show Ev E (xcm E d 45 3312 QQ) Y_X12_init 60 [(0, .ref (E.2.2.2 + 61))] [.ref (E.2.2.2 + 68), .ref (E.2.2.2 + 61)] (xσ μ13 R12) 69 7 880
  obtain ⟨R14, hR14, h⟩ := xlt_some h
  refine xv_putFR cl_12 lk_RX12_29 rfl rfl rfl (by decide +kernel) (by omega) (fun _ => rfl) (fun _ => rfl) (fun _ => rfl) hR14 dX12_init_60 ?_
  refine ev_aload_n 0 dX12_init_63 rfl rfl ?_
  refine ev_sipush (v := 220) dX12_init_64 (by decide) ?_
  obtain ⟨μ15, hμ15, h⟩ := xlt_some h
  refine xv_newI (N := 220) m_184 (by decide +kernel) (by decide) rfl (by decide) (Nat.le_of_ble_eq_true rfl) (Nat.le_of_ble_eq_true rfl) hμ15 dX12_init_67 ?_
  show Ev E (xcm E d 45 3312 QQ) Y_X12_init 69 [(0, .ref (E.2.2.2 + 61))] [.ref (E.2.2.2 + 69), .ref (E.2.2.2 + 61)] (xσ μ15 R14) 70 8 1100
  obtain ⟨R16, hR16, h⟩ := xlt_some h
  refine xv_putFR cl_12 lk_RX12_33 rfl rfl rfl (by decide +kernel) (by omega) (fun _ => rfl) (fun _ => rfl) (fun _ => rfl) hR16 dX12_init_69 ?_
  refine ev_aload_n 0 dX12_init_72 rfl rfl ?_
  refine ev_sipush (v := 220) dX12_init_73 (by decide) ?_
  obtain ⟨μ17, hμ17, h⟩ := xlt_some h
  refine xv_newI (N := 220) m_184 (by decide +kernel) (by decide) rfl (by decide) (Nat.le_of_ble_eq_true rfl) (Nat.le_of_ble_eq_true rfl) hμ17 dX12_init_76 ?_
  show Ev E (xcm E d 45 3312 QQ) Y_X12_init 78 [(0, .ref (E.2.2.2 + 61))] [.ref (E.2.2.2 + 70), .ref (E.2.2.2 + 61)] (xσ μ17 R16) 71 9 1320
  obtain ⟨R18, hR18, h⟩ := xlt_some h
  refine xv_putFR cl_12 lk_RX12_36 rfl rfl rfl (by decide +kernel) (by omega) (fun _ => rfl) (fun _ => rfl) (fun _ => rfl) hR18 dX12_init_78 ?_
  refine ev_aload_n 0 dX12_init_81 rfl rfl ?_
  refine ev_bipush (v := 14) dX12_init_82 (by decide) ?_
  obtain ⟨μ19, hμ19, h⟩ := xlt_some h
  refine xv_newI (N := 14) m_184 (by decide +kernel) (by decide) rfl (by decide) (Nat.le_of_ble_eq_true rfl) (Nat.le_of_ble_eq_true rfl) hμ19 dX12_init_84 ?_
  show Ev E (xcm E d 45 3312 QQ) Y_X12_init 86 [(0, .ref (E.2.2.2 + 61))] [.ref (E.2.2.2 + 71), .ref (E.2.2.2 + 61)] (xσ μ19 R18) 72 10 1334
  obtain ⟨R20, hR20, h⟩ := xlt_some h
  refine xv_putFR cl_12 lk_RX12_39 rfl rfl rfl (by decide +kernel) (by omega) (fun _ => rfl) (fun _ => rfl) (fun _ => rfl) hR20 dX12_init_86 ?_
  refine ev_aload_n 0 dX12_init_89 rfl rfl ?_
  refine ev_bipush (v := 14) dX12_init_90 (by decide) ?_
  obtain ⟨μ21, hμ21, h⟩ := xlt_some h
  refine xv_newI (N := 14) m_184 (by decide +kernel) (by decide) rfl (by decide) (Nat.le_of_ble_eq_true rfl) (Nat.le_of_ble_eq_true rfl) hμ21 dX12_init_92 ?_
  show Ev E (xcm E d 45 3312 QQ) Y_X12_init 94 [(0, .ref (E.2.2.2 + 61))] [.ref (E.2.2.2 + 72), .ref (E.2.2.2 + 61)] (xσ μ21 R20) 73 11 1348
  obtain ⟨R22, hR22, h⟩ := xlt_some h
  refine xv_putFR cl_12 lk_RX12_42 rfl rfl rfl (by decide +kernel) (by omega) (fun _ => rfl) (fun _ => rfl) (fun _ => rfl) hR22 dX12_init_94 ?_
  refine ev_aload_n 0 dX12_init_97 rfl rfl ?_
  refine ev_bipush (v := 14) dX12_init_98 (by decide) ?_
  obtain ⟨μ23, hμ23, h⟩ := xlt_some h
  refine xv_newI (N := 14) m_184 (by decide +kernel) (by decide) rfl (by decide) (Nat.le_of_ble_eq_true rfl) (Nat.le_of_ble_eq_true rfl) hμ23 dX12_init_100 ?_
  show Ev E (xcm E d 45 3312 QQ) Y_X12_init 102 [(0, .ref (E.2.2.2 + 61))] [.ref (E.2.2.2 + 73), .ref (E.2.2.2 + 61)] (xσ μ23 R22) 74 12 1362
  obtain ⟨R24, hR24, h⟩ := xlt_some h
  refine xv_putFR cl_12 lk_RX12_45 rfl rfl rfl (by decide +kernel) (by omega) (fun _ => rfl) (fun _ => rfl) (fun _ => rfl) hR24 dX12_init_102 ?_
  refine ev_aload_n 0 dX12_init_105 rfl rfl ?_
  refine ev_bipush (v := 14) dX12_init_106 (by decide) ?_
  obtain ⟨μ25, hμ25, h⟩ := xlt_some h
  refine xv_newI (N := 14) m_184 (by decide +kernel) (by decide) rfl (by decide) (Nat.le_of_ble_eq_true rfl) (Nat.le_of_ble_eq_true rfl) hμ25 dX12_init_108 ?_
  show Ev E (xcm E d 45 3312 QQ) Y_X12_init 110 [(0, .ref (E.2.2.2 + 61))] [.ref (E.2.2.2 + 74), .ref (E.2.2.2 + 61)] (xσ μ25 R24) 75 13 1376
  obtain ⟨R26, hR26, h⟩ := xlt_some h
  refine xv_putFR cl_12 lk_RX12_48 rfl rfl rfl (by decide +kernel) (by omega) (fun _ => rfl) (fun _ => rfl) (fun _ => rfl) hR26 dX12_init_110 ?_
  refine ev_aload_n 0 dX12_init_113 rfl rfl ?_
  refine ev_sipush (v := 220) dX12_init_114 (by decide) ?_
  obtain ⟨μ27, hμ27, h⟩ := xlt_some h
  refine xv_newI (N := 220) m_184 (by decide +kernel) (by decide) rfl (by decide) (Nat.le_of_ble_eq_true rfl) (Nat.le_of_ble_eq_true rfl) hμ27 dX12_init_117 ?_
  show Ev E (xcm E d 45 3312 QQ) Y_X12_init 119 [(0, .ref (E.2.2.2 + 61))] [.ref (E.2.2.2 + 75), .ref (E.2.2.2 + 61)] (xσ μ27 R26) 76 14 1596
  obtain ⟨R28, hR28, h⟩ := xlt_some h
  refine xv_putFR cl_12 lk_RX12_51 rfl rfl rfl (by decide +kernel) (by omega) (fun _ => rfl) (fun _ => rfl) (fun _ => rfl) hR28 dX12_init_119 ?_
  refine ev_aload_n 0 dX12_init_122 rfl rfl ?_
  refine ev_bipush (v := 14) dX12_init_123 (by decide) ?_
  obtain ⟨μ29, hμ29, h⟩ := xlt_some h
  refine xv_newI (N := 14) m_184 (by decide +kernel) (by decide) rfl (by decide) (Nat.le_of_ble_eq_true rfl) (Nat.le_of_ble_eq_true rfl) hμ29 dX12_init_125 ?_
  show Ev E (xcm E d 45 3312 QQ) Y_X12_init 127 [(0, .ref (E.2.2.2 + 61))] [.ref (E.2.2.2 + 76), .ref (E.2.2.2 + 61)] (xσ μ29 R28) 77 15 1610
  obtain ⟨R30, hR30, h⟩ := xlt_some h
  refine xv_putFR cl_12 lk_RX12_54 rfl rfl rfl (by decide +kernel) (by omega) (fun _ => rfl) (fun _ => rfl) (fun _ => rfl) hR30 dX12_init_127 ?_
  refine ev_aload_n 0 dX12_init_130 rfl rfl ?_
  refine ev_bipush (v := 14) dX12_init_131 (by decide) ?_
  obtain ⟨μ31, hμ31, h⟩ := xlt_some h
  refine xv_newI (N := 14) m_184 (by decide +kernel) (by decide) rfl (by decide) (Nat.le_of_ble_eq_true rfl) (Nat.le_of_ble_eq_true rfl) hμ31 dX12_init_133 ?_
  show Ev E (xcm E d 45 3312 QQ) Y_X12_init 135 [(0, .ref (E.2.2.2 + 61))] [.ref (E.2.2.2 + 77), .ref (E.2.2.2 + 61)] (xσ μ31 R30) 78 16 1624
  obtain ⟨R32, hR32, h⟩ := xlt_some h
  refine xv_putFR cl_12 lk_RX12_57 rfl rfl rfl (by decide +kernel) (by omega) (fun _ => rfl) (fun _ => rfl) (fun _ => rfl) hR32 dX12_init_135 ?_
  refine ev_aload_n 0 dX12_init_138 rfl rfl ?_
  refine ev_bipush (v := 14) dX12_init_139 (by decide) ?_
  obtain ⟨μ33, hμ33, h⟩ := xlt_some h
  refine xv_newI (N := 14) m_184 (by decide +kernel) (by decide) rfl (by decide) (Nat.le_of_ble_eq_true rfl) (Nat.le_of_ble_eq_true rfl) hμ33 dX12_init_141 ?_
  show Ev E (xcm E d 45 3312 QQ) Y_X12_init 143 [(0, .ref (E.2.2.2 + 61))] [.ref (E.2.2.2 + 78), .ref (E.2.2.2 + 61)] (xσ μ33 R32) 79 17 1638
  obtain ⟨R34, hR34, h⟩ := xlt_some h
  refine xv_putFR cl_12 lk_RX12_60 rfl rfl rfl (by decide +kernel) (by omega) (fun _ => rfl) (fun _ => rfl) (fun _ => rfl) hR34 dX12_init_143 ?_
  refine ev_aload_n 0 dX12_init_146 rfl rfl ?_
  refine ev_bipush (v := 14) dX12_init_147 (by decide) ?_
  obtain ⟨μ35, hμ35, h⟩ := xlt_some h
  refine xv_newI (N := 14) m_184 (by decide +kernel) (by decide) rfl (by decide) (Nat.le_of_ble_eq_true rfl) (Nat.le_of_ble_eq_true rfl) hμ35 dX12_init_149 ?_
  show Ev E (xcm E d 45 3312 QQ) Y_X12_init 151 [(0, .ref (E.2.2.2 + 61))] [.ref (E.2.2.2 + 79), .ref (E.2.2.2 + 61)] (xσ μ35 R34) 80 18 1652
  obtain ⟨R36, hR36, h⟩ := xlt_some h
  refine xv_putFR cl_12 lk_RX12_63 rfl rfl rfl (by decide +kernel) (by omega) (fun _ => rfl) (fun _ => rfl) (fun _ => rfl) hR36 dX12_init_151 ?_
  refine ev_aload_n 0 dX12_init_154 rfl rfl ?_
  refine ev_sipush (v := 220) dX12_init_155 (by decide) ?_
  obtain ⟨μ37, hμ37, h⟩ := xlt_some h
  refine xv_newI (N := 220) m_184 (by decide +kernel) (by decide) rfl (by decide) (Nat.le_of_ble_eq_true rfl) (Nat.le_of_ble_eq_true rfl) hμ37 dX12_init_158 ?_
  show Ev E (xcm E d 45 3312 QQ) Y_X12_init 160 [(0, .ref (E.2.2.2 + 61))] [.ref (E.2.2.2 + 80), .ref (E.2.2.2 + 61)] (xσ μ37 R36) 81 19 1872
  obtain ⟨R38, hR38, h⟩ := xlt_some h
  refine xv_putFR cl_12 lk_RX12_66 rfl rfl rfl (by decide +kernel) (by omega) (fun _ => rfl) (fun _ => rfl) (fun _ => rfl) hR38 dX12_init_160 ?_
  refine ev_aload_n 0 dX12_init_163 rfl rfl ?_
  refine ev_bipush (v := 12) dX12_init_164 (by decide) ?_
  obtain ⟨μ39, hμ39, h⟩ := xlt_some h
  refine xv_newI (N := 12) m_184 (by decide +kernel) (by decide) rfl (by decide) (Nat.le_of_ble_eq_true rfl) (Nat.le_of_ble_eq_true rfl) hμ39 dX12_init_166 ?_
  show Ev E (xcm E d 45 3312 QQ) Y_X12_init 168 [(0, .ref (E.2.2.2 + 61))] [.ref (E.2.2.2 + 81), .ref (E.2.2.2 + 61)] (xσ μ39 R38) 82 20 1884
  obtain ⟨R40, hR40, h⟩ := xlt_some h
  refine xv_putFR cl_12 lk_RX12_69 rfl rfl rfl (by decide +kernel) (by omega) (fun _ => rfl) (fun _ => rfl) (fun _ => rfl) hR40 dX12_init_168 ?_
  refine ev_aload_n 0 dX12_init_171 rfl rfl ?_
  refine ev_bipush (v := 24) dX12_init_172 (by decide) ?_
  obtain ⟨μ41, hμ41, h⟩ := xlt_some h
  refine xv_newI (N := 24) m_184 (by decide +kernel) (by decide) rfl (by decide) (Nat.le_of_ble_eq_true rfl) (Nat.le_of_ble_eq_true rfl) hμ41 dX12_init_174 ?_
  show Ev E (xcm E d 45 3312 QQ) Y_X12_init 176 [(0, .ref (E.2.2.2 + 61))] [.ref (E.2.2.2 + 82), .ref (E.2.2.2 + 61)] (xσ μ41 R40) 83 21 1908
  obtain ⟨R42, hR42, h⟩ := xlt_some h
  refine xv_putFR cl_12 lk_RX12_72 rfl rfl rfl (by decide +kernel) (by omega) (fun _ => rfl) (fun _ => rfl) (fun _ => rfl) hR42 dX12_init_176 ?_
  refine ev_aload_n 0 dX12_init_179 rfl rfl ?_
  refine ev_bipush (v := 24) dX12_init_180 (by decide) ?_
  obtain ⟨μ43, hμ43, h⟩ := xlt_some h
  refine xv_newI (N := 24) m_184 (by decide +kernel) (by decide) rfl (by decide) (Nat.le_of_ble_eq_true rfl) (Nat.le_of_ble_eq_true rfl) hμ43 dX12_init_182 ?_
  show Ev E (xcm E d 45 3312 QQ) Y_X12_init 184 [(0, .ref (E.2.2.2 + 61))] [.ref (E.2.2.2 + 83), .ref (E.2.2.2 + 61)] (xσ μ43 R42) 84 22 1932
  obtain ⟨R44, hR44, h⟩ := xlt_some h
  refine xv_putFR cl_12 lk_RX12_75 rfl rfl rfl (by decide +kernel) (by omega) (fun _ => rfl) (fun _ => rfl) (fun _ => rfl) hR44 dX12_init_184 ?_
  refine ev_aload_n 0 dX12_init_187 rfl rfl ?_
  refine ev_bipush (v := 60) dX12_init_188 (by decide) ?_
  obtain ⟨μ45, hμ45, h⟩ := xlt_some h
  refine xv_newI (N := 60) m_184 (by decide +kernel) (by decide) rfl (by decide) (Nat.le_of_ble_eq_true rfl) (Nat.le_of_ble_eq_true rfl) hμ45 dX12_init_190 ?_
  show Ev E (xcm E d 45 3312 QQ) Y_X12_init 192 [(0, .ref (E.2.2.2 + 61))] [.ref (E.2.2.2 + 84), .ref (E.2.2.2 + 61)] (xσ μ45 R44) 85 23 1992
  obtain ⟨R46, hR46, h⟩ := xlt_some h
  refine xv_putFR cl_12 lk_RX12_78 rfl rfl rfl (by decide +kernel) (by omega) (fun _ => rfl) (fun _ => rfl) (fun _ => rfl) hR46 dX12_init_192 ?_
  refine ev_aload_n 0 dX12_init_195 rfl rfl ?_
  refine ev_bipush (v := 60) dX12_init_196 (by decide) ?_
  obtain ⟨μ47, hμ47, h⟩ := xlt_some h
  refine xv_newI (N := 60) m_184 (by decide +kernel) (by decide) rfl (by decide) (Nat.le_of_ble_eq_true rfl) (Nat.le_of_ble_eq_true rfl) hμ47 dX12_init_198 ?_
  show Ev E (xcm E d 45 3312 QQ) Y_X12_init 200 [(0, .ref (E.2.2.2 + 61))] [.ref (E.2.2.2 + 85), .ref (E.2.2.2 + 61)] (xσ μ47 R46) 86 24 2052
  obtain ⟨R48, hR48, h⟩ := xlt_some h
  refine xv_putFR cl_12 lk_RX12_81 rfl rfl rfl (by decide +kernel) (by omega) (fun _ => rfl) (fun _ => rfl) (fun _ => rfl) hR48 dX12_init_200 ?_
  refine ev_aload_n 0 dX12_init_203 rfl rfl ?_
  refine ev_bipush (v := 60) dX12_init_204 (by decide) ?_
  obtain ⟨μ49, hμ49, h⟩ := xlt_some h
  refine xv_newI (N := 60) m_184 (by decide +kernel) (by decide) rfl (by decide) (Nat.le_of_ble_eq_true rfl) (Nat.le_of_ble_eq_true rfl) hμ49 dX12_init_206 ?_
  show Ev E (xcm E d 45 3312 QQ) Y_X12_init 208 [(0, .ref (E.2.2.2 + 61))] [.ref (E.2.2.2 + 86), .ref (E.2.2.2 + 61)] (xσ μ49 R48) 87 25 2112
  obtain ⟨R50, hR50, h⟩ := xlt_some h
  refine xv_putFR cl_12 lk_RX12_84 rfl rfl rfl (by decide +kernel) (by omega) (fun _ => rfl) (fun _ => rfl) (fun _ => rfl) hR50 dX12_init_208 ?_
  refine ev_aload_n 0 dX12_init_211 rfl rfl ?_
  refine ev_bipush (v := 60) dX12_init_212 (by decide) ?_
  obtain ⟨μ51, hμ51, h⟩ := xlt_some h
  refine xv_newI (N := 60) m_184 (by decide +kernel) (by decide) rfl (by decide) (Nat.le_of_ble_eq_true rfl) (Nat.le_of_ble_eq_true rfl) hμ51 dX12_init_214 ?_
  show Ev E (xcm E d 45 3312 QQ) Y_X12_init 216 [(0, .ref (E.2.2.2 + 61))] [.ref (E.2.2.2 + 87), .ref (E.2.2.2 + 61)] (xσ μ51 R50) 88 26 2172
  obtain ⟨R52, hR52, h⟩ := xlt_some h
  refine xv_putFR cl_12 lk_RX12_87 rfl rfl rfl (by decide +kernel) (by omega) (fun _ => rfl) (fun _ => rfl) (fun _ => rfl) hR52 dX12_init_216 ?_
  refine ev_aload_n 0 dX12_init_219 rfl rfl ?_
  refine ev_bipush (v := 60) dX12_init_220 (by decide) ?_
  obtain ⟨μ53, hμ53, h⟩ := xlt_some h
  refine xv_newI (N := 60) m_184 (by decide +kernel) (by decide) rfl (by decide) (Nat.le_of_ble_eq_true rfl) (Nat.le_of_ble_eq_true rfl) hμ53 dX12_init_222 ?_
  show Ev E (xcm E d 45 3312 QQ) Y_X12_init 224 [(0, .ref (E.2.2.2 + 61))] [.ref (E.2.2.2 + 88), .ref (E.2.2.2 + 61)] (xσ μ53 R52) 89 27 2232
  obtain ⟨R54, hR54, h⟩ := xlt_some h
  refine xv_putFR cl_12 lk_RX12_90 rfl rfl rfl (by decide +kernel) (by omega) (fun _ => rfl) (fun _ => rfl) (fun _ => rfl) hR54 dX12_init_224 ?_
  refine ev_aload_n 0 dX12_init_227 rfl rfl ?_
  refine ev_sipush (v := 192) dX12_init_228 (by decide) ?_
  obtain ⟨μ55, hμ55, h⟩ := xlt_some h
  refine xv_newI (N := 192) m_184 (by decide +kernel) (by decide) rfl (by decide) (Nat.le_of_ble_eq_true rfl) (Nat.le_of_ble_eq_true rfl) hμ55 dX12_init_231 ?_
  show Ev E (xcm E d 45 3312 QQ) Y_X12_init 233 [(0, .ref (E.2.2.2 + 61))] [.ref (E.2.2.2 + 89), .ref (E.2.2.2 + 61)] (xσ μ55 R54) 90 28 2424
  obtain ⟨R56, hR56, h⟩ := xlt_some h
  refine xv_putFR cl_12 lk_RX12_93 rfl rfl rfl (by decide +kernel) (by omega) (fun _ => rfl) (fun _ => rfl) (fun _ => rfl) hR56 dX12_init_233 ?_
  refine ev_aload_n 0 dX12_init_236 rfl rfl ?_
  refine ev_sipush (v := 192) dX12_init_237 (by decide) ?_
  obtain ⟨μ57, hμ57, h⟩ := xlt_some h
  refine xv_newI (N := 192) m_184 (by decide +kernel) (by decide) rfl (by decide) (Nat.le_of_ble_eq_true rfl) (Nat.le_of_ble_eq_true rfl) hμ57 dX12_init_240 ?_
  show Ev E (xcm E d 45 3312 QQ) Y_X12_init 242 [(0, .ref (E.2.2.2 + 61))] [.ref (E.2.2.2 + 90), .ref (E.2.2.2 + 61)] (xσ μ57 R56) 91 29 2616
  obtain ⟨R58, hR58, h⟩ := xlt_some h
  refine xv_putFR cl_12 lk_RX12_96 rfl rfl rfl (by decide +kernel) (by omega) (fun _ => rfl) (fun _ => rfl) (fun _ => rfl) hR58 dX12_init_242 ?_
  refine ev_aload_n 0 dX12_init_245 rfl rfl ?_
  refine ev_bipush (v := 7) dX12_init_246 (by decide) ?_
  obtain ⟨μ59, hμ59, h⟩ := xlt_some h
  refine xv_newI (N := 7) m_184 (by decide +kernel) (by decide) rfl (by decide) (Nat.le_of_ble_eq_true rfl) (Nat.le_of_ble_eq_true rfl) hμ59 dX12_init_248 ?_
  show Ev E (xcm E d 45 3312 QQ) Y_X12_init 250 [(0, .ref (E.2.2.2 + 61))] [.ref (E.2.2.2 + 91), .ref (E.2.2.2 + 61)] (xσ μ59 R58) 92 30 2623
  obtain ⟨R60, hR60, h⟩ := xlt_some h
  refine xv_putFR cl_12 lk_RX12_99 rfl rfl rfl (by decide +kernel) (by omega) (fun _ => rfl) (fun _ => rfl) (fun _ => rfl) hR60 dX12_init_250 ?_
  refine ev_aload_n 0 dX12_init_253 rfl rfl ?_
  refine ev_sipush (v := 168) dX12_init_254 (by decide) ?_
  obtain ⟨μ61, hμ61, h⟩ := xlt_some h
  refine xv_newZ (N := 168) m_347 (by decide +kernel) (by decide) rfl (by decide) (Nat.le_of_ble_eq_true rfl) (Nat.le_of_ble_eq_true rfl) hμ61 dX12_init_257 ?_
  show Ev E (xcm E d 45 3312 QQ) Y_X12_init 259 [(0, .ref (E.2.2.2 + 61))] [.ref (E.2.2.2 + 92), .ref (E.2.2.2 + 61)] (xσ μ61 R60) 93 31 2791
  obtain ⟨R62, hR62, h⟩ := xlt_some h
  refine xv_putFR cl_12 lk_RX12_102 rfl rfl rfl (by decide +kernel) (by omega) (fun _ => rfl) (fun _ => rfl) (fun _ => rfl) hR62 dX12_init_259 ?_
  refine ev_aload_n 0 dX12_init_262 rfl rfl ?_
  refine ev_bipush (v := 64) dX12_init_263 (by decide) ?_
  obtain ⟨μ63, hμ63, h⟩ := xlt_some h
  refine xv_newI (N := 64) m_184 (by decide +kernel) (by decide) rfl (by decide) (Nat.le_of_ble_eq_true rfl) (Nat.le_of_ble_eq_true rfl) hμ63 dX12_init_265 ?_
  show Ev E (xcm E d 45 3312 QQ) Y_X12_init 267 [(0, .ref (E.2.2.2 + 61))] [.ref (E.2.2.2 + 93), .ref (E.2.2.2 + 61)] (xσ μ63 R62) 94 32 2855
  obtain ⟨R64, hR64, h⟩ := xlt_some h
  refine xv_putFR cl_12 lk_RX12_105 rfl rfl rfl (by decide +kernel) (by omega) (fun _ => rfl) (fun _ => rfl) (fun _ => rfl) hR64 dX12_init_267 ?_
  refine ev_aload_n 0 dX12_init_270 rfl rfl ?_
  refine ev_bipush (v := 64) dX12_init_271 (by decide) ?_
  obtain ⟨μ65, hμ65, h⟩ := xlt_some h
  refine xv_newI (N := 64) m_184 (by decide +kernel) (by decide) rfl (by decide) (Nat.le_of_ble_eq_true rfl) (Nat.le_of_ble_eq_true rfl) hμ65 dX12_init_273 ?_
  show Ev E (xcm E d 45 3312 QQ) Y_X12_init 275 [(0, .ref (E.2.2.2 + 61))] [.ref (E.2.2.2 + 94), .ref (E.2.2.2 + 61)] (xσ μ65 R64) 95 33 2919
  obtain ⟨R66, hR66, h⟩ := xlt_some h
  refine xv_putFR cl_12 lk_RX12_108 rfl rfl rfl (by decide +kernel) (by omega) (fun _ => rfl) (fun _ => rfl) (fun _ => rfl) hR66 dX12_init_275 ?_
  refine ev_aload_n 0 dX12_init_278 rfl rfl ?_
  refine ev_bipush (v := 8) dX12_init_279 (by decide) ?_
  obtain ⟨μ67, hμ67, h⟩ := xlt_some h
  refine xv_newI (N := 8) m_184 (by decide +kernel) (by decide) rfl (by decide) (Nat.le_of_ble_eq_true rfl) (Nat.le_of_ble_eq_true rfl) hμ67 dX12_init_281 ?_
  show Ev E (xcm E d 45 3312 QQ) Y_X12_init 283 [(0, .ref (E.2.2.2 + 61))] [.ref (E.2.2.2 + 95), .ref (E.2.2.2 + 61)] (xσ μ67 R66) 96 34 2927
  obtain ⟨R68, hR68, h⟩ := xlt_some h
  refine xv_putFR cl_12 lk_RX12_111 rfl rfl rfl (by decide +kernel) (by omega) (fun _ => rfl) (fun _ => rfl) (fun _ => rfl) hR68 dX12_init_283 ?_
  refine ev_aload_n 0 dX12_init_286 rfl rfl ?_
  refine ev_bipush (v := 8) dX12_init_287 (by decide) ?_
  obtain ⟨μ69, hμ69, h⟩ := xlt_some h
  refine xv_newI (N := 8) m_184 (by decide +kernel) (by decide) rfl (by decide) (Nat.le_of_ble_eq_true rfl) (Nat.le_of_ble_eq_true rfl) hμ69 dX12_init_289 ?_
  show Ev E (xcm E d 45 3312 QQ) Y_X12_init 291 [(0, .ref (E.2.2.2 + 61))] [.ref (E.2.2.2 + 96), .ref (E.2.2.2 + 61)] (xσ μ69 R68) 97 35 2935
  obtain ⟨R70, hR70, h⟩ := xlt_some h
  refine xv_putFR cl_12 lk_RX12_114 rfl rfl rfl (by decide +kernel) (by omega) (fun _ => rfl) (fun _ => rfl) (fun _ => rfl) hR70 dX12_init_291 ?_
  refine ev_aload_n 0 dX12_init_294 rfl rfl ?_
  refine ev_bipush (v := 8) dX12_init_295 (by decide) ?_
  obtain ⟨μ71, hμ71, h⟩ := xlt_some h
  refine xv_newI (N := 8) m_184 (by decide +kernel) (by decide) rfl (by decide) (Nat.le_of_ble_eq_true rfl) (Nat.le_of_ble_eq_true rfl) hμ71 dX12_init_297 ?_
  show Ev E (xcm E d 45 3312 QQ) Y_X12_init 299 [(0, .ref (E.2.2.2 + 61))] [.ref (E.2.2.2 + 97), .ref (E.2.2.2 + 61)] (xσ μ71 R70) 98 36 2943
  obtain ⟨R72, hR72, h⟩ := xlt_some h
  refine xv_putFR cl_12 lk_RX12_117 rfl rfl rfl (by decide +kernel) (by omega) (fun _ => rfl) (fun _ => rfl) (fun _ => rfl) hR72 dX12_init_299 ?_
  refine ev_aload_n 0 dX12_init_302 rfl rfl ?_
  refine ev_sipush (v := 256) dX12_init_303 (by decide) ?_
  obtain ⟨μ73, hμ73, h⟩ := xlt_some h
  refine xv_newI (N := 256) m_184 (by decide +kernel) (by decide) rfl (by decide) (Nat.le_of_ble_eq_true rfl) (Nat.le_of_ble_eq_true rfl) hμ73 dX12_init_306 ?_
  show Ev E (xcm E d 45 3312 QQ) Y_X12_init 308 [(0, .ref (E.2.2.2 + 61))] [.ref (E.2.2.2 + 98), .ref (E.2.2.2 + 61)] (xσ μ73 R72) 99 37 3199
  obtain ⟨R74, hR74, h⟩ := xlt_some h
  refine xv_putFR cl_12 lk_RX12_120 rfl rfl rfl (by decide +kernel) (by omega) (fun _ => rfl) (fun _ => rfl) (fun _ => rfl) hR74 dX12_init_308 ?_
  refine ev_aload_n 0 dX12_init_311 rfl rfl ?_
  refine ev_bipush (v := 8) dX12_init_312 (by decide) ?_
  obtain ⟨μ75, hμ75, h⟩ := xlt_some h
  refine xv_newI (N := 8) m_184 (by decide +kernel) (by decide) rfl (by decide) (Nat.le_of_ble_eq_true rfl) (Nat.le_of_ble_eq_true rfl) hμ75 dX12_init_314 ?_
  show Ev E (xcm E d 45 3312 QQ) Y_X12_init 316 [(0, .ref (E.2.2.2 + 61))] [.ref (E.2.2.2 + 99), .ref (E.2.2.2 + 61)] (xσ μ75 R74) 100 38 3207
  obtain ⟨R76, hR76, h⟩ := xlt_some h
  refine xv_putFR cl_12 lk_RX12_123 rfl rfl rfl (by decide +kernel) (by omega) (fun _ => rfl) (fun _ => rfl) (fun _ => rfl) hR76 dX12_init_316 ?_
  refine ev_aload_n 0 dX12_init_319 rfl rfl ?_
  refine ev_bipush (v := 40) dX12_init_320 (by decide) ?_
  obtain ⟨μ77, hμ77, h⟩ := xlt_some h
  refine xv_newI (N := 40) m_184 (by decide +kernel) (by decide) rfl (by decide) (Nat.le_of_ble_eq_true rfl) (Nat.le_of_ble_eq_true rfl) hμ77 dX12_init_322 ?_
  show Ev E (xcm E d 45 3312 QQ) Y_X12_init 324 [(0, .ref (E.2.2.2 + 61))] [.ref (E.2.2.2 + 100), .ref (E.2.2.2 + 61)] (xσ μ77 R76) 101 39 3247
  obtain ⟨R78, hR78, h⟩ := xlt_some h
  refine xv_putFR cl_12 lk_RX12_126 rfl rfl rfl (by decide +kernel) (by omega) (fun _ => rfl) (fun _ => rfl) (fun _ => rfl) hR78 dX12_init_324 ?_
  refine ev_aload_n 0 dX12_init_327 rfl rfl ?_
  refine ev_bipush (v := 40) dX12_init_328 (by decide) ?_
  obtain ⟨μ79, hμ79, h⟩ := xlt_some h
  refine xv_newI (N := 40) m_184 (by decide +kernel) (by decide) rfl (by decide) (Nat.le_of_ble_eq_true rfl) (Nat.le_of_ble_eq_true rfl) hμ79 dX12_init_330 ?_
  show Ev E (xcm E d 45 3312 QQ) Y_X12_init 332 [(0, .ref (E.2.2.2 + 61))] [.ref (E.2.2.2 + 101), .ref (E.2.2.2 + 61)] (xσ μ79 R78) 102 40 3287
  obtain ⟨R80, hR80, h⟩ := xlt_some h
  refine xv_putFR cl_12 lk_RX12_129 rfl rfl rfl (by decide +kernel) (by omega) (fun _ => rfl) (fun _ => rfl) (fun _ => rfl) hR80 dX12_init_332 ?_
  refine ev_aload_n 0 dX12_init_335 rfl rfl ?_
  refine ev_bipush (v := 9) dX12_init_336 (by decide) ?_
  obtain ⟨μ81, hμ81, h⟩ := xlt_some h
  refine xv_newJ (N := 9) m_185 (by decide +kernel) (by decide) rfl (by decide) (Nat.le_of_ble_eq_true rfl) (Nat.le_of_ble_eq_true rfl) hμ81 dX12_init_338 ?_
  show Ev E (xcm E d 45 3312 QQ) Y_X12_init 340 [(0, .ref (E.2.2.2 + 61))] [.ref (E.2.2.2 + 102), .ref (E.2.2.2 + 61)] (xσ μ81 R80) 103 41 3296
  obtain ⟨R82, hR82, h⟩ := xlt_some h
  refine xv_putFR cl_12 lk_RX12_132 rfl rfl rfl (by decide +kernel) (by omega) (fun _ => rfl) (fun _ => rfl) (fun _ => rfl) hR82 dX12_init_340 ?_
  refine ev_aload_n 0 dX12_init_343 rfl rfl ?_
  refine ev_iconst (v := 4) dX12_init_344 (by decide) ?_
  obtain ⟨μ83, hμ83, h⟩ := xlt_some h
  refine xv_newI (N := 4) m_184 (by decide +kernel) (by decide) rfl (by decide) (Nat.le_of_ble_eq_true rfl) (Nat.le_of_ble_eq_true rfl) hμ83 dX12_init_345 ?_
  show Ev E (xcm E d 45 3312 QQ) Y_X12_init 347 [(0, .ref (E.2.2.2 + 61))] [.ref (E.2.2.2 + 103), .ref (E.2.2.2 + 61)] (xσ μ83 R82) 104 42 3300
  obtain ⟨R84, hR84, h⟩ := xlt_some h
  refine xv_putFR cl_12 lk_RX12_136 rfl rfl rfl (by decide +kernel) (by omega) (fun _ => rfl) (fun _ => rfl) (fun _ => rfl) hR84 dX12_init_347 ?_
  refine ev_aload_n 0 dX12_init_350 rfl rfl ?_
  refine ev_iconst (v := 4) dX12_init_351 (by decide) ?_
  obtain ⟨μ85, hμ85, h⟩ := xlt_some h
  refine xv_newI (N := 4) m_184 (by decide +kernel) (by decide) rfl (by decide) (Nat.le_of_ble_eq_true rfl) (Nat.le_of_ble_eq_true rfl) hμ85 dX12_init_352 ?_
  show Ev E (xcm E d 45 3312 QQ) Y_X12_init 354 [(0, .ref (E.2.2.2 + 61))] [.ref (E.2.2.2 + 104), .ref (E.2.2.2 + 61)] (xσ μ85 R84) 105 43 3304
  obtain ⟨R86, hR86, h⟩ := xlt_some h
  refine xv_putFR cl_12 lk_RX12_139 rfl rfl rfl (by decide +kernel) (by omega) (fun _ => rfl) (fun _ => rfl) (fun _ => rfl) hR86 dX12_init_354 ?_
  refine ev_aload_n 0 dX12_init_357 rfl rfl ?_
  refine ev_iconst (v := 4) dX12_init_358 (by decide) ?_
  obtain ⟨μ87, hμ87, h⟩ := xlt_some h
  refine xv_newI (N := 4) m_184 (by decide +kernel) (by decide) rfl (by decide) (Nat.le_of_ble_eq_true rfl) (Nat.le_of_ble_eq_true rfl) hμ87 dX12_init_359 ?_
  show Ev E (xcm E d 45 3312 QQ) Y_X12_init 361 [(0, .ref (E.2.2.2 + 61))] [.ref (E.2.2.2 + 105), .ref (E.2.2.2 + 61)] (xσ μ87 R86) 106 44 3308
  obtain ⟨R88, hR88, h⟩ := xlt_some h
  refine xv_putFR cl_12 lk_RX12_142 rfl rfl rfl (by decide +kernel) (by omega) (fun _ => rfl) (fun _ => rfl) (fun _ => rfl) hR88 dX12_init_361 ?_
  refine ev_aload_n 0 dX12_init_364 rfl rfl ?_
  refine ev_iconst (v := 4) dX12_init_365 (by decide) ?_
  obtain ⟨μ89, hμ89, h⟩ := xlt_some h
  refine xv_newI (N := 4) m_184 (by decide +kernel) (by decide) rfl (by decide) (Nat.le_of_ble_eq_true rfl) (Nat.le_of_ble_eq_true rfl) hμ89 dX12_init_366 ?_
  show Ev E (xcm E d 45 3312 QQ) Y_X12_init 368 [(0, .ref (E.2.2.2 + 61))] [.ref (E.2.2.2 + 106), .ref (E.2.2.2 + 61)] (xσ μ89 R88) 107 45 3312
  obtain ⟨R90, hR90, h⟩ := xlt_some h
  refine xv_putFR cl_12 lk_RX12_145 rfl rfl rfl (by decide +kernel) (by omega) (fun _ => rfl) (fun _ => rfl) (fun _ => rfl) hR90 dX12_init_368 ?_
  refine ev_iconst (v := 0) dX12_init_371 (by decide) ?_
  refine xv_istore_n (L' := [(1, .int 0), (0, .ref (E.2.2.2 + 61))]) rfl dX12_init_372 rfl (Nat.le_of_ble_eq_true rfl) rfl ?_
  obtain ⟨q91, hq91, h⟩ := xbd_some h
  have hwo : R90 61 4 = some 62 := (by rw [← hR90, xup_lo (by first | omega | decide), ← hR88, xup_lo (by first | omega | decide), ← hR86, xup_lo (by first | omega | decide), ← hR84, xup_lo (by first | omega | decide), ← hR82, xup_lo (by first | omega | decide), ← hR80, xup_lo (by first | omega | decide), ← hR78, xup_lo (by first | omega | decide), ← hR76, xup_lo (by first | omega | decide), ← hR74, xup_lo (by first | omega | decide), ← hR72, xup_lo (by first | omega | decide), ← hR70, xup_lo (by first | omega | decide), ← hR68, xup_lo (by first | omega | decide), ← hR66, xup_lo (by first | omega | decide), ← hR64, xup_lo (by first | omega | decide), ← hR62, xup_lo (by first | omega | decide), ← hR60, xup_lo (by first | omega | decide), ← hR58, xup_lo (by first | omega | decide), ← hR56, xup_lo (by first | omega | decide), ← hR54, xup_lo (by first | omega | decide), ← hR52, xup_lo (by first | omega | decide), ← hR50, xup_lo (by first | omega | decide), ← hR48, xup_lo (by first | omega | decide), ← hR46, xup_lo (by first | omega | decide), ← hR44, xup_lo (by first | omega | decide), ← hR42, xup_lo (by first | omega | decide), ← hR40, xup_lo (by first | omega | decide), ← hR38, xup_lo (by first | omega | decide), ← hR36, xup_lo (by first | omega | decide), ← hR34, xup_lo (by first | omega | decide), ← hR32, xup_lo (by first | omega | decide), ← hR30, xup_lo (by first | omega | decide), ← hR28, xup_lo (by first | omega | decide), ← hR26, xup_lo (by first | omega | decide), ← hR24, xup_lo (by first | omega | decide), ← hR22, xup_lo (by first | omega | decide), ← hR20, xup_lo (by first | omega | decide), ← hR18, xup_lo (by first | omega | decide), ← hR16, xup_lo (by first | omega | decide), ← hR14, xup_lo (by first | omega | decide), ← hR12, xup_lo (by first | omega | decide), ← hR10, xup_lo (by first | omega | decide), ← hR8, xup_lo (by first | omega | decide), ← hR6, xup_lo (by first | omega | decide), ← hR4, xup_lo (by first | omega | decide), ← hR2]; exact xup_self)
  refine ev_sub (L' := [(0, .ref (E.2.2.2 + 61)), (1, .int 0)]) [1, 0] rfl ?_
  refine xloop_run (fun v => Ev E (xcm E d 45 3312 QQ) Y_X12_init 373 [(0, .ref (E.2.2.2 + 61)), (1, .int v.1)] [] (xσ v.2 R90) 107 45 3312) (fun v => Ev E (xcm E d 45 3312 QQ) Y_X12_init 393 [(0, .ref (E.2.2.2 + 61))] [] (xσ v R90) 107 45 3312) ?_ _ _ _ hq91 ?_
  · rintro ⟨x1, μ2⟩ y3 h hk
    replace h : fX12_init_61_b373 x1 μ2 = some y3 := h
    show Ev E (xcm E d 45 3312 QQ) Y_X12_init 373 [(0, .ref (E.2.2.2 + 61)), (1, .int x1)] [] (xσ μ2 R90) 107 45 3312
    unfold fX12_init_61_b373 at h
    refine ev_iload_n 1 dX12_init_373 rfl rfl ?_
    refine ev_sipush (v := 192) dX12_init_374 (by decide) ?_
    refine ev_icmp_ge (tgt := 393) dX12_init_377 (by decide) (fun c377 => ?_) (fun c377 => ?_)
    · replace h := xif_t c377 h
      cases h
      replace hk := xel_r hk
      exact ev_sub [0] rfl hk
    · replace h := xif_f c377 h
      refine ev_aload_n 0 dX12_init_380 rfl rfl ?_
      refine xv_getF (a := 62) cl_12 lk_RX12_7 (by decide +kernel) (by omega) (fun _ => rfl) hwo dX12_init_381 ?_
      refine ev_iload_n 1 dX12_init_384 rfl rfl ?_
      refine ev_iconst (v := 1) dX12_init_385 (by decide) ?_
      obtain ⟨μ4, hμ4, h⟩ := xbd_some h
      refine xv_iast (by decide +kernel) (by omega) hμ4 dX12_init_386 ?_
      obtain ⟨x5, hx5, h⟩ := xlt_some h
      refine ev_iinc (L' := [(1, .int x5), (0, .ref (E.2.2.2 + 61))]) 1 dX12_init_387 rfl ((by rfl : x1 + Int32.ofInt 1 = x1 + 1).trans hx5) (Nat.le_of_ble_eq_true rfl) rfl ?_
      refine ev_goto (tgt := 373) dX12_init_390 (by decide) ?_
      cases h
      replace hk := xel_l hk
      exact ev_sub [1, 0] rfl hk
  show Ev E (xcm E d 45 3312 QQ) Y_X12_init 393 [(0, .ref (E.2.2.2 + 61))] [] (xσ q91 R90) 107 45 3312
  refine ev_aload_n 0 dX12_init_393 rfl rfl ?_
  refine ev_iconst (v := 1) dX12_init_394 (by decide) ?_
  obtain ⟨μ92, hμ92, h⟩ := xlt_some h
  refine xv_putI cl_12 lk_RX12_148 rfl (by decide +kernel) (by omega) rfl rfl (fun _ => rfl) hμ92 dX12_init_395 ?_
  refine ev_aload_n 0 dX12_init_398 rfl rfl ?_
  refine ev_iconst (v := 1) dX12_init_399 (by decide) ?_
  obtain ⟨μ93, hμ93, h⟩ := xlt_some h
  refine xv_putI cl_12 lk_RX12_152 rfl (by decide +kernel) (by omega) rfl rfl (fun _ => rfl) hμ93 dX12_init_400 ?_
  cases h
  exact ev_vret rfl hQ dX12_init_403 (Nat.le_of_ble_eq_true rfl) (Nat.le_of_ble_eq_true rfl)
theorem keep_X12_init_61 {μ : xm} {R : xr} {res : xm × xr} (h : fX12_init_61  μ R = some res) : ∀ a, a < 61 → res.2 a = R a := by
  intro a ha
  unfold fX12_init_61 at h
  obtain ⟨μ1, hμ1, h⟩ := xlt_some h
  obtain ⟨R2, hR2, h⟩ := xlt_some h
  obtain ⟨μ3, hμ3, h⟩ := xlt_some h
  obtain ⟨R4, hR4, h⟩ := xlt_some h
  obtain ⟨μ5, hμ5, h⟩ := xlt_some h
  obtain ⟨R6, hR6, h⟩ := xlt_some h
  obtain ⟨μ7, hμ7, h⟩ := xlt_some h
  obtain ⟨R8, hR8, h⟩ := xlt_some h
  obtain ⟨μ9, hμ9, h⟩ := xlt_some h
  obtain ⟨R10, hR10, h⟩ := xlt_some h
  obtain ⟨μ11, hμ11, h⟩ := xlt_some h
  obtain ⟨R12, hR12, h⟩ := xlt_some h
  obtain ⟨μ13, hμ13, h⟩ := xlt_some h
  obtain ⟨R14, hR14, h⟩ := xlt_some h
  obtain ⟨μ15, hμ15, h⟩ := xlt_some h
  obtain ⟨R16, hR16, h⟩ := xlt_some h
  obtain ⟨μ17, hμ17, h⟩ := xlt_some h
  obtain ⟨R18, hR18, h⟩ := xlt_some h
  obtain ⟨μ19, hμ19, h⟩ := xlt_some h
  obtain ⟨R20, hR20, h⟩ := xlt_some h
  obtain ⟨μ21, hμ21, h⟩ := xlt_some h
  obtain ⟨R22, hR22, h⟩ := xlt_some h
  obtain ⟨μ23, hμ23, h⟩ := xlt_some h
  obtain ⟨R24, hR24, h⟩ := xlt_some h
  obtain ⟨μ25, hμ25, h⟩ := xlt_some h
  obtain ⟨R26, hR26, h⟩ := xlt_some h
  obtain ⟨μ27, hμ27, h⟩ := xlt_some h
  obtain ⟨R28, hR28, h⟩ := xlt_some h
  obtain ⟨μ29, hμ29, h⟩ := xlt_some h
  obtain ⟨R30, hR30, h⟩ := xlt_some h
  obtain ⟨μ31, hμ31, h⟩ := xlt_some h
  obtain ⟨R32, hR32, h⟩ := xlt_some h
  obtain ⟨μ33, hμ33, h⟩ := xlt_some h
  obtain ⟨R34, hR34, h⟩ := xlt_some h
  obtain ⟨μ35, hμ35, h⟩ := xlt_some h
  obtain ⟨R36, hR36, h⟩ := xlt_some h
  obtain ⟨μ37, hμ37, h⟩ := xlt_some h
  obtain ⟨R38, hR38, h⟩ := xlt_some h
  obtain ⟨μ39, hμ39, h⟩ := xlt_some h
  obtain ⟨R40, hR40, h⟩ := xlt_some h
  obtain ⟨μ41, hμ41, h⟩ := xlt_some h
  obtain ⟨R42, hR42, h⟩ := xlt_some h
  obtain ⟨μ43, hμ43, h⟩ := xlt_some h
  obtain ⟨R44, hR44, h⟩ := xlt_some h
  obtain ⟨μ45, hμ45, h⟩ := xlt_some h
  obtain ⟨R46, hR46, h⟩ := xlt_some h
  obtain ⟨μ47, hμ47, h⟩ := xlt_some h
  obtain ⟨R48, hR48, h⟩ := xlt_some h
  obtain ⟨μ49, hμ49, h⟩ := xlt_some h
  obtain ⟨R50, hR50, h⟩ := xlt_some h
  obtain ⟨μ51, hμ51, h⟩ := xlt_some h
  obtain ⟨R52, hR52, h⟩ := xlt_some h
  obtain ⟨μ53, hμ53, h⟩ := xlt_some h
  obtain ⟨R54, hR54, h⟩ := xlt_some h
  obtain ⟨μ55, hμ55, h⟩ := xlt_some h
  obtain ⟨R56, hR56, h⟩ := xlt_some h
  obtain ⟨μ57, hμ57, h⟩ := xlt_some h
  obtain ⟨R58, hR58, h⟩ := xlt_some h
  obtain ⟨μ59, hμ59, h⟩ := xlt_some h
  obtain ⟨R60, hR60, h⟩ := xlt_some h
  obtain ⟨μ61, hμ61, h⟩ := xlt_some h
  obtain ⟨R62, hR62, h⟩ := xlt_some h
  obtain ⟨μ63, hμ63, h⟩ := xlt_some h
  obtain ⟨R64, hR64, h⟩ := xlt_some h
  obtain ⟨μ65, hμ65, h⟩ := xlt_some h
  obtain ⟨R66, hR66, h⟩ := xlt_some h
  obtain ⟨μ67, hμ67, h⟩ := xlt_some h
  obtain ⟨R68, hR68, h⟩ := xlt_some h
  obtain ⟨μ69, hμ69, h⟩ := xlt_some h
  obtain ⟨R70, hR70, h⟩ := xlt_some h
  obtain ⟨μ71, hμ71, h⟩ := xlt_some h
  obtain ⟨R72, hR72, h⟩ := xlt_some h
  obtain ⟨μ73, hμ73, h⟩ := xlt_some h
  obtain ⟨R74, hR74, h⟩ := xlt_some h
  obtain ⟨μ75, hμ75, h⟩ := xlt_some h
  obtain ⟨R76, hR76, h⟩ := xlt_some h
  obtain ⟨μ77, hμ77, h⟩ := xlt_some h
  obtain ⟨R78, hR78, h⟩ := xlt_some h
  obtain ⟨μ79, hμ79, h⟩ := xlt_some h
  obtain ⟨R80, hR80, h⟩ := xlt_some h
  obtain ⟨μ81, hμ81, h⟩ := xlt_some h
  obtain ⟨R82, hR82, h⟩ := xlt_some h
  obtain ⟨μ83, hμ83, h⟩ := xlt_some h
  obtain ⟨R84, hR84, h⟩ := xlt_some h
  obtain ⟨μ85, hμ85, h⟩ := xlt_some h
  obtain ⟨R86, hR86, h⟩ := xlt_some h
  obtain ⟨μ87, hμ87, h⟩ := xlt_some h
  obtain ⟨R88, hR88, h⟩ := xlt_some h
  obtain ⟨μ89, hμ89, h⟩ := xlt_some h
  obtain ⟨R90, hR90, h⟩ := xlt_some h
  obtain ⟨q91, hq91, h⟩ := xbd_some h
  obtain ⟨μ92, hμ92, h⟩ := xlt_some h
  obtain ⟨μ93, hμ93, h⟩ := xlt_some h
  cases h
  show R90 a = R a
  rw [← hR90, xup_ne (by omega), ← hR88, xup_ne (by omega), ← hR86, xup_ne (by omega), ← hR84, xup_ne (by omega), ← hR82, xup_ne (by omega), ← hR80, xup_ne (by omega), ← hR78, xup_ne (by omega), ← hR76, xup_ne (by omega), ← hR74, xup_ne (by omega), ← hR72, xup_ne (by omega), ← hR70, xup_ne (by omega), ← hR68, xup_ne (by omega), ← hR66, xup_ne (by omega), ← hR64, xup_ne (by omega), ← hR62, xup_ne (by omega), ← hR60, xup_ne (by omega), ← hR58, xup_ne (by omega), ← hR56, xup_ne (by omega), ← hR54, xup_ne (by omega), ← hR52, xup_ne (by omega), ← hR50, xup_ne (by omega), ← hR48, xup_ne (by omega), ← hR46, xup_ne (by omega), ← hR44, xup_ne (by omega), ← hR42, xup_ne (by omega), ← hR40, xup_ne (by omega), ← hR38, xup_ne (by omega), ← hR36, xup_ne (by omega), ← hR34, xup_ne (by omega), ← hR32, xup_ne (by omega), ← hR30, xup_ne (by omega), ← hR28, xup_ne (by omega), ← hR26, xup_ne (by omega), ← hR24, xup_ne (by omega), ← hR22, xup_ne (by omega), ← hR20, xup_ne (by omega), ← hR18, xup_ne (by omega), ← hR16, xup_ne (by omega), ← hR14, xup_ne (by omega), ← hR12, xup_ne (by omega), ← hR10, xup_ne (by omega), ← hR8, xup_ne (by omega), ← hR6, xup_ne (by omega), ← hR4, xup_ne (by omega), ← hR2, xup_ne (by omega)]
