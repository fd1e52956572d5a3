/-! THE CLAIM OUT OF ONE WALK OF THE LAW'S BODY. Your part is whole_start (and what it stands on); all else here is the same for every law, but numbers. -/
def R_law : String := "LateMinutesLaw"
def lw_P (b : Addr) (xs : List Int32) (args : Array Value) (s : State) : Prop := args = #[.ref b] ∧ s.IntsAt b xs ∧ xs.length ≤ 3584 ∧ (Jvm.Cond.and given_1 narrow_1).before args s = true
def lw_Q (_ : Array Value) (s : State) (o : Outcome) (t : State) : Prop := o = .returned (some (.int 1)) ∧ Framed s o t [] 600000 7302250
def lw_Z (below : List Frame) (a : Array Value) (s : State) : State → Prop := fun t => ∃ o, t.status = .running ∧ Ended t below o ∧ lw_Q a s o t
/-- the law's own end, with 1 on the stack, nothing written that was there before, its room as the claim has it -/
theorem lw_ret {p : Program} {l : Launch} {e : Env} {s : State} {m : MethodId} {below : List Frame} {meth : Method} {c : Code} {b : Nat} (hx : p.tables.exec = Jvm.exec) (hb : c.code = code) (hr : meth.sig.returnType = ret) (hlocks : meth.locks = false) {pc : Nat} {H : Heap} {ls : Array Slot} (hdg : decode code pc = .ok (.ireturn, 1)) : W p l e room_1 s m #[Value.ref b] below meth c H [] 600000 7302250 (lw_Z below #[Value.ref b] s) (F0 m pc ls [.int 1]) := by
  intro T hT X
  obtain ⟨fs, hret, hrun, hended, hW, hframe⟩ := X.leave (v := some (.int 1)) (hlocks := hlocks) (fun h => by rw [hr] at h; cases h)
  have hmeth' : T.vm.method? m = some meth := X.method'
  refine ⟨T.setFrames fs, ?_, .returned (some (.int 1)), hrun, hended, rfl, ⟨_, rfl⟩, hW, hframe⟩
  jvm_step X.here [X.here.top, hx, hb, hdg, hmeth', hr, ret, narrow_b1]
  (try refine ⟨rfl, ?_⟩); (try refine ⟨rfl, ?_⟩)
  first | (intro acts; rw [hret _ acts rfl rfl rfl]) | rw [hret _ _ rfl rfl rfl]
  exact Steps.refl _
/-- what holds at the law's entry: the machine, the code, the tables' words (any of lw_tbl by 'hts w (by decide +kernel)'), the script of L ints xs at the cell b, what the Statement gives of the start (any of its parts by flat_of_before) -/
def lw_At (p : Program) (s : State) (m : MethodId) (meth : Method) (c : Code) (b L : Nat) (xs : Nat → Int32) : Prop :=
  p.tables.exec = Jvm.exec ∧ c.code = code ∧ meth.sig.returnType = ret ∧ c.maxLocals = 4 ∧ s.vm.findClass R_law = some m.cls ∧ (∀ w ∈ lw_tbl, w.before #[Value.ref b] s = true) ∧ va_X b L xs s s.heap ∧ b < s.heap.size ∧ meth.locks = false ∧ (Jvm.Cond.and given_1 narrow_1).before #[Value.ref b] s = true
def xwl7_0 : List Cond := [Cond.methodLink RL 13 yX11_now, Cond.instanceMethod yX11_now, Cond.selects RX11 yX11_now yX11_now, Cond.methodLink RL 18 yX11_worth, Cond.instanceMethod yX11_worth, Cond.selects RX11 yX11_worth yX11_worth, Cond.methodLink RL 23 yX11_meeting, Cond.instanceMethod yX11_meeting, Cond.selects RX11 yX11_meeting yX11_meeting, Cond.methodLink RL 28 yX11_came, Cond.instanceMethod yX11_came, Cond.selects RX11 yX11_came yX11_came, Cond.methodLink RL 32 yX11_feed, Cond.instanceMethod yX11_feed, Cond.selects RX11 yX11_feed yX11_feed, Cond.methodLink RL 37 yX11_law, Cond.instanceMethod yX11_law, Cond.selects RX11 yX11_law yX11_law, Cond.methodLink RL 42 yX11_begins, Cond.instanceMethod yX11_begins, Cond.selects RX11 yX11_begins yX11_begins, Cond.methodLink RL 46 yX11_keeps, Cond.instanceMethod yX11_keeps, Cond.selects RX11 yX11_keeps yX11_keeps, Cond.methodLink RL 50 yX11_kept, Cond.instanceMethod yX11_kept, Cond.selects RX11 yX11_kept yX11_kept, Cond.methodLink RL 54 yX11_owes, Cond.instanceMethod yX11_owes, Cond.selects RX11 yX11_owes yX11_owes, Cond.methodLink RL 59 yX11_chain, Cond.instanceMethod yX11_chain, Cond.selects RX11 yX11_chain yX11_chain, Cond.methodLink RL 63 yX11_settle, Cond.instanceMethod yX11_settle, Cond.selects RX11 yX11_settle yX11_settle, Cond.methodLink RL 67 yX11_noteIs, Cond.instanceMethod yX11_noteIs, Cond.selects RX11 yX11_noteIs yX11_noteIs, Cond.methodLink RL 72 yX11_hand, Cond.instanceMethod yX11_hand, Cond.selects RX11 yX11_hand yX11_hand, Cond.methodLink RL 77 yX11_cut, Cond.instanceMethod yX11_cut, Cond.selects RX11 yX11_cut yX11_cut, Cond.methodLink RL 81 yX11_take, Cond.instanceMethod yX11_take, Cond.selects RX11 yX11_take yX11_take, Cond.methodLink RL 85 yX11_owed, Cond.instanceMethod yX11_owed, Cond.selects RX11 yX11_owed yX11_owed, Cond.methodLink RL 89 yX11_called, Cond.instanceMethod yX11_called, Cond.selects RX11 yX11_called yX11_called, Cond.methodLink RL 94 yX11_round, Cond.instanceMethod yX11_round, Cond.selects RX11 yX11_round yX11_round, Cond.methodLink RL 99 yX11_takings, Cond.instanceMethod yX11_takings, Cond.selects RX11 yX11_takings yX11_takings]
set_option maxRecDepth 100000 in
theorem xwi7_0 : ∀ w ∈ xwl7_0, w ∈ xtb := xwi [420, 421, 422, 431, 432, 433, 445, 446, 447, 487, 488, 489, 507, 508, 509, 519, 520, 521, 617, 618, 619, 627, 628, 629, 640, 641, 642, 667, 668, 669, 739, 740, 741, 764, 765, 766, 789, 790, 791, 822, 823, 824, 830, 831, 832, 839, 840, 841, 862, 863, 864, 871, 872, 873, 888, 889, 890, 945, 946, 947] (by decide +kernel) (by decide +kernel)
theorem m_420 : Cond.methodLink RL 13 yX11_now ∈ xtb := xwi7_0 _ (List.mem_of_getElem? (i := 0) rfl)
theorem m_421 : Cond.instanceMethod yX11_now ∈ xtb := xwi7_0 _ (List.mem_of_getElem? (i := 1) rfl)
theorem m_422 : Cond.selects RX11 yX11_now yX11_now ∈ xtb := xwi7_0 _ (List.mem_of_getElem? (i := 2) rfl)
theorem m_431 : Cond.methodLink RL 18 yX11_worth ∈ xtb := xwi7_0 _ (List.mem_of_getElem? (i := 3) rfl)
theorem m_432 : Cond.instanceMethod yX11_worth ∈ xtb := xwi7_0 _ (List.mem_of_getElem? (i := 4) rfl)
theorem m_433 : Cond.selects RX11 yX11_worth yX11_worth ∈ xtb := xwi7_0 _ (List.mem_of_getElem? (i := 5) rfl)
theorem m_445 : Cond.methodLink RL 23 yX11_meeting ∈ xtb := xwi7_0 _ (List.mem_of_getElem? (i := 6) rfl)
theorem m_446 : Cond.instanceMethod yX11_meeting ∈ xtb := xwi7_0 _ (List.mem_of_getElem? (i := 7) rfl)
theorem m_447 : Cond.selects RX11 yX11_meeting yX11_meeting ∈ xtb := xwi7_0 _ (List.mem_of_getElem? (i := 8) rfl)
theorem m_487 : Cond.methodLink RL 28 yX11_came ∈ xtb := xwi7_0 _ (List.mem_of_getElem? (i := 9) rfl)
theorem m_488 : Cond.instanceMethod yX11_came ∈ xtb := xwi7_0 _ (List.mem_of_getElem? (i := 10) rfl)
theorem m_489 : Cond.selects RX11 yX11_came yX11_came ∈ xtb := xwi7_0 _ (List.mem_of_getElem? (i := 11) rfl)
theorem m_507 : Cond.methodLink RL 32 yX11_feed ∈ xtb := xwi7_0 _ (List.mem_of_getElem? (i := 12) rfl)
theorem m_508 : Cond.instanceMethod yX11_feed ∈ xtb := xwi7_0 _ (List.mem_of_getElem? (i := 13) rfl)
theorem m_509 : Cond.selects RX11 yX11_feed yX11_feed ∈ xtb := xwi7_0 _ (List.mem_of_getElem? (i := 14) rfl)
theorem m_519 : Cond.methodLink RL 37 yX11_law ∈ xtb := xwi7_0 _ (List.mem_of_getElem? (i := 15) rfl)
theorem m_520 : Cond.instanceMethod yX11_law ∈ xtb := xwi7_0 _ (List.mem_of_getElem? (i := 16) rfl)
theorem m_521 : Cond.selects RX11 yX11_law yX11_law ∈ xtb := xwi7_0 _ (List.mem_of_getElem? (i := 17) rfl)
theorem m_617 : Cond.methodLink RL 42 yX11_begins ∈ xtb := xwi7_0 _ (List.mem_of_getElem? (i := 18) rfl)
theorem m_618 : Cond.instanceMethod yX11_begins ∈ xtb := xwi7_0 _ (List.mem_of_getElem? (i := 19) rfl)
theorem m_619 : Cond.selects RX11 yX11_begins yX11_begins ∈ xtb := xwi7_0 _ (List.mem_of_getElem? (i := 20) rfl)
theorem m_627 : Cond.methodLink RL 46 yX11_keeps ∈ xtb := xwi7_0 _ (List.mem_of_getElem? (i := 21) rfl)
theorem m_628 : Cond.instanceMethod yX11_keeps ∈ xtb := xwi7_0 _ (List.mem_of_getElem? (i := 22) rfl)
theorem m_629 : Cond.selects RX11 yX11_keeps yX11_keeps ∈ xtb := xwi7_0 _ (List.mem_of_getElem? (i := 23) rfl)
theorem m_640 : Cond.methodLink RL 50 yX11_kept ∈ xtb := xwi7_0 _ (List.mem_of_getElem? (i := 24) rfl)
theorem m_641 : Cond.instanceMethod yX11_kept ∈ xtb := xwi7_0 _ (List.mem_of_getElem? (i := 25) rfl)
theorem m_642 : Cond.selects RX11 yX11_kept yX11_kept ∈ xtb := xwi7_0 _ (List.mem_of_getElem? (i := 26) rfl)
theorem m_667 : Cond.methodLink RL 54 yX11_owes ∈ xtb := xwi7_0 _ (List.mem_of_getElem? (i := 27) rfl)
theorem m_668 : Cond.instanceMethod yX11_owes ∈ xtb := xwi7_0 _ (List.mem_of_getElem? (i := 28) rfl)
theorem m_669 : Cond.selects RX11 yX11_owes yX11_owes ∈ xtb := xwi7_0 _ (List.mem_of_getElem? (i := 29) rfl)
theorem m_739 : Cond.methodLink RL 59 yX11_chain ∈ xtb := xwi7_0 _ (List.mem_of_getElem? (i := 30) rfl)
theorem m_740 : Cond.instanceMethod yX11_chain ∈ xtb := xwi7_0 _ (List.mem_of_getElem? (i := 31) rfl)
theorem m_741 : Cond.selects RX11 yX11_chain yX11_chain ∈ xtb := xwi7_0 _ (List.mem_of_getElem? (i := 32) rfl)
theorem m_764 : Cond.methodLink RL 63 yX11_settle ∈ xtb := xwi7_0 _ (List.mem_of_getElem? (i := 33) rfl)
theorem m_765 : Cond.instanceMethod yX11_settle ∈ xtb := xwi7_0 _ (List.mem_of_getElem? (i := 34) rfl)
theorem m_766 : Cond.selects RX11 yX11_settle yX11_settle ∈ xtb := xwi7_0 _ (List.mem_of_getElem? (i := 35) rfl)
theorem m_789 : Cond.methodLink RL 67 yX11_noteIs ∈ xtb := xwi7_0 _ (List.mem_of_getElem? (i := 36) rfl)
theorem m_790 : Cond.instanceMethod yX11_noteIs ∈ xtb := xwi7_0 _ (List.mem_of_getElem? (i := 37) rfl)
theorem m_791 : Cond.selects RX11 yX11_noteIs yX11_noteIs ∈ xtb := xwi7_0 _ (List.mem_of_getElem? (i := 38) rfl)
theorem m_822 : Cond.methodLink RL 72 yX11_hand ∈ xtb := xwi7_0 _ (List.mem_of_getElem? (i := 39) rfl)
theorem m_823 : Cond.instanceMethod yX11_hand ∈ xtb := xwi7_0 _ (List.mem_of_getElem? (i := 40) rfl)
theorem m_824 : Cond.selects RX11 yX11_hand yX11_hand ∈ xtb := xwi7_0 _ (List.mem_of_getElem? (i := 41) rfl)
theorem m_830 : Cond.methodLink RL 77 yX11_cut ∈ xtb := xwi7_0 _ (List.mem_of_getElem? (i := 42) rfl)
theorem m_831 : Cond.instanceMethod yX11_cut ∈ xtb := xwi7_0 _ (List.mem_of_getElem? (i := 43) rfl)
theorem m_832 : Cond.selects RX11 yX11_cut yX11_cut ∈ xtb := xwi7_0 _ (List.mem_of_getElem? (i := 44) rfl)
theorem m_839 : Cond.methodLink RL 81 yX11_take ∈ xtb := xwi7_0 _ (List.mem_of_getElem? (i := 45) rfl)
theorem m_840 : Cond.instanceMethod yX11_take ∈ xtb := xwi7_0 _ (List.mem_of_getElem? (i := 46) rfl)
theorem m_841 : Cond.selects RX11 yX11_take yX11_take ∈ xtb := xwi7_0 _ (List.mem_of_getElem? (i := 47) rfl)
theorem m_862 : Cond.methodLink RL 85 yX11_owed ∈ xtb := xwi7_0 _ (List.mem_of_getElem? (i := 48) rfl)
theorem m_863 : Cond.instanceMethod yX11_owed ∈ xtb := xwi7_0 _ (List.mem_of_getElem? (i := 49) rfl)
theorem m_864 : Cond.selects RX11 yX11_owed yX11_owed ∈ xtb := xwi7_0 _ (List.mem_of_getElem? (i := 50) rfl)
theorem m_871 : Cond.methodLink RL 89 yX11_called ∈ xtb := xwi7_0 _ (List.mem_of_getElem? (i := 51) rfl)
theorem m_872 : Cond.instanceMethod yX11_called ∈ xtb := xwi7_0 _ (List.mem_of_getElem? (i := 52) rfl)
theorem m_873 : Cond.selects RX11 yX11_called yX11_called ∈ xtb := xwi7_0 _ (List.mem_of_getElem? (i := 53) rfl)
theorem m_888 : Cond.methodLink RL 94 yX11_round ∈ xtb := xwi7_0 _ (List.mem_of_getElem? (i := 54) rfl)
theorem m_889 : Cond.instanceMethod yX11_round ∈ xtb := xwi7_0 _ (List.mem_of_getElem? (i := 55) rfl)
theorem m_890 : Cond.selects RX11 yX11_round yX11_round ∈ xtb := xwi7_0 _ (List.mem_of_getElem? (i := 56) rfl)
theorem m_945 : Cond.methodLink RL 99 yX11_takings ∈ xtb := xwi7_0 _ (List.mem_of_getElem? (i := 57) rfl)
theorem m_946 : Cond.instanceMethod yX11_takings ∈ xtb := xwi7_0 _ (List.mem_of_getElem? (i := 58) rfl)
theorem m_947 : Cond.selects RX11 yX11_takings yX11_takings ∈ xtb := xwi7_0 _ (List.mem_of_getElem? (i := 59) rfl)
def xwl7_1 : List Cond := [Cond.methodLink RL 103 yX11_end, Cond.instanceMethod yX11_end, Cond.selects RX11 yX11_end yX11_end, Cond.methodLink RL 107 yX11_bridge, Cond.instanceMethod yX11_bridge, Cond.selects RX11 yX11_bridge yX11_bridge, Cond.methodLink RL 111 yX11_crosses, Cond.instanceMethod yX11_crosses, Cond.selects RX11 yX11_crosses yX11_crosses, Cond.methodLink RL 116 yX11_lateIf, Cond.instanceMethod yX11_lateIf, Cond.selects RX11 yX11_lateIf yX11_lateIf, Cond.methodLink RL 120 yX11_hang, Cond.instanceMethod yX11_hang, Cond.selects RX11 yX11_hang yX11_hang, Cond.methodLink RL 125 yX11_cost, Cond.instanceMethod yX11_cost, Cond.selects RX11 yX11_cost yX11_cost, Cond.methodLink RL 130 yX11_out, Cond.instanceMethod yX11_out, Cond.selects RX11 yX11_out yX11_out, Cond.methodLink RL 134 yX11_two, Cond.instanceMethod yX11_two, Cond.selects RX11 yX11_two yX11_two, Cond.methodLink RL 139 yX11_outTwo, Cond.instanceMethod yX11_outTwo, Cond.selects RX11 yX11_outTwo yX11_outTwo, Cond.methodLink RL 143 yX11_rest, Cond.instanceMethod yX11_rest, Cond.selects RX11 yX11_rest yX11_rest, Cond.methodLink RL 147 yX11_lost, Cond.instanceMethod yX11_lost, Cond.selects RX11 yX11_lost yX11_lost, Cond.methodLink RL 151 yX11_seed, Cond.instanceMethod yX11_seed, Cond.selects RX11 yX11_seed yX11_seed, Cond.methodLink RL 155 yX11_draw, Cond.instanceMethod yX11_draw, Cond.selects RX11 yX11_draw yX11_draw, Cond.methodLink RL 159 yX11_check, Cond.instanceMethod yX11_check, Cond.selects RX11 yX11_check yX11_check, Cond.methodLink RL 163 yX11_count, Cond.instanceMethod yX11_count, Cond.selects RX11 yX11_count yX11_count, Cond.methodLink RL 17 yX12_now, Cond.instanceMethod yX12_now, Cond.selects RX12 yX12_now yX12_now, Cond.methodLink RL 22 yX12_worth, Cond.instanceMethod yX12_worth, Cond.selects RX12 yX12_worth yX12_worth, Cond.methodLink RL 27 yX12_meeting, Cond.instanceMethod yX12_meeting, Cond.selects RX12 yX12_meeting yX12_meeting, Cond.methodLink RL 31 yX12_came, Cond.instanceMethod yX12_came, Cond.selects RX12 yX12_came yX12_came, Cond.methodLink RL 45 yX12_begins, Cond.instanceMethod yX12_begins, Cond.selects RX12 yX12_begins yX12_begins]
set_option maxRecDepth 100000 in
theorem xwi7_1 : ∀ w ∈ xwl7_1, w ∈ xtb := xwi [954, 955, 956, 963, 964, 965, 971, 972, 973, 983, 984, 985, 1030, 1031, 1032, 1046, 1047, 1048, 1065, 1066, 1067, 1069, 1070, 1071, 1084, 1085, 1086, 1088, 1089, 1090, 1160, 1161, 1162, 1174, 1175, 1176, 1183, 1184, 1185, 1203, 1204, 1205, 1216, 1217, 1218, 1445, 1446, 1447, 1452, 1453, 1454, 1459, 1460, 1461, 1466, 1467, 1468, 1478, 1479, 1480] (by decide +kernel) (by decide +kernel)
theorem m_954 : Cond.methodLink RL 103 yX11_end ∈ xtb := xwi7_1 _ (List.mem_of_getElem? (i := 0) rfl)
theorem m_955 : Cond.instanceMethod yX11_end ∈ xtb := xwi7_1 _ (List.mem_of_getElem? (i := 1) rfl)
theorem m_956 : Cond.selects RX11 yX11_end yX11_end ∈ xtb := xwi7_1 _ (List.mem_of_getElem? (i := 2) rfl)
theorem m_963 : Cond.methodLink RL 107 yX11_bridge ∈ xtb := xwi7_1 _ (List.mem_of_getElem? (i := 3) rfl)
theorem m_964 : Cond.instanceMethod yX11_bridge ∈ xtb := xwi7_1 _ (List.mem_of_getElem? (i := 4) rfl)
theorem m_965 : Cond.selects RX11 yX11_bridge yX11_bridge ∈ xtb := xwi7_1 _ (List.mem_of_getElem? (i := 5) rfl)
theorem m_971 : Cond.methodLink RL 111 yX11_crosses ∈ xtb := xwi7_1 _ (List.mem_of_getElem? (i := 6) rfl)
theorem m_972 : Cond.instanceMethod yX11_crosses ∈ xtb := xwi7_1 _ (List.mem_of_getElem? (i := 7) rfl)
theorem m_973 : Cond.selects RX11 yX11_crosses yX11_crosses ∈ xtb := xwi7_1 _ (List.mem_of_getElem? (i := 8) rfl)
theorem m_983 : Cond.methodLink RL 116 yX11_lateIf ∈ xtb := xwi7_1 _ (List.mem_of_getElem? (i := 9) rfl)
theorem m_984 : Cond.instanceMethod yX11_lateIf ∈ xtb := xwi7_1 _ (List.mem_of_getElem? (i := 10) rfl)
theorem m_985 : Cond.selects RX11 yX11_lateIf yX11_lateIf ∈ xtb := xwi7_1 _ (List.mem_of_getElem? (i := 11) rfl)
theorem m_1030 : Cond.methodLink RL 120 yX11_hang ∈ xtb := xwi7_1 _ (List.mem_of_getElem? (i := 12) rfl)
theorem m_1031 : Cond.instanceMethod yX11_hang ∈ xtb := xwi7_1 _ (List.mem_of_getElem? (i := 13) rfl)
theorem m_1032 : Cond.selects RX11 yX11_hang yX11_hang ∈ xtb := xwi7_1 _ (List.mem_of_getElem? (i := 14) rfl)
theorem m_1046 : Cond.methodLink RL 125 yX11_cost ∈ xtb := xwi7_1 _ (List.mem_of_getElem? (i := 15) rfl)
theorem m_1047 : Cond.instanceMethod yX11_cost ∈ xtb := xwi7_1 _ (List.mem_of_getElem? (i := 16) rfl)
theorem m_1048 : Cond.selects RX11 yX11_cost yX11_cost ∈ xtb := xwi7_1 _ (List.mem_of_getElem? (i := 17) rfl)
theorem m_1065 : Cond.methodLink RL 130 yX11_out ∈ xtb := xwi7_1 _ (List.mem_of_getElem? (i := 18) rfl)
theorem m_1066 : Cond.instanceMethod yX11_out ∈ xtb := xwi7_1 _ (List.mem_of_getElem? (i := 19) rfl)
theorem m_1067 : Cond.selects RX11 yX11_out yX11_out ∈ xtb := xwi7_1 _ (List.mem_of_getElem? (i := 20) rfl)
theorem m_1069 : Cond.methodLink RL 134 yX11_two ∈ xtb := xwi7_1 _ (List.mem_of_getElem? (i := 21) rfl)
theorem m_1070 : Cond.instanceMethod yX11_two ∈ xtb := xwi7_1 _ (List.mem_of_getElem? (i := 22) rfl)
theorem m_1071 : Cond.selects RX11 yX11_two yX11_two ∈ xtb := xwi7_1 _ (List.mem_of_getElem? (i := 23) rfl)
theorem m_1084 : Cond.methodLink RL 139 yX11_outTwo ∈ xtb := xwi7_1 _ (List.mem_of_getElem? (i := 24) rfl)
theorem m_1085 : Cond.instanceMethod yX11_outTwo ∈ xtb := xwi7_1 _ (List.mem_of_getElem? (i := 25) rfl)
theorem m_1086 : Cond.selects RX11 yX11_outTwo yX11_outTwo ∈ xtb := xwi7_1 _ (List.mem_of_getElem? (i := 26) rfl)
theorem m_1088 : Cond.methodLink RL 143 yX11_rest ∈ xtb := xwi7_1 _ (List.mem_of_getElem? (i := 27) rfl)
theorem m_1089 : Cond.instanceMethod yX11_rest ∈ xtb := xwi7_1 _ (List.mem_of_getElem? (i := 28) rfl)
theorem m_1090 : Cond.selects RX11 yX11_rest yX11_rest ∈ xtb := xwi7_1 _ (List.mem_of_getElem? (i := 29) rfl)
theorem m_1160 : Cond.methodLink RL 147 yX11_lost ∈ xtb := xwi7_1 _ (List.mem_of_getElem? (i := 30) rfl)
theorem m_1161 : Cond.instanceMethod yX11_lost ∈ xtb := xwi7_1 _ (List.mem_of_getElem? (i := 31) rfl)
theorem m_1162 : Cond.selects RX11 yX11_lost yX11_lost ∈ xtb := xwi7_1 _ (List.mem_of_getElem? (i := 32) rfl)
theorem m_1174 : Cond.methodLink RL 151 yX11_seed ∈ xtb := xwi7_1 _ (List.mem_of_getElem? (i := 33) rfl)
theorem m_1175 : Cond.instanceMethod yX11_seed ∈ xtb := xwi7_1 _ (List.mem_of_getElem? (i := 34) rfl)
theorem m_1176 : Cond.selects RX11 yX11_seed yX11_seed ∈ xtb := xwi7_1 _ (List.mem_of_getElem? (i := 35) rfl)
theorem m_1183 : Cond.methodLink RL 155 yX11_draw ∈ xtb := xwi7_1 _ (List.mem_of_getElem? (i := 36) rfl)
theorem m_1184 : Cond.instanceMethod yX11_draw ∈ xtb := xwi7_1 _ (List.mem_of_getElem? (i := 37) rfl)
theorem m_1185 : Cond.selects RX11 yX11_draw yX11_draw ∈ xtb := xwi7_1 _ (List.mem_of_getElem? (i := 38) rfl)
theorem m_1203 : Cond.methodLink RL 159 yX11_check ∈ xtb := xwi7_1 _ (List.mem_of_getElem? (i := 39) rfl)
theorem m_1204 : Cond.instanceMethod yX11_check ∈ xtb := xwi7_1 _ (List.mem_of_getElem? (i := 40) rfl)
theorem m_1205 : Cond.selects RX11 yX11_check yX11_check ∈ xtb := xwi7_1 _ (List.mem_of_getElem? (i := 41) rfl)
theorem m_1216 : Cond.methodLink RL 163 yX11_count ∈ xtb := xwi7_1 _ (List.mem_of_getElem? (i := 42) rfl)
theorem m_1217 : Cond.instanceMethod yX11_count ∈ xtb := xwi7_1 _ (List.mem_of_getElem? (i := 43) rfl)
theorem m_1218 : Cond.selects RX11 yX11_count yX11_count ∈ xtb := xwi7_1 _ (List.mem_of_getElem? (i := 44) rfl)
theorem m_1445 : Cond.methodLink RL 17 yX12_now ∈ xtb := xwi7_1 _ (List.mem_of_getElem? (i := 45) rfl)
theorem m_1446 : Cond.instanceMethod yX12_now ∈ xtb := xwi7_1 _ (List.mem_of_getElem? (i := 46) rfl)
theorem m_1447 : Cond.selects RX12 yX12_now yX12_now ∈ xtb := xwi7_1 _ (List.mem_of_getElem? (i := 47) rfl)
theorem m_1452 : Cond.methodLink RL 22 yX12_worth ∈ xtb := xwi7_1 _ (List.mem_of_getElem? (i := 48) rfl)
theorem m_1453 : Cond.instanceMethod yX12_worth ∈ xtb := xwi7_1 _ (List.mem_of_getElem? (i := 49) rfl)
theorem m_1454 : Cond.selects RX12 yX12_worth yX12_worth ∈ xtb := xwi7_1 _ (List.mem_of_getElem? (i := 50) rfl)
theorem m_1459 : Cond.methodLink RL 27 yX12_meeting ∈ xtb := xwi7_1 _ (List.mem_of_getElem? (i := 51) rfl)
theorem m_1460 : Cond.instanceMethod yX12_meeting ∈ xtb := xwi7_1 _ (List.mem_of_getElem? (i := 52) rfl)
theorem m_1461 : Cond.selects RX12 yX12_meeting yX12_meeting ∈ xtb := xwi7_1 _ (List.mem_of_getElem? (i := 53) rfl)
theorem m_1466 : Cond.methodLink RL 31 yX12_came ∈ xtb := xwi7_1 _ (List.mem_of_getElem? (i := 54) rfl)
theorem m_1467 : Cond.instanceMethod yX12_came ∈ xtb := xwi7_1 _ (List.mem_of_getElem? (i := 55) rfl)
theorem m_1468 : Cond.selects RX12 yX12_came yX12_came ∈ xtb := xwi7_1 _ (List.mem_of_getElem? (i := 56) rfl)
theorem m_1478 : Cond.methodLink RL 45 yX12_begins ∈ xtb := xwi7_1 _ (List.mem_of_getElem? (i := 57) rfl)
theorem m_1479 : Cond.instanceMethod yX12_begins ∈ xtb := xwi7_1 _ (List.mem_of_getElem? (i := 58) rfl)
theorem m_1480 : Cond.selects RX12 yX12_begins yX12_begins ∈ xtb := xwi7_1 _ (List.mem_of_getElem? (i := 59) rfl)
def xwl7_2 : List Cond := [Cond.methodLink RL 49 yX12_keeps, Cond.instanceMethod yX12_keeps, Cond.selects RX12 yX12_keeps yX12_keeps, Cond.methodLink RL 53 yX12_kept, Cond.instanceMethod yX12_kept, Cond.selects RX12 yX12_kept yX12_kept, Cond.methodLink RL 36 yX12_feed, Cond.instanceMethod yX12_feed, Cond.selects RX12 yX12_feed yX12_feed, Cond.methodLink RL 41 yX12_law, Cond.instanceMethod yX12_law, Cond.selects RX12 yX12_law yX12_law, Cond.methodLink RL 58 yX12_owes, Cond.instanceMethod yX12_owes, Cond.selects RX12 yX12_owes yX12_owes, Cond.methodLink RL 62 yX12_chain, Cond.instanceMethod yX12_chain, Cond.selects RX12 yX12_chain yX12_chain, Cond.methodLink RL 66 yX12_settle, Cond.instanceMethod yX12_settle, Cond.selects RX12 yX12_settle yX12_settle, Cond.methodLink RL 71 yX12_noteIs, Cond.instanceMethod yX12_noteIs, Cond.selects RX12 yX12_noteIs yX12_noteIs, Cond.methodLink RL 76 yX12_hand, Cond.instanceMethod yX12_hand, Cond.selects RX12 yX12_hand yX12_hand, Cond.methodLink RL 80 yX12_cut, Cond.instanceMethod yX12_cut, Cond.selects RX12 yX12_cut yX12_cut, Cond.methodLink RL 84 yX12_take, Cond.instanceMethod yX12_take, Cond.selects RX12 yX12_take yX12_take, Cond.methodLink RL 88 yX12_owed, Cond.methodLink RL 93 yX12_called, Cond.instanceMethod yX12_called, Cond.selects RX12 yX12_called yX12_called, Cond.methodLink RL 98 yX12_round, Cond.instanceMethod yX12_round, Cond.selects RX12 yX12_round yX12_round, Cond.methodLink RL 102 yX12_takings, Cond.instanceMethod yX12_takings, Cond.selects RX12 yX12_takings yX12_takings, Cond.methodLink RL 106 yX12_end, Cond.instanceMethod yX12_end, Cond.selects RX12 yX12_end yX12_end, Cond.methodLink RL 110 yX12_bridge, Cond.instanceMethod yX12_bridge, Cond.selects RX12 yX12_bridge yX12_bridge, Cond.methodLink RL 115 yX12_crosses, Cond.instanceMethod yX12_crosses, Cond.selects RX12 yX12_crosses yX12_crosses, Cond.methodLink RL 119 yX12_lateIf, Cond.instanceMethod yX12_lateIf, Cond.selects RX12 yX12_lateIf yX12_lateIf, Cond.methodLink RL 124 yX12_hang, Cond.instanceMethod yX12_hang, Cond.selects RX12 yX12_hang yX12_hang, Cond.methodLink RL 129 yX12_cost, Cond.instanceMethod yX12_cost]
set_option maxRecDepth 100000 in
theorem xwi7_2 : ∀ w ∈ xwl7_2, w ∈ xtb := xwi [1490, 1491, 1492, 1498, 1499, 1500, 1518, 1519, 1520, 1526, 1527, 1528, 1609, 1610, 1611, 1636, 1637, 1638, 1644, 1645, 1646, 1656, 1657, 1658, 1672, 1673, 1674, 1676, 1677, 1678, 1680, 1681, 1682, 1684, 1688, 1689, 1690, 1697, 1698, 1699, 1722, 1723, 1724, 1726, 1727, 1728, 1730, 1731, 1732, 1734, 1735, 1736, 1742, 1743, 1744, 1773, 1774, 1775, 1781, 1782] (by decide +kernel) (by decide +kernel)
theorem m_1490 : Cond.methodLink RL 49 yX12_keeps ∈ xtb := xwi7_2 _ (List.mem_of_getElem? (i := 0) rfl)
theorem m_1491 : Cond.instanceMethod yX12_keeps ∈ xtb := xwi7_2 _ (List.mem_of_getElem? (i := 1) rfl)
theorem m_1492 : Cond.selects RX12 yX12_keeps yX12_keeps ∈ xtb := xwi7_2 _ (List.mem_of_getElem? (i := 2) rfl)
theorem m_1498 : Cond.methodLink RL 53 yX12_kept ∈ xtb := xwi7_2 _ (List.mem_of_getElem? (i := 3) rfl)
theorem m_1499 : Cond.instanceMethod yX12_kept ∈ xtb := xwi7_2 _ (List.mem_of_getElem? (i := 4) rfl)
theorem m_1500 : Cond.selects RX12 yX12_kept yX12_kept ∈ xtb := xwi7_2 _ (List.mem_of_getElem? (i := 5) rfl)
theorem m_1518 : Cond.methodLink RL 36 yX12_feed ∈ xtb := xwi7_2 _ (List.mem_of_getElem? (i := 6) rfl)
theorem m_1519 : Cond.instanceMethod yX12_feed ∈ xtb := xwi7_2 _ (List.mem_of_getElem? (i := 7) rfl)
theorem m_1520 : Cond.selects RX12 yX12_feed yX12_feed ∈ xtb := xwi7_2 _ (List.mem_of_getElem? (i := 8) rfl)
theorem m_1526 : Cond.methodLink RL 41 yX12_law ∈ xtb := xwi7_2 _ (List.mem_of_getElem? (i := 9) rfl)
theorem m_1527 : Cond.instanceMethod yX12_law ∈ xtb := xwi7_2 _ (List.mem_of_getElem? (i := 10) rfl)
theorem m_1528 : Cond.selects RX12 yX12_law yX12_law ∈ xtb := xwi7_2 _ (List.mem_of_getElem? (i := 11) rfl)
theorem m_1609 : Cond.methodLink RL 58 yX12_owes ∈ xtb := xwi7_2 _ (List.mem_of_getElem? (i := 12) rfl)
theorem m_1610 : Cond.instanceMethod yX12_owes ∈ xtb := xwi7_2 _ (List.mem_of_getElem? (i := 13) rfl)
theorem m_1611 : Cond.selects RX12 yX12_owes yX12_owes ∈ xtb := xwi7_2 _ (List.mem_of_getElem? (i := 14) rfl)
theorem m_1636 : Cond.methodLink RL 62 yX12_chain ∈ xtb := xwi7_2 _ (List.mem_of_getElem? (i := 15) rfl)
theorem m_1637 : Cond.instanceMethod yX12_chain ∈ xtb := xwi7_2 _ (List.mem_of_getElem? (i := 16) rfl)
theorem m_1638 : Cond.selects RX12 yX12_chain yX12_chain ∈ xtb := xwi7_2 _ (List.mem_of_getElem? (i := 17) rfl)
theorem m_1644 : Cond.methodLink RL 66 yX12_settle ∈ xtb := xwi7_2 _ (List.mem_of_getElem? (i := 18) rfl)
theorem m_1645 : Cond.instanceMethod yX12_settle ∈ xtb := xwi7_2 _ (List.mem_of_getElem? (i := 19) rfl)
theorem m_1646 : Cond.selects RX12 yX12_settle yX12_settle ∈ xtb := xwi7_2 _ (List.mem_of_getElem? (i := 20) rfl)
theorem m_1656 : Cond.methodLink RL 71 yX12_noteIs ∈ xtb := xwi7_2 _ (List.mem_of_getElem? (i := 21) rfl)
theorem m_1657 : Cond.instanceMethod yX12_noteIs ∈ xtb := xwi7_2 _ (List.mem_of_getElem? (i := 22) rfl)
theorem m_1658 : Cond.selects RX12 yX12_noteIs yX12_noteIs ∈ xtb := xwi7_2 _ (List.mem_of_getElem? (i := 23) rfl)
theorem m_1672 : Cond.methodLink RL 76 yX12_hand ∈ xtb := xwi7_2 _ (List.mem_of_getElem? (i := 24) rfl)
theorem m_1673 : Cond.instanceMethod yX12_hand ∈ xtb := xwi7_2 _ (List.mem_of_getElem? (i := 25) rfl)
theorem m_1674 : Cond.selects RX12 yX12_hand yX12_hand ∈ xtb := xwi7_2 _ (List.mem_of_getElem? (i := 26) rfl)
theorem m_1676 : Cond.methodLink RL 80 yX12_cut ∈ xtb := xwi7_2 _ (List.mem_of_getElem? (i := 27) rfl)
theorem m_1677 : Cond.instanceMethod yX12_cut ∈ xtb := xwi7_2 _ (List.mem_of_getElem? (i := 28) rfl)
theorem m_1678 : Cond.selects RX12 yX12_cut yX12_cut ∈ xtb := xwi7_2 _ (List.mem_of_getElem? (i := 29) rfl)
theorem m_1680 : Cond.methodLink RL 84 yX12_take ∈ xtb := xwi7_2 _ (List.mem_of_getElem? (i := 30) rfl)
theorem m_1681 : Cond.instanceMethod yX12_take ∈ xtb := xwi7_2 _ (List.mem_of_getElem? (i := 31) rfl)
theorem m_1682 : Cond.selects RX12 yX12_take yX12_take ∈ xtb := xwi7_2 _ (List.mem_of_getElem? (i := 32) rfl)
theorem m_1684 : Cond.methodLink RL 88 yX12_owed ∈ xtb := xwi7_2 _ (List.mem_of_getElem? (i := 33) rfl)
theorem m_1688 : Cond.methodLink RL 93 yX12_called ∈ xtb := xwi7_2 _ (List.mem_of_getElem? (i := 34) rfl)
theorem m_1689 : Cond.instanceMethod yX12_called ∈ xtb := xwi7_2 _ (List.mem_of_getElem? (i := 35) rfl)
theorem m_1690 : Cond.selects RX12 yX12_called yX12_called ∈ xtb := xwi7_2 _ (List.mem_of_getElem? (i := 36) rfl)
theorem m_1697 : Cond.methodLink RL 98 yX12_round ∈ xtb := xwi7_2 _ (List.mem_of_getElem? (i := 37) rfl)
theorem m_1698 : Cond.instanceMethod yX12_round ∈ xtb := xwi7_2 _ (List.mem_of_getElem? (i := 38) rfl)
theorem m_1699 : Cond.selects RX12 yX12_round yX12_round ∈ xtb := xwi7_2 _ (List.mem_of_getElem? (i := 39) rfl)
theorem m_1722 : Cond.methodLink RL 102 yX12_takings ∈ xtb := xwi7_2 _ (List.mem_of_getElem? (i := 40) rfl)
theorem m_1723 : Cond.instanceMethod yX12_takings ∈ xtb := xwi7_2 _ (List.mem_of_getElem? (i := 41) rfl)
theorem m_1724 : Cond.selects RX12 yX12_takings yX12_takings ∈ xtb := xwi7_2 _ (List.mem_of_getElem? (i := 42) rfl)
theorem m_1726 : Cond.methodLink RL 106 yX12_end ∈ xtb := xwi7_2 _ (List.mem_of_getElem? (i := 43) rfl)
theorem m_1727 : Cond.instanceMethod yX12_end ∈ xtb := xwi7_2 _ (List.mem_of_getElem? (i := 44) rfl)
theorem m_1728 : Cond.selects RX12 yX12_end yX12_end ∈ xtb := xwi7_2 _ (List.mem_of_getElem? (i := 45) rfl)
theorem m_1730 : Cond.methodLink RL 110 yX12_bridge ∈ xtb := xwi7_2 _ (List.mem_of_getElem? (i := 46) rfl)
theorem m_1731 : Cond.instanceMethod yX12_bridge ∈ xtb := xwi7_2 _ (List.mem_of_getElem? (i := 47) rfl)
theorem m_1732 : Cond.selects RX12 yX12_bridge yX12_bridge ∈ xtb := xwi7_2 _ (List.mem_of_getElem? (i := 48) rfl)
theorem m_1734 : Cond.methodLink RL 115 yX12_crosses ∈ xtb := xwi7_2 _ (List.mem_of_getElem? (i := 49) rfl)
theorem m_1735 : Cond.instanceMethod yX12_crosses ∈ xtb := xwi7_2 _ (List.mem_of_getElem? (i := 50) rfl)
theorem m_1736 : Cond.selects RX12 yX12_crosses yX12_crosses ∈ xtb := xwi7_2 _ (List.mem_of_getElem? (i := 51) rfl)
theorem m_1742 : Cond.methodLink RL 119 yX12_lateIf ∈ xtb := xwi7_2 _ (List.mem_of_getElem? (i := 52) rfl)
theorem m_1743 : Cond.instanceMethod yX12_lateIf ∈ xtb := xwi7_2 _ (List.mem_of_getElem? (i := 53) rfl)
theorem m_1744 : Cond.selects RX12 yX12_lateIf yX12_lateIf ∈ xtb := xwi7_2 _ (List.mem_of_getElem? (i := 54) rfl)
theorem m_1773 : Cond.methodLink RL 124 yX12_hang ∈ xtb := xwi7_2 _ (List.mem_of_getElem? (i := 55) rfl)
theorem m_1774 : Cond.instanceMethod yX12_hang ∈ xtb := xwi7_2 _ (List.mem_of_getElem? (i := 56) rfl)
theorem m_1775 : Cond.selects RX12 yX12_hang yX12_hang ∈ xtb := xwi7_2 _ (List.mem_of_getElem? (i := 57) rfl)
theorem m_1781 : Cond.methodLink RL 129 yX12_cost ∈ xtb := xwi7_2 _ (List.mem_of_getElem? (i := 58) rfl)
theorem m_1782 : Cond.instanceMethod yX12_cost ∈ xtb := xwi7_2 _ (List.mem_of_getElem? (i := 59) rfl)
def xwl7_3 : List Cond := [Cond.selects RX12 yX12_cost yX12_cost, Cond.methodLink RL 133 yX12_out, Cond.instanceMethod yX12_out, Cond.selects RX12 yX12_out yX12_out, Cond.methodLink RL 138 yX12_two, Cond.instanceMethod yX12_two, Cond.selects RX12 yX12_two yX12_two, Cond.methodLink RL 142 yX12_outTwo, Cond.instanceMethod yX12_outTwo, Cond.selects RX12 yX12_outTwo yX12_outTwo, Cond.methodLink RL 146 yX12_rest, Cond.instanceMethod yX12_rest, Cond.selects RX12 yX12_rest yX12_rest, Cond.methodLink RL 150 yX12_lost, Cond.instanceMethod yX12_lost, Cond.selects RX12 yX12_lost yX12_lost, Cond.methodLink RL 154 yX12_seed, Cond.instanceMethod yX12_seed, Cond.selects RX12 yX12_seed yX12_seed, Cond.methodLink RL 158 yX12_draw, Cond.instanceMethod yX12_draw, Cond.selects RX12 yX12_draw yX12_draw, Cond.methodLink RL 162 yX12_check, Cond.instanceMethod yX12_check, Cond.selects RX12 yX12_check yX12_check, Cond.methodLink RL 166 yX12_count, Cond.instanceMethod yX12_count, Cond.selects RX12 yX12_count yX12_count]
set_option maxRecDepth 100000 in
theorem xwi7_3 : ∀ w ∈ xwl7_3, w ∈ xtb := xwi [1783, 1801, 1802, 1803, 1805, 1806, 1807, 1821, 1822, 1823, 1825, 1826, 1827, 1845, 1846, 1847, 1849, 1850, 1851, 1854, 1855, 1856, 1867, 1868, 1869, 1879, 1880, 1881] (by decide +kernel) (by decide +kernel)
theorem m_1783 : Cond.selects RX12 yX12_cost yX12_cost ∈ xtb := xwi7_3 _ (List.mem_of_getElem? (i := 0) rfl)
theorem m_1801 : Cond.methodLink RL 133 yX12_out ∈ xtb := xwi7_3 _ (List.mem_of_getElem? (i := 1) rfl)
theorem m_1802 : Cond.instanceMethod yX12_out ∈ xtb := xwi7_3 _ (List.mem_of_getElem? (i := 2) rfl)
theorem m_1803 : Cond.selects RX12 yX12_out yX12_out ∈ xtb := xwi7_3 _ (List.mem_of_getElem? (i := 3) rfl)
theorem m_1805 : Cond.methodLink RL 138 yX12_two ∈ xtb := xwi7_3 _ (List.mem_of_getElem? (i := 4) rfl)
theorem m_1806 : Cond.instanceMethod yX12_two ∈ xtb := xwi7_3 _ (List.mem_of_getElem? (i := 5) rfl)
theorem m_1807 : Cond.selects RX12 yX12_two yX12_two ∈ xtb := xwi7_3 _ (List.mem_of_getElem? (i := 6) rfl)
theorem m_1821 : Cond.methodLink RL 142 yX12_outTwo ∈ xtb := xwi7_3 _ (List.mem_of_getElem? (i := 7) rfl)
theorem m_1822 : Cond.instanceMethod yX12_outTwo ∈ xtb := xwi7_3 _ (List.mem_of_getElem? (i := 8) rfl)
theorem m_1823 : Cond.selects RX12 yX12_outTwo yX12_outTwo ∈ xtb := xwi7_3 _ (List.mem_of_getElem? (i := 9) rfl)
theorem m_1825 : Cond.methodLink RL 146 yX12_rest ∈ xtb := xwi7_3 _ (List.mem_of_getElem? (i := 10) rfl)
theorem m_1826 : Cond.instanceMethod yX12_rest ∈ xtb := xwi7_3 _ (List.mem_of_getElem? (i := 11) rfl)
theorem m_1827 : Cond.selects RX12 yX12_rest yX12_rest ∈ xtb := xwi7_3 _ (List.mem_of_getElem? (i := 12) rfl)
theorem m_1845 : Cond.methodLink RL 150 yX12_lost ∈ xtb := xwi7_3 _ (List.mem_of_getElem? (i := 13) rfl)
theorem m_1846 : Cond.instanceMethod yX12_lost ∈ xtb := xwi7_3 _ (List.mem_of_getElem? (i := 14) rfl)
theorem m_1847 : Cond.selects RX12 yX12_lost yX12_lost ∈ xtb := xwi7_3 _ (List.mem_of_getElem? (i := 15) rfl)
theorem m_1849 : Cond.methodLink RL 154 yX12_seed ∈ xtb := xwi7_3 _ (List.mem_of_getElem? (i := 16) rfl)
theorem m_1850 : Cond.instanceMethod yX12_seed ∈ xtb := xwi7_3 _ (List.mem_of_getElem? (i := 17) rfl)
theorem m_1851 : Cond.selects RX12 yX12_seed yX12_seed ∈ xtb := xwi7_3 _ (List.mem_of_getElem? (i := 18) rfl)
theorem m_1854 : Cond.methodLink RL 158 yX12_draw ∈ xtb := xwi7_3 _ (List.mem_of_getElem? (i := 19) rfl)
theorem m_1855 : Cond.instanceMethod yX12_draw ∈ xtb := xwi7_3 _ (List.mem_of_getElem? (i := 20) rfl)
theorem m_1856 : Cond.selects RX12 yX12_draw yX12_draw ∈ xtb := xwi7_3 _ (List.mem_of_getElem? (i := 21) rfl)
theorem m_1867 : Cond.methodLink RL 162 yX12_check ∈ xtb := xwi7_3 _ (List.mem_of_getElem? (i := 22) rfl)
theorem m_1868 : Cond.instanceMethod yX12_check ∈ xtb := xwi7_3 _ (List.mem_of_getElem? (i := 23) rfl)
theorem m_1869 : Cond.selects RX12 yX12_check yX12_check ∈ xtb := xwi7_3 _ (List.mem_of_getElem? (i := 24) rfl)
theorem m_1879 : Cond.methodLink RL 166 yX12_count ∈ xtb := xwi7_3 _ (List.mem_of_getElem? (i := 25) rfl)
theorem m_1880 : Cond.instanceMethod yX12_count ∈ xtb := xwi7_3 _ (List.mem_of_getElem? (i := 26) rfl)
theorem m_1881 : Cond.selects RX12 yX12_count yX12_count ∈ xtb := xwi7_3 _ (List.mem_of_getElem? (i := 27) rfl)
/-! The law's own loop, over any invariant J of the two objects' cells -/
theorem lg_cmp_self (x : Int64) : lg_cmp x x = 0 := by
  unfold lg_cmp
  rw [if_neg (by simp [gt_iff_lt, Int64.lt_iff_toInt_lt]), if_pos rfl]
def lwC (b L : Nat) (xs : Nat → Int32) (base : Nat) : xC := (room_1, fun below args s => lw_Z below args s, fun args s => args = #[.ref b] ∧ va_X b L xs s s.heap ∧ b < base ∧ base = s.heap.size)
def lwY (nm : String) : xY := (⟨RL, nm, ""⟩, code, 4, ret)
section LWR
variable {E : xE} {b L : Nat} {xs : Nat → Int32} {nm : String} {pc : Nat} {LL : List (Nat × Value)} {st : List Value} {σ : xM} {n ce sl : Nat}
theorem ev_sld {i v : Int32} (hin : vp_in i L) (hv : xs i.toNatClampNeg = v) (hd : decode code pc = .ok (.iaload, 1)) (h : Ev E (lwC b L xs E.2.2.2) (lwY nm) (pc + 1) LL (.int v :: st) σ n ce sl) : Ev E (lwC b L xs E.2.2.2) (lwY nm) pc LL (.int i :: .ref b :: st) σ n ce sl := by
  intro p e s m args below meth c H locs ls hC hR hS hl
  obtain ⟨hx, hb, -, -, -, -, -, -, -, -, rfl, hX, hbl, hsz⟩ := id hC
  subst hv
  exact va_sld hx hb hX (by omega) (fun q => absurd q (by show ¬ (E.2.2.2 ≤ b); omega)) hS hin hd (h p e s m _ below meth c H locs ls hC hR hS hl)
theorem ev_slen (hd : decode code pc = .ok (.arraylength, 1)) (h : Ev E (lwC b L xs E.2.2.2) (lwY nm) (pc + 1) LL (.int (Int32.ofNat L) :: st) σ n ce sl) : Ev E (lwC b L xs E.2.2.2) (lwY nm) pc LL (.ref b :: st) σ n ce sl := by
  intro p e s m args below meth c H locs ls hC hR hS hl
  obtain ⟨hx, hb, -, -, -, -, -, -, -, -, rfl, hX, hbl, hsz⟩ := id hC
  exact va_slen hx hb hX (by omega) (fun q => absurd q (by show ¬ (E.2.2.2 ≤ b); omega)) hS hd (h p e s m _ below meth c H locs ls hC hR hS hl)
theorem ev_law_end (hce : ce ≤ 600000) (hsl : sl ≤ 7302250) (hd : decode code pc = .ok (.ireturn, 1)) : Ev E (lwC b L xs E.2.2.2) (lwY nm) pc LL [.int 1] σ n ce sl := by
  intro p e s m args below meth c H locs ls hC hR hS hl
  obtain ⟨hx, hb, hr, -, -, -, hlk, -, -, -, rfl, hX, hbl, hsz⟩ := id hC
  exact va_forget (fun q hq => by have := hS.2.2 q hq; rw [← hsz]; exact this) (W.widen hce hsl (lw_ret hx hb hr hlk hd))
end LWR
def lwS_0 (J : xm → xr → Nat → Prop) : Prop := ∀ (μ : xm) (R : xr) (n : Nat) (a1 : Int32) , J μ R n → ∃ q, fX11_now a1 μ = some q ∧ ∃ q2, fX12_now a1 q.2 = some q2 ∧ q2.1 = q.1 ∧ J q2.2 R n
def lwS_1 (J : xm → xr → Nat → Prop) : Prop := ∀ (μ : xm) (R : xr) (n : Nat) (a1 a2 a3 : Int32) , J μ R n → ∃ q, fX11_worth a1 a2 a3 μ = some q ∧ ∃ q2, fX12_worth a1 a2 a3 q.2 = some q2 ∧ q2.1 = q.1 ∧ J q2.2 R n
def lwS_2 (J : xm → xr → Nat → Prop) : Prop := ∀ (μ : xm) (R : xr) (n : Nat) (a1 a2 a3 : Int32) , J μ R n → ∃ q, fX11_meeting a1 a2 a3 μ R n = some q ∧ ∃ q2, fX12_meeting a1 a2 a3 q.2.1 = some q2 ∧ q2.1 = q.1 ∧ J q2.2 q.2.2.1 q.2.2.2
def lwS_3 (J : xm → xr → Nat → Prop) : Prop := ∀ (μ : xm) (R : xr) (n : Nat) (a1 a2 a3 : Int32) , J μ R n → ∃ q, fX11_came a1 a2 a3 μ R = some q ∧ ∃ q2, fX12_came a1 a2 a3 q.2 = some q2 ∧ q2.1 = q.1 ∧ J q2.2 R n
def lwS_4 (J : xm → xr → Nat → Prop) : Prop := ∀ (μ : xm) (R : xr) (n : Nat) (a1 a2 a3 a4 a5 : Int32) , J μ R n → ∃ q, fX11_feed a1 a2 a3 a4 a5 μ = some q ∧ ∃ q2, fX12_feed a1 a2 a3 a4 a5 q.2 = some q2 ∧ q2.1 = q.1 ∧ J q2.2 R n
def lwS_5 (J : xm → xr → Nat → Prop) : Prop := ∀ (μ : xm) (R : xr) (n : Nat) (a1 : Int32) , J μ R n → ∃ q, fX11_law a1 μ R = some q ∧ ∃ q2, fX12_law a1 q.2.1 = some q2 ∧ q2.1 = q.1 ∧ J q2.2 q.2.2 n
def lwS_6 (J : xm → xr → Nat → Prop) : Prop := ∀ (μ : xm) (R : xr) (n : Nat) (a1 : Int32) , J μ R n → ∃ q, fX11_begins a1 μ R = some q ∧ ∃ q2, fX12_begins a1 μ = some q2 ∧ q2 = q ∧ J μ R n
def lwS_7 (J : xm → xr → Nat → Prop) : Prop := ∀ (μ : xm) (R : xr) (n : Nat) (a1 a2 a3 : Int32) , J μ R n → ∃ q, fX11_keeps a1 a2 a3 μ R = some q ∧ ∃ q2, fX12_keeps a1 a2 a3 μ = some q2 ∧ q2 = q ∧ J μ R n
def lwS_8 (J : xm → xr → Nat → Prop) : Prop := ∀ (μ : xm) (R : xr) (n : Nat) (a1 a2 a3 : Int32) , J μ R n → ∃ q, fX11_kept a1 a2 a3 μ R = some q ∧ ∃ q2, fX12_kept a1 a2 a3 μ = some q2 ∧ q2 = q ∧ J μ R n
def lwS_9 (J : xm → xr → Nat → Prop) : Prop := ∀ (μ : xm) (R : xr) (n : Nat) (a1 a2 a3 a4 : Int32) , J μ R n → ∃ q, fX11_owes a1 a2 a3 a4 μ R = some q ∧ ∃ q2, fX12_owes a1 a2 a3 a4 q.2 = some q2 ∧ q2.1 = q.1 ∧ J q2.2 R n
def lwS_10 (J : xm → xr → Nat → Prop) : Prop := ∀ (μ : xm) (R : xr) (n : Nat) (a1 a2 a3 a4 : Int32) , J μ R n → ∃ q, fX11_chain a1 a2 a3 a4 μ R = some q ∧ ∃ q2, fX12_chain a1 a2 a3 a4 q.2 = some q2 ∧ q2.1 = q.1 ∧ J q2.2 R n
def lwS_11 (J : xm → xr → Nat → Prop) : Prop := ∀ (μ : xm) (R : xr) (n : Nat) (a1 : Int32) , J μ R n → ∃ q, fX11_settle a1 μ R = some q ∧ ∃ q2, fX12_settle a1 q.2 = some q2 ∧ q2.1 = q.1 ∧ J q2.2 R n
def lwS_12 (J : xm → xr → Nat → Prop) : Prop := ∀ (μ : xm) (R : xr) (n : Nat) (a1 a2 : Int32) , J μ R n → ∃ q, fX11_noteIs a1 a2 μ = some q ∧ ∃ q2, fX12_noteIs a1 a2 μ = some q2 ∧ q2 = q ∧ J μ R n
def lwS_13 (J : xm → xr → Nat → Prop) : Prop := ∀ (μ : xm) (R : xr) (n : Nat) (a1 a2 : Int32) , J μ R n → ∃ q, fX11_hand a1 a2 μ = some q ∧ ∃ q2, fX12_hand a1 a2 q.2 = some q2 ∧ q2.1 = q.1 ∧ J q2.2 R n
def lwS_14 (J : xm → xr → Nat → Prop) : Prop := ∀ (μ : xm) (R : xr) (n : Nat) (a1 a2 : Int32) , J μ R n → ∃ q, fX11_cut a1 a2 μ = some q ∧ ∃ q2, fX12_cut a1 a2 q.2 = some q2 ∧ q2.1 = q.1 ∧ J q2.2 R n
def lwS_15 (J : xm → xr → Nat → Prop) : Prop := ∀ (μ : xm) (R : xr) (n : Nat) (a1 a2 a3 : Int32) , J μ R n → ∃ q, fX11_take a1 a2 a3 μ = some q ∧ ∃ q2, fX12_take a1 a2 a3 q.2 = some q2 ∧ q2.1 = q.1 ∧ J q2.2 R n
def lwS_16 (J : xm → xr → Nat → Prop) : Prop := ∀ (μ : xm) (R : xr) (n : Nat) (a1 a2 : Int32) , J μ R n → ∃ q, fX11_owed a1 a2 μ = some q ∧ ∃ q2, fX12_owed a1 a2 μ = some q2 ∧ q2 = q ∧ J μ R n
def lwS_17 (J : xm → xr → Nat → Prop) : Prop := ∀ (μ : xm) (R : xr) (n : Nat) (a1 a2 : Int32) , J μ R n → ∃ q, fX11_called a1 a2 μ = some q ∧ ∃ q2, fX12_called a1 a2 q.2 = some q2 ∧ q2.1 = q.1 ∧ J q2.2 R n
def lwS_18 (J : xm → xr → Nat → Prop) : Prop := ∀ (μ : xm) (R : xr) (n : Nat) , J μ R n → ∃ q, fX11_round  μ = some q ∧ ∃ q2, fX12_round  q.2 = some q2 ∧ q2.1 = q.1 ∧ J q2.2 R n
def lwS_19 (J : xm → xr → Nat → Prop) : Prop := ∀ (μ : xm) (R : xr) (n : Nat) , J μ R n → ∃ q, fX11_takings  μ = some q ∧ ∃ q2, fX12_takings  q.2 = some q2 ∧ q2.1 = q.1 ∧ J q2.2 R n
def lwS_20 (J : xm → xr → Nat → Prop) : Prop := ∀ (μ : xm) (R : xr) (n : Nat) (a1 a2 a3 : Int32) , J μ R n → ∃ q, fX11_end a1 a2 a3 μ = some q ∧ ∃ q2, fX12_end a1 a2 a3 q.2 = some q2 ∧ q2.1 = q.1 ∧ J q2.2 R n
def lwS_21 (J : xm → xr → Nat → Prop) : Prop := ∀ (μ : xm) (R : xr) (n : Nat) (a1 a2 a3 : Int32) , J μ R n → ∃ q, fX11_bridge a1 a2 a3 μ = some q ∧ ∃ q2, fX12_bridge a1 a2 a3 q.2 = some q2 ∧ q2.1 = q.1 ∧ J q2.2 R n
def lwS_22 (J : xm → xr → Nat → Prop) : Prop := ∀ (μ : xm) (R : xr) (n : Nat) (a1 a2 : Int32) , J μ R n → ∃ q, fX11_crosses a1 (if a2 = 0 then 0 else 1) μ = some q ∧ ∃ q2, fX12_crosses a1 (if a2 = 0 then 0 else 1) q.2 = some q2 ∧ q2.1 = q.1 ∧ J q2.2 R n
def lwS_23 (J : xm → xr → Nat → Prop) : Prop := ∀ (μ : xm) (R : xr) (n : Nat) (a1 a2 a3 : Int32) , J μ R n → ∃ q, fX11_lateIf a1 a2 a3 μ = some q ∧ ∃ q2, fX12_lateIf a1 a2 a3 μ = some q2 ∧ q2 = q ∧ J μ R n
def lwS_24 (J : xm → xr → Nat → Prop) : Prop := ∀ (μ : xm) (R : xr) (n : Nat) (a1 a2 a3 : Int32) , J μ R n → ∃ q, fX11_hang a1 a2 a3 μ = some q ∧ ∃ q2, fX12_hang a1 a2 a3 q.2 = some q2 ∧ q2.1 = q.1 ∧ J q2.2 R n
def lwS_25 (J : xm → xr → Nat → Prop) : Prop := ∀ (μ : xm) (R : xr) (n : Nat) (a1 a2 a3 a4 : Int32) , J μ R n → ∃ q, fX11_cost a1 a2 a3 a4 μ R = some q ∧ ∃ q2, fX12_cost a1 a2 a3 a4 μ = some q2 ∧ q2 = q ∧ J μ R n
def lwS_26 (J : xm → xr → Nat → Prop) : Prop := ∀ (μ : xm) (R : xr) (n : Nat) (a1 a2 a3 : Int32) , J μ R n → ∃ q, fX11_out a1 a2 a3 μ R = some q ∧ ∃ q2, fX12_out a1 a2 a3 μ = some q2 ∧ q2 = q ∧ J μ R n
def lwS_27 (J : xm → xr → Nat → Prop) : Prop := ∀ (μ : xm) (R : xr) (n : Nat) (a1 a2 a3 a4 a5 a6 : Int32) , J μ R n → ∃ q, fX11_two a1 a2 a3 a4 a5 a6 μ R = some q ∧ ∃ q2, fX12_two a1 a2 a3 a4 a5 a6 μ = some q2 ∧ q2 = q ∧ J μ R n
def lwS_28 (J : xm → xr → Nat → Prop) : Prop := ∀ (μ : xm) (R : xr) (n : Nat) (a1 a2 a3 a4 a5 : Int32) , J μ R n → ∃ q, fX11_outTwo a1 a2 a3 a4 a5 μ R = some q ∧ ∃ q2, fX12_outTwo a1 a2 a3 a4 a5 μ = some q2 ∧ q2 = q ∧ J μ R n
def lwS_29 (J : xm → xr → Nat → Prop) : Prop := ∀ (μ : xm) (R : xr) (n : Nat) (a1 a2 a3 : Int32) , J μ R n → ∃ q, fX11_rest a1 a2 a3 μ R = some q ∧ ∃ q2, fX12_rest a1 a2 a3 q.2.1 = some q2 ∧ q2.1 = q.1 ∧ J q2.2 q.2.2 n
def lwS_30 (J : xm → xr → Nat → Prop) : Prop := ∀ (μ : xm) (R : xr) (n : Nat) , J μ R n → ∃ q, fX11_lost  μ R = some q ∧ ∃ q2, fX12_lost  μ = some q2 ∧ q2 = q ∧ J μ R n
def lwS_31 (J : xm → xr → Nat → Prop) : Prop := ∀ (μ : xm) (R : xr) (n : Nat) (a1 : Int32) , J μ R n → ∃ q, fX11_seed a1 μ = some q ∧ ∃ q2, fX12_seed a1 q.2 = some q2 ∧ q2.1 = q.1 ∧ J q2.2 R n
def lwS_32 (J : xm → xr → Nat → Prop) : Prop := ∀ (μ : xm) (R : xr) (n : Nat) (a1 a2 : Int32) , J μ R n → ∃ q, fX11_draw a1 a2 μ R = some q ∧ ∃ q2, fX12_draw a1 a2 q.2 = some q2 ∧ q2.1 = q.1 ∧ J q2.2 R n
def lwS_33 (J : xm → xr → Nat → Prop) : Prop := ∀ (μ : xm) (R : xr) (n : Nat) (a1 : Int32) , J μ R n → ∃ q, fX11_check a1 μ = some q ∧ ∃ q2, fX12_check a1 q.2 = some q2 ∧ q2.1 = q.1 ∧ J q2.2 R n
def lwS_34 (J : xm → xr → Nat → Prop) : Prop := ∀ (μ : xm) (R : xr) (n : Nat) (a1 : Int32) , J μ R n → ∃ q, fX11_count a1 μ R = some q ∧ ∃ q2, fX12_count a1 μ = some q2 ∧ q2 = q ∧ J μ R n
set_option maxHeartbeats 4000000 in
set_option maxRecDepth 100000 in
theorem lwc_0 {E : xE} {b L : Nat} {xs : Nat → Int32} {nm : String} {J : xm → xr → Nat → Prop} (HS : lwS_0 J) (HJ : ∀ μ R n, J μ R n → xFin R n ∧ ∃ k, n = 107 + 2 * k) {i : Int32} {μ : xm} {R : xr} {n ce sl : Nat} (hce : ce + 2 ≤ 600000) (hsl : sl + 13 ≤ 7302250) (v1 : vp_in (i + 1) L) (v2 : vp_in (i + 2) L) (v3 : vp_in (i + 3) L) (v4 : vp_in (i + 4) L) (v5 : vp_in (i + 5) L) (v6 : vp_in (i + 6) L) (hJ : J μ R n) (hK : ∀ (ν : xm) (S : xr) (n' : Nat), J ν S n' → Ev E (lwC b L xs E.2.2.2) (lwY nm) 1515 [(0, .ref b), (1, .ref (E.2.2.2 + iC)), (2, .ref (E.2.2.2 + iM)), (3, .int i)] [] (xσ ν S) n' (ce + 2) (sl + 13)) : Ev E (lwC b L xs E.2.2.2) (lwY nm) 188 [(0, .ref b), (1, .ref (E.2.2.2 + iC)), (2, .ref (E.2.2.2 + iM)), (3, .int i)] [] (xσ μ R) n ce sl := by
  obtain ⟨hF, hn⟩ := HJ μ R n hJ
  obtain ⟨a1, ha1⟩ : ∃ a, xs (i + 1).toNatClampNeg = a := ⟨_, rfl⟩
  have HS := HS μ R n a1 hJ
  obtain ⟨q, hq, q2, hq2, hr, hJ2⟩ := HS
  refine ev_aload_n 1 dL_law_188 rfl rfl ?_
  refine ev_aload_n 0 dL_law_189 rfl rfl ?_
  refine ev_iload_n 3 dL_law_190 rfl rfl ?_
  refine ev_iconst (v := 1) dL_law_191 (by decide) ?_
  refine ev_iadd dL_law_192 ?_
  refine ev_sld v1 ha1 dL_law_193 ?_
  refine ev_callV (ci := 11) (As := [.int a1]) (rest := []) 1 (kX11_now (E := E) (d := 2) (QQ := (fun v τ n' => v = some (.int q.1) ∧ τ = xσ q.2 R ∧ n = n')) (Nat.le_refl _) hF hq (⟨rfl, rfl, rfl⟩)) my_X11_now ⟨m_420, m_421, m_422⟩ cl_11 kd_0 (xl hF rfl) rfl rfl (Nat.le_of_ble_eq_true rfl) (Nat.le_of_ble_eq_true rfl) (Nat.le_of_ble_eq_true rfl) (Nat.le_trans (Nat.le_add_right _ _) hce) (Nat.le_trans (Nat.le_add_right _ _) hsl) dL_law_194 (fun v τ n' hv => ?_)
  obtain ⟨rfl, rfl, rfl⟩ := hv
  have hF1 := hF
  show Ev E (lwC b L xs E.2.2.2) (lwY nm) 197 [(0, .ref b), (1, .ref (E.2.2.2 + iC)), (2, .ref (E.2.2.2 + iM)), (3, .int i)] [.int q.1] (xσ q.2 R) n ce sl
  refine ev_aload_n 2 dL_law_197 rfl rfl ?_
  refine ev_aload_n 0 dL_law_198 rfl rfl ?_
  refine ev_iload_n 3 dL_law_199 rfl rfl ?_
  refine ev_iconst (v := 1) dL_law_200 (by decide) ?_
  refine ev_iadd dL_law_201 ?_
  refine ev_sld v1 ha1 dL_law_202 ?_
  refine ev_callV (ci := 12) (As := [.int a1]) (rest := [.int q.1]) 1 (kX12_now (E := E) (d := 1) (QQ := (fun v τ n' => v = some (.int q2.1) ∧ τ = xσ q2.2 R ∧ n = n')) (Nat.le_refl _) hF1 hq2 (⟨rfl, rfl, rfl⟩)) my_X12_now ⟨m_1445, m_1446, m_1447⟩ cl_12 kd_61 (xl hF1 rfl) rfl rfl (Nat.le_of_ble_eq_true rfl) (Nat.le_of_ble_eq_true rfl) (Nat.le_of_ble_eq_true rfl) (Nat.le_trans (Nat.le_add_right _ _) hce) (Nat.le_trans (Nat.le_add_right _ _) hsl) dL_law_203 (fun v τ n' hv => ?_)
  obtain ⟨rfl, rfl, rfl⟩ := hv
  show Ev E (lwC b L xs E.2.2.2) (lwY nm) 206 [(0, .ref b), (1, .ref (E.2.2.2 + iC)), (2, .ref (E.2.2.2 + iM)), (3, .int i)] [.int q2.1, .int q.1] (xσ q2.2 R) n ce sl
  exact ev_icmp_eq (tgt := 1515) dL_law_206 (by decide) (fun _ => ev_widen (Nat.le_add_right _ _) (Nat.le_add_right _ _) (hK _ _ _ hJ2)) (fun hne => absurd hr.symm hne)
set_option maxHeartbeats 4000000 in
set_option maxRecDepth 100000 in
theorem lwc_1 {E : xE} {b L : Nat} {xs : Nat → Int32} {nm : String} {J : xm → xr → Nat → Prop} (HS : lwS_1 J) (HJ : ∀ μ R n, J μ R n → xFin R n ∧ ∃ k, n = 107 + 2 * k) {i : Int32} {μ : xm} {R : xr} {n ce sl : Nat} (hce : ce + 2 ≤ 600000) (hsl : sl + 13 ≤ 7302250) (v1 : vp_in (i + 1) L) (v2 : vp_in (i + 2) L) (v3 : vp_in (i + 3) L) (v4 : vp_in (i + 4) L) (v5 : vp_in (i + 5) L) (v6 : vp_in (i + 6) L) (hJ : J μ R n) (hK : ∀ (ν : xm) (S : xr) (n' : Nat), J ν S n' → Ev E (lwC b L xs E.2.2.2) (lwY nm) 1515 [(0, .ref b), (1, .ref (E.2.2.2 + iC)), (2, .ref (E.2.2.2 + iM)), (3, .int i)] [] (xσ ν S) n' (ce + 2) (sl + 13)) : Ev E (lwC b L xs E.2.2.2) (lwY nm) 211 [(0, .ref b), (1, .ref (E.2.2.2 + iC)), (2, .ref (E.2.2.2 + iM)), (3, .int i)] [] (xσ μ R) n ce sl := by
  obtain ⟨hF, hn⟩ := HJ μ R n hJ
  obtain ⟨a1, ha1⟩ : ∃ a, xs (i + 1).toNatClampNeg = a := ⟨_, rfl⟩
  obtain ⟨a2, ha2⟩ : ∃ a, xs (i + 2).toNatClampNeg = a := ⟨_, rfl⟩
  obtain ⟨a3, ha3⟩ : ∃ a, xs (i + 3).toNatClampNeg = a := ⟨_, rfl⟩
  have HS := HS μ R n a1 a2 a3 hJ
  obtain ⟨q, hq, q2, hq2, hr, hJ2⟩ := HS
  refine ev_aload_n 1 dL_law_211 rfl rfl ?_
  refine ev_aload_n 0 dL_law_212 rfl rfl ?_
  refine ev_iload_n 3 dL_law_213 rfl rfl ?_
  refine ev_iconst (v := 1) dL_law_214 (by decide) ?_
  refine ev_iadd dL_law_215 ?_
  refine ev_sld v1 ha1 dL_law_216 ?_
  refine ev_aload_n 0 dL_law_217 rfl rfl ?_
  refine ev_iload_n 3 dL_law_218 rfl rfl ?_
  refine ev_iconst (v := 2) dL_law_219 (by decide) ?_
  refine ev_iadd dL_law_220 ?_
  refine ev_sld v2 ha2 dL_law_221 ?_
  refine ev_aload_n 0 dL_law_222 rfl rfl ?_
  refine ev_iload_n 3 dL_law_223 rfl rfl ?_
  refine ev_iconst (v := 3) dL_law_224 (by decide) ?_
  refine ev_iadd dL_law_225 ?_
  refine ev_sld v3 ha3 dL_law_226 ?_
  refine ev_callV (ci := 11) (As := [.int a1, .int a2, .int a3]) (rest := []) 3 (kX11_worth (E := E) (d := 2) (QQ := (fun v τ n' => v = some (.int q.1) ∧ τ = xσ q.2 R ∧ n = n')) (Nat.le_refl _) hF hq (⟨rfl, rfl, rfl⟩)) my_X11_worth ⟨m_431, m_432, m_433⟩ cl_11 kd_0 (xl hF rfl) rfl rfl (Nat.le_of_ble_eq_true rfl) (Nat.le_of_ble_eq_true rfl) (Nat.le_of_ble_eq_true rfl) (Nat.le_trans (Nat.le_add_right _ _) hce) (Nat.le_trans (Nat.le_add_right _ _) hsl) dL_law_227 (fun v τ n' hv => ?_)
  obtain ⟨rfl, rfl, rfl⟩ := hv
  have hF1 := hF
  show Ev E (lwC b L xs E.2.2.2) (lwY nm) 230 [(0, .ref b), (1, .ref (E.2.2.2 + iC)), (2, .ref (E.2.2.2 + iM)), (3, .int i)] [.int q.1] (xσ q.2 R) n ce sl
  refine ev_aload_n 2 dL_law_230 rfl rfl ?_
  refine ev_aload_n 0 dL_law_231 rfl rfl ?_
  refine ev_iload_n 3 dL_law_232 rfl rfl ?_
  refine ev_iconst (v := 1) dL_law_233 (by decide) ?_
  refine ev_iadd dL_law_234 ?_
  refine ev_sld v1 ha1 dL_law_235 ?_
  refine ev_aload_n 0 dL_law_236 rfl rfl ?_
  refine ev_iload_n 3 dL_law_237 rfl rfl ?_
  refine ev_iconst (v := 2) dL_law_238 (by decide) ?_
  refine ev_iadd dL_law_239 ?_
  refine ev_sld v2 ha2 dL_law_240 ?_
  refine ev_aload_n 0 dL_law_241 rfl rfl ?_
  refine ev_iload_n 3 dL_law_242 rfl rfl ?_
  refine ev_iconst (v := 3) dL_law_243 (by decide) ?_
  refine ev_iadd dL_law_244 ?_
  refine ev_sld v3 ha3 dL_law_245 ?_
  refine ev_callV (ci := 12) (As := [.int a1, .int a2, .int a3]) (rest := [.int q.1]) 3 (kX12_worth (E := E) (d := 1) (QQ := (fun v τ n' => v = some (.int q2.1) ∧ τ = xσ q2.2 R ∧ n = n')) (Nat.le_refl _) hF1 hq2 (⟨rfl, rfl, rfl⟩)) my_X12_worth ⟨m_1452, m_1453, m_1454⟩ cl_12 kd_61 (xl hF1 rfl) rfl rfl (Nat.le_of_ble_eq_true rfl) (Nat.le_of_ble_eq_true rfl) (Nat.le_of_ble_eq_true rfl) (Nat.le_trans (Nat.le_add_right _ _) hce) (Nat.le_trans (Nat.le_add_right _ _) hsl) dL_law_246 (fun v τ n' hv => ?_)
  obtain ⟨rfl, rfl, rfl⟩ := hv
  show Ev E (lwC b L xs E.2.2.2) (lwY nm) 249 [(0, .ref b), (1, .ref (E.2.2.2 + iC)), (2, .ref (E.2.2.2 + iM)), (3, .int i)] [.int q2.1, .int q.1] (xσ q2.2 R) n ce sl
  exact ev_icmp_eq (tgt := 1515) dL_law_249 (by decide) (fun _ => ev_widen (Nat.le_add_right _ _) (Nat.le_add_right _ _) (hK _ _ _ hJ2)) (fun hne => absurd hr.symm hne)
set_option maxHeartbeats 4000000 in
set_option maxRecDepth 100000 in
theorem lwc_2 {E : xE} {b L : Nat} {xs : Nat → Int32} {nm : String} {J : xm → xr → Nat → Prop} (HS : lwS_2 J) (HJ : ∀ μ R n, J μ R n → xFin R n ∧ ∃ k, n = 107 + 2 * k) {i : Int32} {μ : xm} {R : xr} {n ce sl : Nat} (hce : ce + 2 ≤ 600000) (hsl : sl + 13 ≤ 7302250) (v1 : vp_in (i + 1) L) (v2 : vp_in (i + 2) L) (v3 : vp_in (i + 3) L) (v4 : vp_in (i + 4) L) (v5 : vp_in (i + 5) L) (v6 : vp_in (i + 6) L) (hJ : J μ R n) (hK : ∀ (ν : xm) (S : xr) (n' : Nat), J ν S n' → Ev E (lwC b L xs E.2.2.2) (lwY nm) 1515 [(0, .ref b), (1, .ref (E.2.2.2 + iC)), (2, .ref (E.2.2.2 + iM)), (3, .int i)] [] (xσ ν S) n' (ce + 2) (sl + 13)) : Ev E (lwC b L xs E.2.2.2) (lwY nm) 254 [(0, .ref b), (1, .ref (E.2.2.2 + iC)), (2, .ref (E.2.2.2 + iM)), (3, .int i)] [] (xσ μ R) n ce sl := by
  obtain ⟨hF, hn⟩ := HJ μ R n hJ
  obtain ⟨a1, ha1⟩ : ∃ a, xs (i + 1).toNatClampNeg = a := ⟨_, rfl⟩
  obtain ⟨a2, ha2⟩ : ∃ a, xs (i + 2).toNatClampNeg = a := ⟨_, rfl⟩
  obtain ⟨a3, ha3⟩ : ∃ a, xs (i + 3).toNatClampNeg = a := ⟨_, rfl⟩
  have HS := HS μ R n a1 a2 a3 hJ
  obtain ⟨q, hq, q2, hq2, hr, hJ2⟩ := HS
  refine ev_aload_n 1 dL_law_254 rfl rfl ?_
  refine ev_aload_n 0 dL_law_255 rfl rfl ?_
  refine ev_iload_n 3 dL_law_256 rfl rfl ?_
  refine ev_iconst (v := 1) dL_law_257 (by decide) ?_
  refine ev_iadd dL_law_258 ?_
  refine ev_sld v1 ha1 dL_law_259 ?_
  refine ev_aload_n 0 dL_law_260 rfl rfl ?_
  refine ev_iload_n 3 dL_law_261 rfl rfl ?_
  refine ev_iconst (v := 2) dL_law_262 (by decide) ?_
  refine ev_iadd dL_law_263 ?_
  refine ev_sld v2 ha2 dL_law_264 ?_
  refine ev_aload_n 0 dL_law_265 rfl rfl ?_
  refine ev_iload_n 3 dL_law_266 rfl rfl ?_
  refine ev_iconst (v := 3) dL_law_267 (by decide) ?_
  refine ev_iadd dL_law_268 ?_
  refine ev_sld v3 ha3 dL_law_269 ?_
  refine ev_callV (ci := 11) (As := [.int a1, .int a2, .int a3]) (rest := []) 3 (kX11_meeting (E := E) (d := 3) (QQ := (fun v τ n' => v = some (.int q.1) ∧ τ = xσ q.2.1 q.2.2.1 ∧ n' = q.2.2.2 ∧ xFin q.2.2.1 q.2.2.2)) (Nat.le_refl _) hF hn hq ((fun z => ⟨rfl, rfl, rfl, z⟩))) my_X11_meeting ⟨m_445, m_446, m_447⟩ cl_11 kd_0 (xl hF rfl) rfl rfl (Nat.le_of_ble_eq_true rfl) (Nat.le_of_ble_eq_true rfl) (Nat.le_of_ble_eq_true rfl) hce hsl dL_law_270 (fun v τ n' hv => ?_)
  obtain ⟨rfl, rfl, rfl, hF1⟩ := hv
  show Ev E (lwC b L xs E.2.2.2) (lwY nm) 273 [(0, .ref b), (1, .ref (E.2.2.2 + iC)), (2, .ref (E.2.2.2 + iM)), (3, .int i)] [.int q.1] (xσ q.2.1 q.2.2.1) q.2.2.2 (ce + 2) (sl + 13)
  refine ev_aload_n 2 dL_law_273 rfl rfl ?_
  refine ev_aload_n 0 dL_law_274 rfl rfl ?_
  refine ev_iload_n 3 dL_law_275 rfl rfl ?_
  refine ev_iconst (v := 1) dL_law_276 (by decide) ?_
  refine ev_iadd dL_law_277 ?_
  refine ev_sld v1 ha1 dL_law_278 ?_
  refine ev_aload_n 0 dL_law_279 rfl rfl ?_
  refine ev_iload_n 3 dL_law_280 rfl rfl ?_
  refine ev_iconst (v := 2) dL_law_281 (by decide) ?_
  refine ev_iadd dL_law_282 ?_
  refine ev_sld v2 ha2 dL_law_283 ?_
  refine ev_aload_n 0 dL_law_284 rfl rfl ?_
  refine ev_iload_n 3 dL_law_285 rfl rfl ?_
  refine ev_iconst (v := 3) dL_law_286 (by decide) ?_
  refine ev_iadd dL_law_287 ?_
  refine ev_sld v3 ha3 dL_law_288 ?_
  refine ev_callV (ci := 12) (As := [.int a1, .int a2, .int a3]) (rest := [.int q.1]) 3 (kX12_meeting (E := E) (d := 1) (QQ := (fun v τ n' => v = some (.int q2.1) ∧ τ = xσ q2.2 q.2.2.1 ∧ q.2.2.2 = n')) (Nat.le_refl _) hF1 hq2 (⟨rfl, rfl, rfl⟩)) my_X12_meeting ⟨m_1459, m_1460, m_1461⟩ cl_12 kd_61 (xl hF1 rfl) rfl rfl (Nat.le_of_ble_eq_true rfl) (Nat.le_of_ble_eq_true rfl) (Nat.le_of_ble_eq_true rfl) hce hsl dL_law_289 (fun v τ n' hv => ?_)
  obtain ⟨rfl, rfl, rfl⟩ := hv
  show Ev E (lwC b L xs E.2.2.2) (lwY nm) 292 [(0, .ref b), (1, .ref (E.2.2.2 + iC)), (2, .ref (E.2.2.2 + iM)), (3, .int i)] [.int q2.1, .int q.1] (xσ q2.2 q.2.2.1) q.2.2.2 (ce + 2) (sl + 13)
  exact ev_icmp_eq (tgt := 1515) dL_law_292 (by decide) (fun _ => hK _ _ _ hJ2) (fun hne => absurd hr.symm hne)
set_option maxHeartbeats 4000000 in
set_option maxRecDepth 100000 in
theorem lwc_3 {E : xE} {b L : Nat} {xs : Nat → Int32} {nm : String} {J : xm → xr → Nat → Prop} (HS : lwS_3 J) (HJ : ∀ μ R n, J μ R n → xFin R n ∧ ∃ k, n = 107 + 2 * k) {i : Int32} {μ : xm} {R : xr} {n ce sl : Nat} (hce : ce + 2 ≤ 600000) (hsl : sl + 13 ≤ 7302250) (v1 : vp_in (i + 1) L) (v2 : vp_in (i + 2) L) (v3 : vp_in (i + 3) L) (v4 : vp_in (i + 4) L) (v5 : vp_in (i + 5) L) (v6 : vp_in (i + 6) L) (hJ : J μ R n) (hK : ∀ (ν : xm) (S : xr) (n' : Nat), J ν S n' → Ev E (lwC b L xs E.2.2.2) (lwY nm) 1515 [(0, .ref b), (1, .ref (E.2.2.2 + iC)), (2, .ref (E.2.2.2 + iM)), (3, .int i)] [] (xσ ν S) n' (ce + 2) (sl + 13)) : Ev E (lwC b L xs E.2.2.2) (lwY nm) 297 [(0, .ref b), (1, .ref (E.2.2.2 + iC)), (2, .ref (E.2.2.2 + iM)), (3, .int i)] [] (xσ μ R) n ce sl := by
  obtain ⟨hF, hn⟩ := HJ μ R n hJ
  obtain ⟨a1, ha1⟩ : ∃ a, xs (i + 1).toNatClampNeg = a := ⟨_, rfl⟩
  obtain ⟨a2, ha2⟩ : ∃ a, xs (i + 2).toNatClampNeg = a := ⟨_, rfl⟩
  obtain ⟨a3, ha3⟩ : ∃ a, xs (i + 3).toNatClampNeg = a := ⟨_, rfl⟩
  have HS := HS μ R n a1 a2 a3 hJ
  obtain ⟨q, hq, q2, hq2, hr, hJ2⟩ := HS
  refine ev_aload_n 1 dL_law_297 rfl rfl ?_
  refine ev_aload_n 0 dL_law_298 rfl rfl ?_
  refine ev_iload_n 3 dL_law_299 rfl rfl ?_
  refine ev_iconst (v := 1) dL_law_300 (by decide) ?_
  refine ev_iadd dL_law_301 ?_
  refine ev_sld v1 ha1 dL_law_302 ?_
  refine ev_aload_n 0 dL_law_303 rfl rfl ?_
  refine ev_iload_n 3 dL_law_304 rfl rfl ?_
  refine ev_iconst (v := 2) dL_law_305 (by decide) ?_
  refine ev_iadd dL_law_306 ?_
  refine ev_sld v2 ha2 dL_law_307 ?_
  refine ev_aload_n 0 dL_law_308 rfl rfl ?_
  refine ev_iload_n 3 dL_law_309 rfl rfl ?_
  refine ev_iconst (v := 3) dL_law_310 (by decide) ?_
  refine ev_iadd dL_law_311 ?_
  refine ev_sld v3 ha3 dL_law_312 ?_
  refine ev_callV (ci := 11) (As := [.int a1, .int a2, .int a3]) (rest := []) 3 (kX11_came (E := E) (d := 1) (QQ := (fun v τ n' => v = some (.int q.1) ∧ τ = xσ q.2 R ∧ n = n')) (Nat.le_refl _) hF hq (⟨rfl, rfl, rfl⟩)) my_X11_came ⟨m_487, m_488, m_489⟩ cl_11 kd_0 (xl hF rfl) rfl rfl (Nat.le_of_ble_eq_true rfl) (Nat.le_of_ble_eq_true rfl) (Nat.le_of_ble_eq_true rfl) (Nat.le_trans (Nat.le_add_right _ _) hce) (Nat.le_trans (Nat.le_add_right _ _) hsl) dL_law_313 (fun v τ n' hv => ?_)
  obtain ⟨rfl, rfl, rfl⟩ := hv
  have hF1 := hF
  show Ev E (lwC b L xs E.2.2.2) (lwY nm) 316 [(0, .ref b), (1, .ref (E.2.2.2 + iC)), (2, .ref (E.2.2.2 + iM)), (3, .int i)] [.int q.1] (xσ q.2 R) n ce sl
  refine ev_aload_n 2 dL_law_316 rfl rfl ?_
  refine ev_aload_n 0 dL_law_317 rfl rfl ?_
  refine ev_iload_n 3 dL_law_318 rfl rfl ?_
  refine ev_iconst (v := 1) dL_law_319 (by decide) ?_
  refine ev_iadd dL_law_320 ?_
  refine ev_sld v1 ha1 dL_law_321 ?_
  refine ev_aload_n 0 dL_law_322 rfl rfl ?_
  refine ev_iload_n 3 dL_law_323 rfl rfl ?_
  refine ev_iconst (v := 2) dL_law_324 (by decide) ?_
  refine ev_iadd dL_law_325 ?_
  refine ev_sld v2 ha2 dL_law_326 ?_
  refine ev_aload_n 0 dL_law_327 rfl rfl ?_
  refine ev_iload_n 3 dL_law_328 rfl rfl ?_
  refine ev_iconst (v := 3) dL_law_329 (by decide) ?_
  refine ev_iadd dL_law_330 ?_
  refine ev_sld v3 ha3 dL_law_331 ?_
  refine ev_callV (ci := 12) (As := [.int a1, .int a2, .int a3]) (rest := [.int q.1]) 3 (kX12_came (E := E) (d := 2) (QQ := (fun v τ n' => v = some (.int q2.1) ∧ τ = xσ q2.2 R ∧ n = n')) (Nat.le_refl _) hF1 hq2 (⟨rfl, rfl, rfl⟩)) my_X12_came ⟨m_1466, m_1467, m_1468⟩ cl_12 kd_61 (xl hF1 rfl) rfl rfl (Nat.le_of_ble_eq_true rfl) (Nat.le_of_ble_eq_true rfl) (Nat.le_of_ble_eq_true rfl) (Nat.le_trans (Nat.le_add_right _ _) hce) (Nat.le_trans (Nat.le_add_right _ _) hsl) dL_law_332 (fun v τ n' hv => ?_)
  obtain ⟨rfl, rfl, rfl⟩ := hv
  show Ev E (lwC b L xs E.2.2.2) (lwY nm) 335 [(0, .ref b), (1, .ref (E.2.2.2 + iC)), (2, .ref (E.2.2.2 + iM)), (3, .int i)] [.int q2.1, .int q.1] (xσ q2.2 R) n ce sl
  exact ev_icmp_eq (tgt := 1515) dL_law_335 (by decide) (fun _ => ev_widen (Nat.le_add_right _ _) (Nat.le_add_right _ _) (hK _ _ _ hJ2)) (fun hne => absurd hr.symm hne)
set_option maxHeartbeats 4000000 in
set_option maxRecDepth 100000 in
theorem lwc_4 {E : xE} {b L : Nat} {xs : Nat → Int32} {nm : String} {J : xm → xr → Nat → Prop} (HS : lwS_4 J) (HJ : ∀ μ R n, J μ R n → xFin R n ∧ ∃ k, n = 107 + 2 * k) {i : Int32} {μ : xm} {R : xr} {n ce sl : Nat} (hce : ce + 2 ≤ 600000) (hsl : sl + 13 ≤ 7302250) (v1 : vp_in (i + 1) L) (v2 : vp_in (i + 2) L) (v3 : vp_in (i + 3) L) (v4 : vp_in (i + 4) L) (v5 : vp_in (i + 5) L) (v6 : vp_in (i + 6) L) (hJ : J μ R n) (hK : ∀ (ν : xm) (S : xr) (n' : Nat), J ν S n' → Ev E (lwC b L xs E.2.2.2) (lwY nm) 1515 [(0, .ref b), (1, .ref (E.2.2.2 + iC)), (2, .ref (E.2.2.2 + iM)), (3, .int i)] [] (xσ ν S) n' (ce + 2) (sl + 13)) : Ev E (lwC b L xs E.2.2.2) (lwY nm) 340 [(0, .ref b), (1, .ref (E.2.2.2 + iC)), (2, .ref (E.2.2.2 + iM)), (3, .int i)] [] (xσ μ R) n ce sl := by
  obtain ⟨hF, hn⟩ := HJ μ R n hJ
  obtain ⟨a1, ha1⟩ : ∃ a, xs (i + 1).toNatClampNeg = a := ⟨_, rfl⟩
  obtain ⟨a2, ha2⟩ : ∃ a, xs (i + 2).toNatClampNeg = a := ⟨_, rfl⟩
  obtain ⟨a3, ha3⟩ : ∃ a, xs (i + 3).toNatClampNeg = a := ⟨_, rfl⟩
  obtain ⟨a4, ha4⟩ : ∃ a, xs (i + 4).toNatClampNeg = a := ⟨_, rfl⟩
  obtain ⟨a5, ha5⟩ : ∃ a, xs (i + 5).toNatClampNeg = a := ⟨_, rfl⟩
  have HS := HS μ R n a1 a2 a3 a4 a5 hJ
  obtain ⟨q, hq, q2, hq2, hr, hJ2⟩ := HS
  refine ev_aload_n 1 dL_law_340 rfl rfl ?_
  refine ev_aload_n 0 dL_law_341 rfl rfl ?_
  refine ev_iload_n 3 dL_law_342 rfl rfl ?_
  refine ev_iconst (v := 1) dL_law_343 (by decide) ?_
  refine ev_iadd dL_law_344 ?_
  refine ev_sld v1 ha1 dL_law_345 ?_
  refine ev_aload_n 0 dL_law_346 rfl rfl ?_
  refine ev_iload_n 3 dL_law_347 rfl rfl ?_
  refine ev_iconst (v := 2) dL_law_348 (by decide) ?_
  refine ev_iadd dL_law_349 ?_
  refine ev_sld v2 ha2 dL_law_350 ?_
  refine ev_aload_n 0 dL_law_351 rfl rfl ?_
  refine ev_iload_n 3 dL_law_352 rfl rfl ?_
  refine ev_iconst (v := 3) dL_law_353 (by decide) ?_
  refine ev_iadd dL_law_354 ?_
  refine ev_sld v3 ha3 dL_law_355 ?_
  refine ev_aload_n 0 dL_law_356 rfl rfl ?_
  refine ev_iload_n 3 dL_law_357 rfl rfl ?_
  refine ev_iconst (v := 4) dL_law_358 (by decide) ?_
  refine ev_iadd dL_law_359 ?_
  refine ev_sld v4 ha4 dL_law_360 ?_
  refine ev_aload_n 0 dL_law_361 rfl rfl ?_
  refine ev_iload_n 3 dL_law_362 rfl rfl ?_
  refine ev_iconst (v := 5) dL_law_363 (by decide) ?_
  refine ev_iadd dL_law_364 ?_
  refine ev_sld v5 ha5 dL_law_365 ?_
  refine ev_callV (ci := 11) (As := [.int a1, .int a2, .int a3, .int a4, .int a5]) (rest := []) 5 (kX11_feed (E := E) (d := 1) (QQ := (fun v τ n' => v = some (.int q.1) ∧ τ = xσ q.2 R ∧ n = n')) (Nat.le_refl _) hF hq (⟨rfl, rfl, rfl⟩)) my_X11_feed ⟨m_507, m_508, m_509⟩ cl_11 kd_0 (xl hF rfl) rfl rfl (Nat.le_of_ble_eq_true rfl) (Nat.le_of_ble_eq_true rfl) (Nat.le_of_ble_eq_true rfl) (Nat.le_trans (Nat.le_add_right _ _) hce) (Nat.le_trans (Nat.le_add_right _ _) hsl) dL_law_366 (fun v τ n' hv => ?_)
  obtain ⟨rfl, rfl, rfl⟩ := hv
  have hF1 := hF
  show Ev E (lwC b L xs E.2.2.2) (lwY nm) 369 [(0, .ref b), (1, .ref (E.2.2.2 + iC)), (2, .ref (E.2.2.2 + iM)), (3, .int i)] [.int q.1] (xσ q.2 R) n ce sl
  refine ev_aload_n 2 dL_law_369 rfl rfl ?_
  refine ev_aload_n 0 dL_law_370 rfl rfl ?_
  refine ev_iload_n 3 dL_law_371 rfl rfl ?_
  refine ev_iconst (v := 1) dL_law_372 (by decide) ?_
  refine ev_iadd dL_law_373 ?_
  refine ev_sld v1 ha1 dL_law_374 ?_
  refine ev_aload_n 0 dL_law_375 rfl rfl ?_
  refine ev_iload_n 3 dL_law_376 rfl rfl ?_
  refine ev_iconst (v := 2) dL_law_377 (by decide) ?_
  refine ev_iadd dL_law_378 ?_
  refine ev_sld v2 ha2 dL_law_379 ?_
  refine ev_aload_n 0 dL_law_380 rfl rfl ?_
  refine ev_iload_n 3 dL_law_381 rfl rfl ?_
  refine ev_iconst (v := 3) dL_law_382 (by decide) ?_
  refine ev_iadd dL_law_383 ?_
  refine ev_sld v3 ha3 dL_law_384 ?_
  refine ev_aload_n 0 dL_law_385 rfl rfl ?_
  refine ev_iload_n 3 dL_law_386 rfl rfl ?_
  refine ev_iconst (v := 4) dL_law_387 (by decide) ?_
  refine ev_iadd dL_law_388 ?_
  refine ev_sld v4 ha4 dL_law_389 ?_
  refine ev_aload_n 0 dL_law_390 rfl rfl ?_
  refine ev_iload_n 3 dL_law_391 rfl rfl ?_
  refine ev_iconst (v := 5) dL_law_392 (by decide) ?_
  refine ev_iadd dL_law_393 ?_
  refine ev_sld v5 ha5 dL_law_394 ?_
  refine ev_callV (ci := 12) (As := [.int a1, .int a2, .int a3, .int a4, .int a5]) (rest := [.int q.1]) 5 (kX12_feed (E := E) (d := 1) (QQ := (fun v τ n' => v = some (.int q2.1) ∧ τ = xσ q2.2 R ∧ n = n')) (Nat.le_refl _) hF1 hq2 (⟨rfl, rfl, rfl⟩)) my_X12_feed ⟨m_1518, m_1519, m_1520⟩ cl_12 kd_61 (xl hF1 rfl) rfl rfl (Nat.le_of_ble_eq_true rfl) (Nat.le_of_ble_eq_true rfl) (Nat.le_of_ble_eq_true rfl) (Nat.le_trans (Nat.le_add_right _ _) hce) (Nat.le_trans (Nat.le_add_right _ _) hsl) dL_law_395 (fun v τ n' hv => ?_)
  obtain ⟨rfl, rfl, rfl⟩ := hv
  show Ev E (lwC b L xs E.2.2.2) (lwY nm) 398 [(0, .ref b), (1, .ref (E.2.2.2 + iC)), (2, .ref (E.2.2.2 + iM)), (3, .int i)] [.int q2.1, .int q.1] (xσ q2.2 R) n ce sl
  exact ev_icmp_eq (tgt := 1515) dL_law_398 (by decide) (fun _ => ev_widen (Nat.le_add_right _ _) (Nat.le_add_right _ _) (hK _ _ _ hJ2)) (fun hne => absurd hr.symm hne)
set_option maxHeartbeats 4000000 in
set_option maxRecDepth 100000 in
theorem lwc_5 {E : xE} {b L : Nat} {xs : Nat → Int32} {nm : String} {J : xm → xr → Nat → Prop} (HS : lwS_5 J) (HJ : ∀ μ R n, J μ R n → xFin R n ∧ ∃ k, n = 107 + 2 * k) {i : Int32} {μ : xm} {R : xr} {n ce sl : Nat} (hce : ce + 2 ≤ 600000) (hsl : sl + 13 ≤ 7302250) (v1 : vp_in (i + 1) L) (v2 : vp_in (i + 2) L) (v3 : vp_in (i + 3) L) (v4 : vp_in (i + 4) L) (v5 : vp_in (i + 5) L) (v6 : vp_in (i + 6) L) (hJ : J μ R n) (hK : ∀ (ν : xm) (S : xr) (n' : Nat), J ν S n' → Ev E (lwC b L xs E.2.2.2) (lwY nm) 1515 [(0, .ref b), (1, .ref (E.2.2.2 + iC)), (2, .ref (E.2.2.2 + iM)), (3, .int i)] [] (xσ ν S) n' (ce + 2) (sl + 13)) : Ev E (lwC b L xs E.2.2.2) (lwY nm) 403 [(0, .ref b), (1, .ref (E.2.2.2 + iC)), (2, .ref (E.2.2.2 + iM)), (3, .int i)] [] (xσ μ R) n ce sl := by
  obtain ⟨hF, hn⟩ := HJ μ R n hJ
  obtain ⟨a1, ha1⟩ : ∃ a, xs (i + 1).toNatClampNeg = a := ⟨_, rfl⟩
  have HS := HS μ R n a1 hJ
  obtain ⟨q, hq, q2, hq2, hr, hJ2⟩ := HS
  refine ev_aload_n 1 dL_law_403 rfl rfl ?_
  refine ev_aload_n 0 dL_law_404 rfl rfl ?_
  refine ev_iload_n 3 dL_law_405 rfl rfl ?_
  refine ev_iconst (v := 1) dL_law_406 (by decide) ?_
  refine ev_iadd dL_law_407 ?_
  refine ev_sld v1 ha1 dL_law_408 ?_
  refine ev_callV (ci := 11) (As := [.int a1]) (rest := []) 1 (kX11_law (E := E) (d := 63) (QQ := (fun v τ n' => v = some (.int q.1) ∧ τ = xσ q.2.1 q.2.2 ∧ n = n' ∧ xFin q.2.2 n)) (Nat.le_refl _) hF hq ((fun z => ⟨rfl, rfl, rfl, z⟩))) my_X11_law ⟨m_519, m_520, m_521⟩ cl_11 kd_0 (xl hF rfl) rfl rfl (Nat.le_of_ble_eq_true rfl) (Nat.le_of_ble_eq_true rfl) (Nat.le_of_ble_eq_true rfl) (Nat.le_trans (Nat.le_add_right _ _) hce) (Nat.le_trans (Nat.le_add_right _ _) hsl) dL_law_409 (fun v τ n' hv => ?_)
  obtain ⟨rfl, rfl, rfl, hF1⟩ := hv
  show Ev E (lwC b L xs E.2.2.2) (lwY nm) 412 [(0, .ref b), (1, .ref (E.2.2.2 + iC)), (2, .ref (E.2.2.2 + iM)), (3, .int i)] [.int q.1] (xσ q.2.1 q.2.2) n ce sl
  refine ev_aload_n 2 dL_law_412 rfl rfl ?_
  refine ev_aload_n 0 dL_law_413 rfl rfl ?_
  refine ev_iload_n 3 dL_law_414 rfl rfl ?_
  refine ev_iconst (v := 1) dL_law_415 (by decide) ?_
  refine ev_iadd dL_law_416 ?_
  refine ev_sld v1 ha1 dL_law_417 ?_
  refine ev_callV (ci := 12) (As := [.int a1]) (rest := [.int q.1]) 1 (kX12_law (E := E) (d := 8) (QQ := (fun v τ n' => v = some (.int q2.1) ∧ τ = xσ q2.2 q.2.2 ∧ n = n')) (Nat.le_refl _) hF1 hq2 (⟨rfl, rfl, rfl⟩)) my_X12_law ⟨m_1526, m_1527, m_1528⟩ cl_12 kd_61 (xl hF1 rfl) rfl rfl (Nat.le_of_ble_eq_true rfl) (Nat.le_of_ble_eq_true rfl) (Nat.le_of_ble_eq_true rfl) (Nat.le_trans (Nat.le_add_right _ _) hce) (Nat.le_trans (Nat.le_add_right _ _) hsl) dL_law_418 (fun v τ n' hv => ?_)
  obtain ⟨rfl, rfl, rfl⟩ := hv
  show Ev E (lwC b L xs E.2.2.2) (lwY nm) 421 [(0, .ref b), (1, .ref (E.2.2.2 + iC)), (2, .ref (E.2.2.2 + iM)), (3, .int i)] [.int q2.1, .int q.1] (xσ q2.2 q.2.2) n ce sl
  exact ev_icmp_eq (tgt := 1515) dL_law_421 (by decide) (fun _ => ev_widen (Nat.le_add_right _ _) (Nat.le_add_right _ _) (hK _ _ _ hJ2)) (fun hne => absurd hr.symm hne)
set_option maxHeartbeats 4000000 in
set_option maxRecDepth 100000 in
theorem lwc_6 {E : xE} {b L : Nat} {xs : Nat → Int32} {nm : String} {J : xm → xr → Nat → Prop} (HS : lwS_6 J) (HJ : ∀ μ R n, J μ R n → xFin R n ∧ ∃ k, n = 107 + 2 * k) {i : Int32} {μ : xm} {R : xr} {n ce sl : Nat} (hce : ce + 2 ≤ 600000) (hsl : sl + 13 ≤ 7302250) (v1 : vp_in (i + 1) L) (v2 : vp_in (i + 2) L) (v3 : vp_in (i + 3) L) (v4 : vp_in (i + 4) L) (v5 : vp_in (i + 5) L) (v6 : vp_in (i + 6) L) (hJ : J μ R n) (hK : ∀ (ν : xm) (S : xr) (n' : Nat), J ν S n' → Ev E (lwC b L xs E.2.2.2) (lwY nm) 1515 [(0, .ref b), (1, .ref (E.2.2.2 + iC)), (2, .ref (E.2.2.2 + iM)), (3, .int i)] [] (xσ ν S) n' (ce + 2) (sl + 13)) : Ev E (lwC b L xs E.2.2.2) (lwY nm) 426 [(0, .ref b), (1, .ref (E.2.2.2 + iC)), (2, .ref (E.2.2.2 + iM)), (3, .int i)] [] (xσ μ R) n ce sl := by
  obtain ⟨hF, hn⟩ := HJ μ R n hJ
  obtain ⟨a1, ha1⟩ : ∃ a, xs (i + 1).toNatClampNeg = a := ⟨_, rfl⟩
  have HS := HS μ R n a1 hJ
  obtain ⟨q, hq, q2, hq2, hr, hJ2⟩ := HS
  refine ev_aload_n 1 dL_law_426 rfl rfl ?_
  refine ev_aload_n 0 dL_law_427 rfl rfl ?_
  refine ev_iload_n 3 dL_law_428 rfl rfl ?_
  refine ev_iconst (v := 1) dL_law_429 (by decide) ?_
  refine ev_iadd dL_law_430 ?_
  refine ev_sld v1 ha1 dL_law_431 ?_
  refine ev_callV (ci := 11) (As := [.int a1]) (rest := []) 1 (kX11_begins (E := E) (d := 2) (QQ := (fun v τ n' => v = some (.int q) ∧ τ = xσ μ R ∧ n = n')) (Nat.le_refl _) hF hq (⟨rfl, rfl, rfl⟩)) my_X11_begins ⟨m_617, m_618, m_619⟩ cl_11 kd_0 (xl hF rfl) rfl rfl (Nat.le_of_ble_eq_true rfl) (Nat.le_of_ble_eq_true rfl) (Nat.le_of_ble_eq_true rfl) (Nat.le_trans (Nat.le_add_right _ _) hce) (Nat.le_trans (Nat.le_add_right _ _) hsl) dL_law_432 (fun v τ n' hv => ?_)
  obtain ⟨rfl, rfl, rfl⟩ := hv
  have hF1 := hF
  show Ev E (lwC b L xs E.2.2.2) (lwY nm) 435 [(0, .ref b), (1, .ref (E.2.2.2 + iC)), (2, .ref (E.2.2.2 + iM)), (3, .int i)] [.int q] (xσ μ R) n ce sl
  refine ev_aload_n 2 dL_law_435 rfl rfl ?_
  refine ev_aload_n 0 dL_law_436 rfl rfl ?_
  refine ev_iload_n 3 dL_law_437 rfl rfl ?_
  refine ev_iconst (v := 1) dL_law_438 (by decide) ?_
  refine ev_iadd dL_law_439 ?_
  refine ev_sld v1 ha1 dL_law_440 ?_
  refine ev_callV (ci := 12) (As := [.int a1]) (rest := [.int q]) 1 (kX12_begins (E := E) (d := 3) (QQ := (fun v τ n' => v = some (.int q2) ∧ τ = xσ μ R ∧ n = n')) (Nat.le_refl _) hF1 hq2 (⟨rfl, rfl, rfl⟩)) my_X12_begins ⟨m_1478, m_1479, m_1480⟩ cl_12 kd_61 (xl hF1 rfl) rfl rfl (Nat.le_of_ble_eq_true rfl) (Nat.le_of_ble_eq_true rfl) (Nat.le_of_ble_eq_true rfl) (Nat.le_trans (Nat.le_add_right _ _) hce) (Nat.le_trans (Nat.le_add_right _ _) hsl) dL_law_441 (fun v τ n' hv => ?_)
  obtain ⟨rfl, rfl, rfl⟩ := hv
  show Ev E (lwC b L xs E.2.2.2) (lwY nm) 444 [(0, .ref b), (1, .ref (E.2.2.2 + iC)), (2, .ref (E.2.2.2 + iM)), (3, .int i)] [.int q2, .int q] (xσ μ R) n ce sl
  exact ev_icmp_eq (tgt := 1515) dL_law_444 (by decide) (fun _ => ev_widen (Nat.le_add_right _ _) (Nat.le_add_right _ _) (hK _ _ _ hJ2)) (fun hne => absurd hr.symm hne)
set_option maxHeartbeats 4000000 in
set_option maxRecDepth 100000 in
theorem lwc_7 {E : xE} {b L : Nat} {xs : Nat → Int32} {nm : String} {J : xm → xr → Nat → Prop} (HS : lwS_7 J) (HJ : ∀ μ R n, J μ R n → xFin R n ∧ ∃ k, n = 107 + 2 * k) {i : Int32} {μ : xm} {R : xr} {n ce sl : Nat} (hce : ce + 2 ≤ 600000) (hsl : sl + 13 ≤ 7302250) (v1 : vp_in (i + 1) L) (v2 : vp_in (i + 2) L) (v3 : vp_in (i + 3) L) (v4 : vp_in (i + 4) L) (v5 : vp_in (i + 5) L) (v6 : vp_in (i + 6) L) (hJ : J μ R n) (hK : ∀ (ν : xm) (S : xr) (n' : Nat), J ν S n' → Ev E (lwC b L xs E.2.2.2) (lwY nm) 1515 [(0, .ref b), (1, .ref (E.2.2.2 + iC)), (2, .ref (E.2.2.2 + iM)), (3, .int i)] [] (xσ ν S) n' (ce + 2) (sl + 13)) : Ev E (lwC b L xs E.2.2.2) (lwY nm) 449 [(0, .ref b), (1, .ref (E.2.2.2 + iC)), (2, .ref (E.2.2.2 + iM)), (3, .int i)] [] (xσ μ R) n ce sl := by
  obtain ⟨hF, hn⟩ := HJ μ R n hJ
  obtain ⟨a1, ha1⟩ : ∃ a, xs (i + 1).toNatClampNeg = a := ⟨_, rfl⟩
  obtain ⟨a2, ha2⟩ : ∃ a, xs (i + 2).toNatClampNeg = a := ⟨_, rfl⟩
  obtain ⟨a3, ha3⟩ : ∃ a, xs (i + 3).toNatClampNeg = a := ⟨_, rfl⟩
  have HS := HS μ R n a1 a2 a3 hJ
  obtain ⟨q, hq, q2, hq2, hr, hJ2⟩ := HS
  refine ev_aload_n 1 dL_law_449 rfl rfl ?_
  refine ev_aload_n 0 dL_law_450 rfl rfl ?_
  refine ev_iload_n 3 dL_law_451 rfl rfl ?_
  refine ev_iconst (v := 1) dL_law_452 (by decide) ?_
  refine ev_iadd dL_law_453 ?_
  refine ev_sld v1 ha1 dL_law_454 ?_
  refine ev_aload_n 0 dL_law_455 rfl rfl ?_
  refine ev_iload_n 3 dL_law_456 rfl rfl ?_
  refine ev_iconst (v := 2) dL_law_457 (by decide) ?_
  refine ev_iadd dL_law_458 ?_
  refine ev_sld v2 ha2 dL_law_459 ?_
  refine ev_aload_n 0 dL_law_460 rfl rfl ?_
  refine ev_iload_n 3 dL_law_461 rfl rfl ?_
  refine ev_iconst (v := 3) dL_law_462 (by decide) ?_
  refine ev_iadd dL_law_463 ?_
  refine ev_sld v3 ha3 dL_law_464 ?_
  refine ev_callV (ci := 11) (As := [.int a1, .int a2, .int a3]) (rest := []) 3 (kX11_keeps (E := E) (d := 3) (QQ := (fun v τ n' => v = some (.int q) ∧ τ = xσ μ R ∧ n = n')) (Nat.le_refl _) hF hq (⟨rfl, rfl, rfl⟩)) my_X11_keeps ⟨m_627, m_628, m_629⟩ cl_11 kd_0 (xl hF rfl) rfl rfl (Nat.le_of_ble_eq_true rfl) (Nat.le_of_ble_eq_true rfl) (Nat.le_of_ble_eq_true rfl) (Nat.le_trans (Nat.le_add_right _ _) hce) (Nat.le_trans (Nat.le_add_right _ _) hsl) dL_law_465 (fun v τ n' hv => ?_)
  obtain ⟨rfl, rfl, rfl⟩ := hv
  have hF1 := hF
  show Ev E (lwC b L xs E.2.2.2) (lwY nm) 468 [(0, .ref b), (1, .ref (E.2.2.2 + iC)), (2, .ref (E.2.2.2 + iM)), (3, .int i)] [.int q] (xσ μ R) n ce sl
  refine ev_aload_n 2 dL_law_468 rfl rfl ?_
  refine ev_aload_n 0 dL_law_469 rfl rfl ?_
  refine ev_iload_n 3 dL_law_470 rfl rfl ?_
  refine ev_iconst (v := 1) dL_law_471 (by decide) ?_
  refine ev_iadd dL_law_472 ?_
  refine ev_sld v1 ha1 dL_law_473 ?_
  refine ev_aload_n 0 dL_law_474 rfl rfl ?_
  refine ev_iload_n 3 dL_law_475 rfl rfl ?_
  refine ev_iconst (v := 2) dL_law_476 (by decide) ?_
  refine ev_iadd dL_law_477 ?_
  refine ev_sld v2 ha2 dL_law_478 ?_
  refine ev_aload_n 0 dL_law_479 rfl rfl ?_
  refine ev_iload_n 3 dL_law_480 rfl rfl ?_
  refine ev_iconst (v := 3) dL_law_481 (by decide) ?_
  refine ev_iadd dL_law_482 ?_
  refine ev_sld v3 ha3 dL_law_483 ?_
  refine ev_callV (ci := 12) (As := [.int a1, .int a2, .int a3]) (rest := [.int q]) 3 (kX12_keeps (E := E) (d := 2) (QQ := (fun v τ n' => v = some (.int q2) ∧ τ = xσ μ R ∧ n = n')) (Nat.le_refl _) hF1 hq2 (⟨rfl, rfl, rfl⟩)) my_X12_keeps ⟨m_1490, m_1491, m_1492⟩ cl_12 kd_61 (xl hF1 rfl) rfl rfl (Nat.le_of_ble_eq_true rfl) (Nat.le_of_ble_eq_true rfl) (Nat.le_of_ble_eq_true rfl) (Nat.le_trans (Nat.le_add_right _ _) hce) (Nat.le_trans (Nat.le_add_right _ _) hsl) dL_law_484 (fun v τ n' hv => ?_)
  obtain ⟨rfl, rfl, rfl⟩ := hv
  show Ev E (lwC b L xs E.2.2.2) (lwY nm) 487 [(0, .ref b), (1, .ref (E.2.2.2 + iC)), (2, .ref (E.2.2.2 + iM)), (3, .int i)] [.int q2, .int q] (xσ μ R) n ce sl
  exact ev_icmp_eq (tgt := 1515) dL_law_487 (by decide) (fun _ => ev_widen (Nat.le_add_right _ _) (Nat.le_add_right _ _) (hK _ _ _ hJ2)) (fun hne => absurd hr.symm hne)
set_option maxHeartbeats 4000000 in
set_option maxRecDepth 100000 in
theorem lwc_8 {E : xE} {b L : Nat} {xs : Nat → Int32} {nm : String} {J : xm → xr → Nat → Prop} (HS : lwS_8 J) (HJ : ∀ μ R n, J μ R n → xFin R n ∧ ∃ k, n = 107 + 2 * k) {i : Int32} {μ : xm} {R : xr} {n ce sl : Nat} (hce : ce + 2 ≤ 600000) (hsl : sl + 13 ≤ 7302250) (v1 : vp_in (i + 1) L) (v2 : vp_in (i + 2) L) (v3 : vp_in (i + 3) L) (v4 : vp_in (i + 4) L) (v5 : vp_in (i + 5) L) (v6 : vp_in (i + 6) L) (hJ : J μ R n) (hK : ∀ (ν : xm) (S : xr) (n' : Nat), J ν S n' → Ev E (lwC b L xs E.2.2.2) (lwY nm) 1515 [(0, .ref b), (1, .ref (E.2.2.2 + iC)), (2, .ref (E.2.2.2 + iM)), (3, .int i)] [] (xσ ν S) n' (ce + 2) (sl + 13)) : Ev E (lwC b L xs E.2.2.2) (lwY nm) 492 [(0, .ref b), (1, .ref (E.2.2.2 + iC)), (2, .ref (E.2.2.2 + iM)), (3, .int i)] [] (xσ μ R) n ce sl := by
  obtain ⟨hF, hn⟩ := HJ μ R n hJ
  obtain ⟨a1, ha1⟩ : ∃ a, xs (i + 1).toNatClampNeg = a := ⟨_, rfl⟩
  obtain ⟨a2, ha2⟩ : ∃ a, xs (i + 2).toNatClampNeg = a := ⟨_, rfl⟩
  obtain ⟨a3, ha3⟩ : ∃ a, xs (i + 3).toNatClampNeg = a := ⟨_, rfl⟩
  have HS := HS μ R n a1 a2 a3 hJ
  obtain ⟨q, hq, q2, hq2, hr, hJ2⟩ := HS
  refine ev_aload_n 1 dL_law_492 rfl rfl ?_
  refine ev_aload_n 0 dL_law_493 rfl rfl ?_
  refine ev_iload_n 3 dL_law_494 rfl rfl ?_
  refine ev_iconst (v := 1) dL_law_495 (by decide) ?_
  refine ev_iadd dL_law_496 ?_
  refine ev_sld v1 ha1 dL_law_497 ?_
  refine ev_aload_n 0 dL_law_498 rfl rfl ?_
  refine ev_iload_n 3 dL_law_499 rfl rfl ?_
  refine ev_iconst (v := 2) dL_law_500 (by decide) ?_
  refine ev_iadd dL_law_501 ?_
  refine ev_sld v2 ha2 dL_law_502 ?_
  refine ev_aload_n 0 dL_law_503 rfl rfl ?_
  refine ev_iload_n 3 dL_law_504 rfl rfl ?_
  refine ev_iconst (v := 3) dL_law_505 (by decide) ?_
  refine ev_iadd dL_law_506 ?_
  refine ev_sld v3 ha3 dL_law_507 ?_
  refine ev_callV (ci := 11) (As := [.int a1, .int a2, .int a3]) (rest := []) 3 (kX11_kept (E := E) (d := 4) (QQ := (fun v τ n' => v = some (.int q) ∧ τ = xσ μ R ∧ n = n')) (Nat.le_refl _) hF hq (⟨rfl, rfl, rfl⟩)) my_X11_kept ⟨m_640, m_641, m_642⟩ cl_11 kd_0 (xl hF rfl) rfl rfl (Nat.le_of_ble_eq_true rfl) (Nat.le_of_ble_eq_true rfl) (Nat.le_of_ble_eq_true rfl) (Nat.le_trans (Nat.le_add_right _ _) hce) (Nat.le_trans (Nat.le_add_right _ _) hsl) dL_law_508 (fun v τ n' hv => ?_)
  obtain ⟨rfl, rfl, rfl⟩ := hv
  have hF1 := hF
  show Ev E (lwC b L xs E.2.2.2) (lwY nm) 511 [(0, .ref b), (1, .ref (E.2.2.2 + iC)), (2, .ref (E.2.2.2 + iM)), (3, .int i)] [.int q] (xσ μ R) n ce sl
  refine ev_aload_n 2 dL_law_511 rfl rfl ?_
  refine ev_aload_n 0 dL_law_512 rfl rfl ?_
  refine ev_iload_n 3 dL_law_513 rfl rfl ?_
  refine ev_iconst (v := 1) dL_law_514 (by decide) ?_
  refine ev_iadd dL_law_515 ?_
  refine ev_sld v1 ha1 dL_law_516 ?_
  refine ev_aload_n 0 dL_law_517 rfl rfl ?_
  refine ev_iload_n 3 dL_law_518 rfl rfl ?_
  refine ev_iconst (v := 2) dL_law_519 (by decide) ?_
  refine ev_iadd dL_law_520 ?_
  refine ev_sld v2 ha2 dL_law_521 ?_
  refine ev_aload_n 0 dL_law_522 rfl rfl ?_
  refine ev_iload_n 3 dL_law_523 rfl rfl ?_
  refine ev_iconst (v := 3) dL_law_524 (by decide) ?_
  refine ev_iadd dL_law_525 ?_
  refine ev_sld v3 ha3 dL_law_526 ?_
  refine ev_callV (ci := 12) (As := [.int a1, .int a2, .int a3]) (rest := [.int q]) 3 (kX12_kept (E := E) (d := 5) (QQ := (fun v τ n' => v = some (.int q2) ∧ τ = xσ μ R ∧ n = n')) (Nat.le_refl _) hF1 hq2 (⟨rfl, rfl, rfl⟩)) my_X12_kept ⟨m_1498, m_1499, m_1500⟩ cl_12 kd_61 (xl hF1 rfl) rfl rfl (Nat.le_of_ble_eq_true rfl) (Nat.le_of_ble_eq_true rfl) (Nat.le_of_ble_eq_true rfl) (Nat.le_trans (Nat.le_add_right _ _) hce) (Nat.le_trans (Nat.le_add_right _ _) hsl) dL_law_527 (fun v τ n' hv => ?_)
  obtain ⟨rfl, rfl, rfl⟩ := hv
  show Ev E (lwC b L xs E.2.2.2) (lwY nm) 530 [(0, .ref b), (1, .ref (E.2.2.2 + iC)), (2, .ref (E.2.2.2 + iM)), (3, .int i)] [.int q2, .int q] (xσ μ R) n ce sl
  exact ev_icmp_eq (tgt := 1515) dL_law_530 (by decide) (fun _ => ev_widen (Nat.le_add_right _ _) (Nat.le_add_right _ _) (hK _ _ _ hJ2)) (fun hne => absurd hr.symm hne)
set_option maxHeartbeats 4000000 in
set_option maxRecDepth 100000 in
theorem lwc_9 {E : xE} {b L : Nat} {xs : Nat → Int32} {nm : String} {J : xm → xr → Nat → Prop} (HS : lwS_9 J) (HJ : ∀ μ R n, J μ R n → xFin R n ∧ ∃ k, n = 107 + 2 * k) {i : Int32} {μ : xm} {R : xr} {n ce sl : Nat} (hce : ce + 2 ≤ 600000) (hsl : sl + 13 ≤ 7302250) (v1 : vp_in (i + 1) L) (v2 : vp_in (i + 2) L) (v3 : vp_in (i + 3) L) (v4 : vp_in (i + 4) L) (v5 : vp_in (i + 5) L) (v6 : vp_in (i + 6) L) (hJ : J μ R n) (hK : ∀ (ν : xm) (S : xr) (n' : Nat), J ν S n' → Ev E (lwC b L xs E.2.2.2) (lwY nm) 1515 [(0, .ref b), (1, .ref (E.2.2.2 + iC)), (2, .ref (E.2.2.2 + iM)), (3, .int i)] [] (xσ ν S) n' (ce + 2) (sl + 13)) : Ev E (lwC b L xs E.2.2.2) (lwY nm) 535 [(0, .ref b), (1, .ref (E.2.2.2 + iC)), (2, .ref (E.2.2.2 + iM)), (3, .int i)] [] (xσ μ R) n ce sl := by
  obtain ⟨hF, hn⟩ := HJ μ R n hJ
  obtain ⟨a1, ha1⟩ : ∃ a, xs (i + 1).toNatClampNeg = a := ⟨_, rfl⟩
  obtain ⟨a2, ha2⟩ : ∃ a, xs (i + 2).toNatClampNeg = a := ⟨_, rfl⟩
  obtain ⟨a3, ha3⟩ : ∃ a, xs (i + 3).toNatClampNeg = a := ⟨_, rfl⟩
  obtain ⟨a4, ha4⟩ : ∃ a, xs (i + 4).toNatClampNeg = a := ⟨_, rfl⟩
  have HS := HS μ R n a1 a2 a3 a4 hJ
  obtain ⟨q, hq, q2, hq2, hr, hJ2⟩ := HS
  refine ev_aload_n 1 dL_law_535 rfl rfl ?_
  refine ev_aload_n 0 dL_law_536 rfl rfl ?_
  refine ev_iload_n 3 dL_law_537 rfl rfl ?_
  refine ev_iconst (v := 1) dL_law_538 (by decide) ?_
  refine ev_iadd dL_law_539 ?_
  refine ev_sld v1 ha1 dL_law_540 ?_
  refine ev_aload_n 0 dL_law_541 rfl rfl ?_
  refine ev_iload_n 3 dL_law_542 rfl rfl ?_
  refine ev_iconst (v := 2) dL_law_543 (by decide) ?_
  refine ev_iadd dL_law_544 ?_
  refine ev_sld v2 ha2 dL_law_545 ?_
  refine ev_aload_n 0 dL_law_546 rfl rfl ?_
  refine ev_iload_n 3 dL_law_547 rfl rfl ?_
  refine ev_iconst (v := 3) dL_law_548 (by decide) ?_
  refine ev_iadd dL_law_549 ?_
  refine ev_sld v3 ha3 dL_law_550 ?_
  refine ev_aload_n 0 dL_law_551 rfl rfl ?_
  refine ev_iload_n 3 dL_law_552 rfl rfl ?_
  refine ev_iconst (v := 4) dL_law_553 (by decide) ?_
  refine ev_iadd dL_law_554 ?_
  refine ev_sld v4 ha4 dL_law_555 ?_
  refine ev_callV (ci := 11) (As := [.int a1, .int a2, .int a3, .int a4]) (rest := []) 4 (kX11_owes (E := E) (d := 5) (QQ := (fun v τ n' => v = some (.int q.1) ∧ τ = xσ q.2 R ∧ n = n')) (Nat.le_refl _) hF hq (⟨rfl, rfl, rfl⟩)) my_X11_owes ⟨m_667, m_668, m_669⟩ cl_11 kd_0 (xl hF rfl) rfl rfl (Nat.le_of_ble_eq_true rfl) (Nat.le_of_ble_eq_true rfl) (Nat.le_of_ble_eq_true rfl) (Nat.le_trans (Nat.le_add_right _ _) hce) (Nat.le_trans (Nat.le_add_right _ _) hsl) dL_law_556 (fun v τ n' hv => ?_)
  obtain ⟨rfl, rfl, rfl⟩ := hv
  have hF1 := hF
  show Ev E (lwC b L xs E.2.2.2) (lwY nm) 559 [(0, .ref b), (1, .ref (E.2.2.2 + iC)), (2, .ref (E.2.2.2 + iM)), (3, .int i)] [.int q.1] (xσ q.2 R) n ce sl
  refine ev_aload_n 2 dL_law_559 rfl rfl ?_
  refine ev_aload_n 0 dL_law_560 rfl rfl ?_
  refine ev_iload_n 3 dL_law_561 rfl rfl ?_
  refine ev_iconst (v := 1) dL_law_562 (by decide) ?_
  refine ev_iadd dL_law_563 ?_
  refine ev_sld v1 ha1 dL_law_564 ?_
  refine ev_aload_n 0 dL_law_565 rfl rfl ?_
  refine ev_iload_n 3 dL_law_566 rfl rfl ?_
  refine ev_iconst (v := 2) dL_law_567 (by decide) ?_
  refine ev_iadd dL_law_568 ?_
  refine ev_sld v2 ha2 dL_law_569 ?_
  refine ev_aload_n 0 dL_law_570 rfl rfl ?_
  refine ev_iload_n 3 dL_law_571 rfl rfl ?_
  refine ev_iconst (v := 3) dL_law_572 (by decide) ?_
  refine ev_iadd dL_law_573 ?_
  refine ev_sld v3 ha3 dL_law_574 ?_
  refine ev_aload_n 0 dL_law_575 rfl rfl ?_
  refine ev_iload_n 3 dL_law_576 rfl rfl ?_
  refine ev_iconst (v := 4) dL_law_577 (by decide) ?_
  refine ev_iadd dL_law_578 ?_
  refine ev_sld v4 ha4 dL_law_579 ?_
  refine ev_callV (ci := 12) (As := [.int a1, .int a2, .int a3, .int a4]) (rest := [.int q.1]) 4 (kX12_owes (E := E) (d := 7) (QQ := (fun v τ n' => v = some (.int q2.1) ∧ τ = xσ q2.2 R ∧ n = n')) (Nat.le_refl _) hF1 hq2 (⟨rfl, rfl, rfl⟩)) my_X12_owes ⟨m_1609, m_1610, m_1611⟩ cl_12 kd_61 (xl hF1 rfl) rfl rfl (Nat.le_of_ble_eq_true rfl) (Nat.le_of_ble_eq_true rfl) (Nat.le_of_ble_eq_true rfl) (Nat.le_trans (Nat.le_add_right _ _) hce) (Nat.le_trans (Nat.le_add_right _ _) hsl) dL_law_580 (fun v τ n' hv => ?_)
  obtain ⟨rfl, rfl, rfl⟩ := hv
  show Ev E (lwC b L xs E.2.2.2) (lwY nm) 583 [(0, .ref b), (1, .ref (E.2.2.2 + iC)), (2, .ref (E.2.2.2 + iM)), (3, .int i)] [.int q2.1, .int q.1] (xσ q2.2 R) n ce sl
  exact ev_icmp_eq (tgt := 1515) dL_law_583 (by decide) (fun _ => ev_widen (Nat.le_add_right _ _) (Nat.le_add_right _ _) (hK _ _ _ hJ2)) (fun hne => absurd hr.symm hne)
set_option maxHeartbeats 4000000 in
set_option maxRecDepth 100000 in
theorem lwc_10 {E : xE} {b L : Nat} {xs : Nat → Int32} {nm : String} {J : xm → xr → Nat → Prop} (HS : lwS_10 J) (HJ : ∀ μ R n, J μ R n → xFin R n ∧ ∃ k, n = 107 + 2 * k) {i : Int32} {μ : xm} {R : xr} {n ce sl : Nat} (hce : ce + 2 ≤ 600000) (hsl : sl + 13 ≤ 7302250) (v1 : vp_in (i + 1) L) (v2 : vp_in (i + 2) L) (v3 : vp_in (i + 3) L) (v4 : vp_in (i + 4) L) (v5 : vp_in (i + 5) L) (v6 : vp_in (i + 6) L) (hJ : J μ R n) (hK : ∀ (ν : xm) (S : xr) (n' : Nat), J ν S n' → Ev E (lwC b L xs E.2.2.2) (lwY nm) 1515 [(0, .ref b), (1, .ref (E.2.2.2 + iC)), (2, .ref (E.2.2.2 + iM)), (3, .int i)] [] (xσ ν S) n' (ce + 2) (sl + 13)) : Ev E (lwC b L xs E.2.2.2) (lwY nm) 588 [(0, .ref b), (1, .ref (E.2.2.2 + iC)), (2, .ref (E.2.2.2 + iM)), (3, .int i)] [] (xσ μ R) n ce sl := by
  obtain ⟨hF, hn⟩ := HJ μ R n hJ
  obtain ⟨a1, ha1⟩ : ∃ a, xs (i + 1).toNatClampNeg = a := ⟨_, rfl⟩
  obtain ⟨a2, ha2⟩ : ∃ a, xs (i + 2).toNatClampNeg = a := ⟨_, rfl⟩
  obtain ⟨a3, ha3⟩ : ∃ a, xs (i + 3).toNatClampNeg = a := ⟨_, rfl⟩
  obtain ⟨a4, ha4⟩ : ∃ a, xs (i + 4).toNatClampNeg = a := ⟨_, rfl⟩
  have HS := HS μ R n a1 a2 a3 a4 hJ
  obtain ⟨q, hq, q2, hq2, hr, hJ2⟩ := HS
  refine ev_aload_n 1 dL_law_588 rfl rfl ?_
  refine ev_aload_n 0 dL_law_589 rfl rfl ?_
  refine ev_iload_n 3 dL_law_590 rfl rfl ?_
  refine ev_iconst (v := 1) dL_law_591 (by decide) ?_
  refine ev_iadd dL_law_592 ?_
  refine ev_sld v1 ha1 dL_law_593 ?_
  refine ev_aload_n 0 dL_law_594 rfl rfl ?_
  refine ev_iload_n 3 dL_law_595 rfl rfl ?_
  refine ev_iconst (v := 2) dL_law_596 (by decide) ?_
  refine ev_iadd dL_law_597 ?_
  refine ev_sld v2 ha2 dL_law_598 ?_
  refine ev_aload_n 0 dL_law_599 rfl rfl ?_
  refine ev_iload_n 3 dL_law_600 rfl rfl ?_
  refine ev_iconst (v := 3) dL_law_601 (by decide) ?_
  refine ev_iadd dL_law_602 ?_
  refine ev_sld v3 ha3 dL_law_603 ?_
  refine ev_aload_n 0 dL_law_604 rfl rfl ?_
  refine ev_iload_n 3 dL_law_605 rfl rfl ?_
  refine ev_iconst (v := 4) dL_law_606 (by decide) ?_
  refine ev_iadd dL_law_607 ?_
  refine ev_sld v4 ha4 dL_law_608 ?_
  refine ev_callV (ci := 11) (As := [.int a1, .int a2, .int a3, .int a4]) (rest := []) 4 (kX11_chain (E := E) (d := 6) (QQ := (fun v τ n' => v = some (.int q.1) ∧ τ = xσ q.2 R ∧ n = n')) (Nat.le_refl _) hF hq (⟨rfl, rfl, rfl⟩)) my_X11_chain ⟨m_739, m_740, m_741⟩ cl_11 kd_0 (xl hF rfl) rfl rfl (Nat.le_of_ble_eq_true rfl) (Nat.le_of_ble_eq_true rfl) (Nat.le_of_ble_eq_true rfl) (Nat.le_trans (Nat.le_add_right _ _) hce) (Nat.le_trans (Nat.le_add_right _ _) hsl) dL_law_609 (fun v τ n' hv => ?_)
  obtain ⟨rfl, rfl, rfl⟩ := hv
  have hF1 := hF
  show Ev E (lwC b L xs E.2.2.2) (lwY nm) 612 [(0, .ref b), (1, .ref (E.2.2.2 + iC)), (2, .ref (E.2.2.2 + iM)), (3, .int i)] [.int q.1] (xσ q.2 R) n ce sl
  refine ev_aload_n 2 dL_law_612 rfl rfl ?_
  refine ev_aload_n 0 dL_law_613 rfl rfl ?_
  refine ev_iload_n 3 dL_law_614 rfl rfl ?_
  refine ev_iconst (v := 1) dL_law_615 (by decide) ?_
  refine ev_iadd dL_law_616 ?_
  refine ev_sld v1 ha1 dL_law_617 ?_
  refine ev_aload_n 0 dL_law_618 rfl rfl ?_
  refine ev_iload_n 3 dL_law_619 rfl rfl ?_
  refine ev_iconst (v := 2) dL_law_620 (by decide) ?_
  refine ev_iadd dL_law_621 ?_
  refine ev_sld v2 ha2 dL_law_622 ?_
  refine ev_aload_n 0 dL_law_623 rfl rfl ?_
  refine ev_iload_n 3 dL_law_624 rfl rfl ?_
  refine ev_iconst (v := 3) dL_law_625 (by decide) ?_
  refine ev_iadd dL_law_626 ?_
  refine ev_sld v3 ha3 dL_law_627 ?_
  refine ev_aload_n 0 dL_law_628 rfl rfl ?_
  refine ev_iload_n 3 dL_law_629 rfl rfl ?_
  refine ev_iconst (v := 4) dL_law_630 (by decide) ?_
  refine ev_iadd dL_law_631 ?_
  refine ev_sld v4 ha4 dL_law_632 ?_
  refine ev_callV (ci := 12) (As := [.int a1, .int a2, .int a3, .int a4]) (rest := [.int q.1]) 4 (kX12_chain (E := E) (d := 8) (QQ := (fun v τ n' => v = some (.int q2.1) ∧ τ = xσ q2.2 R ∧ n = n')) (Nat.le_refl _) hF1 hq2 (⟨rfl, rfl, rfl⟩)) my_X12_chain ⟨m_1636, m_1637, m_1638⟩ cl_12 kd_61 (xl hF1 rfl) rfl rfl (Nat.le_of_ble_eq_true rfl) (Nat.le_of_ble_eq_true rfl) (Nat.le_of_ble_eq_true rfl) (Nat.le_trans (Nat.le_add_right _ _) hce) (Nat.le_trans (Nat.le_add_right _ _) hsl) dL_law_633 (fun v τ n' hv => ?_)
  obtain ⟨rfl, rfl, rfl⟩ := hv
  show Ev E (lwC b L xs E.2.2.2) (lwY nm) 636 [(0, .ref b), (1, .ref (E.2.2.2 + iC)), (2, .ref (E.2.2.2 + iM)), (3, .int i)] [.int q2.1, .int q.1] (xσ q2.2 R) n ce sl
  exact ev_icmp_eq (tgt := 1515) dL_law_636 (by decide) (fun _ => ev_widen (Nat.le_add_right _ _) (Nat.le_add_right _ _) (hK _ _ _ hJ2)) (fun hne => absurd hr.symm hne)
set_option maxHeartbeats 4000000 in
set_option maxRecDepth 100000 in
theorem lwc_11 {E : xE} {b L : Nat} {xs : Nat → Int32} {nm : String} {J : xm → xr → Nat → Prop} (HS : lwS_11 J) (HJ : ∀ μ R n, J μ R n → xFin R n ∧ ∃ k, n = 107 + 2 * k) {i : Int32} {μ : xm} {R : xr} {n ce sl : Nat} (hce : ce + 2 ≤ 600000) (hsl : sl + 13 ≤ 7302250) (v1 : vp_in (i + 1) L) (v2 : vp_in (i + 2) L) (v3 : vp_in (i + 3) L) (v4 : vp_in (i + 4) L) (v5 : vp_in (i + 5) L) (v6 : vp_in (i + 6) L) (hJ : J μ R n) (hK : ∀ (ν : xm) (S : xr) (n' : Nat), J ν S n' → Ev E (lwC b L xs E.2.2.2) (lwY nm) 1515 [(0, .ref b), (1, .ref (E.2.2.2 + iC)), (2, .ref (E.2.2.2 + iM)), (3, .int i)] [] (xσ ν S) n' (ce + 2) (sl + 13)) : Ev E (lwC b L xs E.2.2.2) (lwY nm) 641 [(0, .ref b), (1, .ref (E.2.2.2 + iC)), (2, .ref (E.2.2.2 + iM)), (3, .int i)] [] (xσ μ R) n ce sl := by
  obtain ⟨hF, hn⟩ := HJ μ R n hJ
  obtain ⟨a1, ha1⟩ : ∃ a, xs (i + 1).toNatClampNeg = a := ⟨_, rfl⟩
  have HS := HS μ R n a1 hJ
  obtain ⟨q, hq, q2, hq2, hr, hJ2⟩ := HS
  refine ev_aload_n 1 dL_law_641 rfl rfl ?_
  refine ev_aload_n 0 dL_law_642 rfl rfl ?_
  refine ev_iload_n 3 dL_law_643 rfl rfl ?_
  refine ev_iconst (v := 1) dL_law_644 (by decide) ?_
  refine ev_iadd dL_law_645 ?_
  refine ev_sld v1 ha1 dL_law_646 ?_
  refine ev_callV (ci := 11) (As := [.int a1]) (rest := []) 1 (kX11_settle (E := E) (d := 6) (QQ := (fun v τ n' => v = some (.int q.1) ∧ τ = xσ q.2 R ∧ n = n')) (Nat.le_refl _) hF hq (⟨rfl, rfl, rfl⟩)) my_X11_settle ⟨m_764, m_765, m_766⟩ cl_11 kd_0 (xl hF rfl) rfl rfl (Nat.le_of_ble_eq_true rfl) (Nat.le_of_ble_eq_true rfl) (Nat.le_of_ble_eq_true rfl) (Nat.le_trans (Nat.le_add_right _ _) hce) (Nat.le_trans (Nat.le_add_right _ _) hsl) dL_law_647 (fun v τ n' hv => ?_)
  obtain ⟨rfl, rfl, rfl⟩ := hv
  have hF1 := hF
  show Ev E (lwC b L xs E.2.2.2) (lwY nm) 650 [(0, .ref b), (1, .ref (E.2.2.2 + iC)), (2, .ref (E.2.2.2 + iM)), (3, .int i)] [.int q.1] (xσ q.2 R) n ce sl
  refine ev_aload_n 2 dL_law_650 rfl rfl ?_
  refine ev_aload_n 0 dL_law_651 rfl rfl ?_
  refine ev_iload_n 3 dL_law_652 rfl rfl ?_
  refine ev_iconst (v := 1) dL_law_653 (by decide) ?_
  refine ev_iadd dL_law_654 ?_
  refine ev_sld v1 ha1 dL_law_655 ?_
  refine ev_callV (ci := 12) (As := [.int a1]) (rest := [.int q.1]) 1 (kX12_settle (E := E) (d := 9) (QQ := (fun v τ n' => v = some (.int q2.1) ∧ τ = xσ q2.2 R ∧ n = n')) (Nat.le_refl _) hF1 hq2 (⟨rfl, rfl, rfl⟩)) my_X12_settle ⟨m_1644, m_1645, m_1646⟩ cl_12 kd_61 (xl hF1 rfl) rfl rfl (Nat.le_of_ble_eq_true rfl) (Nat.le_of_ble_eq_true rfl) (Nat.le_of_ble_eq_true rfl) (Nat.le_trans (Nat.le_add_right _ _) hce) (Nat.le_trans (Nat.le_add_right _ _) hsl) dL_law_656 (fun v τ n' hv => ?_)
  obtain ⟨rfl, rfl, rfl⟩ := hv
  show Ev E (lwC b L xs E.2.2.2) (lwY nm) 659 [(0, .ref b), (1, .ref (E.2.2.2 + iC)), (2, .ref (E.2.2.2 + iM)), (3, .int i)] [.int q2.1, .int q.1] (xσ q2.2 R) n ce sl
  exact ev_icmp_eq (tgt := 1515) dL_law_659 (by decide) (fun _ => ev_widen (Nat.le_add_right _ _) (Nat.le_add_right _ _) (hK _ _ _ hJ2)) (fun hne => absurd hr.symm hne)
set_option maxHeartbeats 4000000 in
set_option maxRecDepth 100000 in
theorem lwc_12 {E : xE} {b L : Nat} {xs : Nat → Int32} {nm : String} {J : xm → xr → Nat → Prop} (HS : lwS_12 J) (HJ : ∀ μ R n, J μ R n → xFin R n ∧ ∃ k, n = 107 + 2 * k) {i : Int32} {μ : xm} {R : xr} {n ce sl : Nat} (hce : ce + 2 ≤ 600000) (hsl : sl + 13 ≤ 7302250) (v1 : vp_in (i + 1) L) (v2 : vp_in (i + 2) L) (v3 : vp_in (i + 3) L) (v4 : vp_in (i + 4) L) (v5 : vp_in (i + 5) L) (v6 : vp_in (i + 6) L) (hJ : J μ R n) (hK : ∀ (ν : xm) (S : xr) (n' : Nat), J ν S n' → Ev E (lwC b L xs E.2.2.2) (lwY nm) 1515 [(0, .ref b), (1, .ref (E.2.2.2 + iC)), (2, .ref (E.2.2.2 + iM)), (3, .int i)] [] (xσ ν S) n' (ce + 2) (sl + 13)) : Ev E (lwC b L xs E.2.2.2) (lwY nm) 664 [(0, .ref b), (1, .ref (E.2.2.2 + iC)), (2, .ref (E.2.2.2 + iM)), (3, .int i)] [] (xσ μ R) n ce sl := by
  obtain ⟨hF, hn⟩ := HJ μ R n hJ
  obtain ⟨a1, ha1⟩ : ∃ a, xs (i + 1).toNatClampNeg = a := ⟨_, rfl⟩
  obtain ⟨a2, ha2⟩ : ∃ a, xs (i + 2).toNatClampNeg = a := ⟨_, rfl⟩
  have HS := HS μ R n a1 a2 hJ
  obtain ⟨q, hq, q2, hq2, hr, hJ2⟩ := HS
  refine ev_aload_n 1 dL_law_664 rfl rfl ?_
  refine ev_aload_n 0 dL_law_665 rfl rfl ?_
  refine ev_iload_n 3 dL_law_666 rfl rfl ?_
  refine ev_iconst (v := 1) dL_law_667 (by decide) ?_
  refine ev_iadd dL_law_668 ?_
  refine ev_sld v1 ha1 dL_law_669 ?_
  refine ev_aload_n 0 dL_law_670 rfl rfl ?_
  refine ev_iload_n 3 dL_law_671 rfl rfl ?_
  refine ev_iconst (v := 2) dL_law_672 (by decide) ?_
  refine ev_iadd dL_law_673 ?_
  refine ev_sld v2 ha2 dL_law_674 ?_
  refine ev_callV (ci := 11) (As := [.int a1, .int a2]) (rest := []) 2 (kX11_noteIs (E := E) (d := 2) (QQ := (fun v τ n' => v = some (.int q) ∧ τ = xσ μ R ∧ n = n')) (Nat.le_refl _) hF hq (⟨rfl, rfl, rfl⟩)) my_X11_noteIs ⟨m_789, m_790, m_791⟩ cl_11 kd_0 (xl hF rfl) rfl rfl (Nat.le_of_ble_eq_true rfl) (Nat.le_of_ble_eq_true rfl) (Nat.le_of_ble_eq_true rfl) (Nat.le_trans (Nat.le_add_right _ _) hce) (Nat.le_trans (Nat.le_add_right _ _) hsl) dL_law_675 (fun v τ n' hv => ?_)
  obtain ⟨rfl, rfl, rfl⟩ := hv
  have hF1 := hF
  show Ev E (lwC b L xs E.2.2.2) (lwY nm) 678 [(0, .ref b), (1, .ref (E.2.2.2 + iC)), (2, .ref (E.2.2.2 + iM)), (3, .int i)] [.int q] (xσ μ R) n ce sl
  refine ev_aload_n 2 dL_law_678 rfl rfl ?_
  refine ev_aload_n 0 dL_law_679 rfl rfl ?_
  refine ev_iload_n 3 dL_law_680 rfl rfl ?_
  refine ev_iconst (v := 1) dL_law_681 (by decide) ?_
  refine ev_iadd dL_law_682 ?_
  refine ev_sld v1 ha1 dL_law_683 ?_
  refine ev_aload_n 0 dL_law_684 rfl rfl ?_
  refine ev_iload_n 3 dL_law_685 rfl rfl ?_
  refine ev_iconst (v := 2) dL_law_686 (by decide) ?_
  refine ev_iadd dL_law_687 ?_
  refine ev_sld v2 ha2 dL_law_688 ?_
  refine ev_callV (ci := 12) (As := [.int a1, .int a2]) (rest := [.int q]) 2 (kX12_noteIs (E := E) (d := 2) (QQ := (fun v τ n' => v = some (.int q2) ∧ τ = xσ μ R ∧ n = n')) (Nat.le_refl _) hF1 hq2 (⟨rfl, rfl, rfl⟩)) my_X12_noteIs ⟨m_1656, m_1657, m_1658⟩ cl_12 kd_61 (xl hF1 rfl) rfl rfl (Nat.le_of_ble_eq_true rfl) (Nat.le_of_ble_eq_true rfl) (Nat.le_of_ble_eq_true rfl) (Nat.le_trans (Nat.le_add_right _ _) hce) (Nat.le_trans (Nat.le_add_right _ _) hsl) dL_law_689 (fun v τ n' hv => ?_)
  obtain ⟨rfl, rfl, rfl⟩ := hv
  show Ev E (lwC b L xs E.2.2.2) (lwY nm) 692 [(0, .ref b), (1, .ref (E.2.2.2 + iC)), (2, .ref (E.2.2.2 + iM)), (3, .int i)] [.int q2, .int q] (xσ μ R) n ce sl
  exact ev_icmp_eq (tgt := 1515) dL_law_692 (by decide) (fun _ => ev_widen (Nat.le_add_right _ _) (Nat.le_add_right _ _) (hK _ _ _ hJ2)) (fun hne => absurd hr.symm hne)
set_option maxHeartbeats 4000000 in
set_option maxRecDepth 100000 in
theorem lwc_13 {E : xE} {b L : Nat} {xs : Nat → Int32} {nm : String} {J : xm → xr → Nat → Prop} (HS : lwS_13 J) (HJ : ∀ μ R n, J μ R n → xFin R n ∧ ∃ k, n = 107 + 2 * k) {i : Int32} {μ : xm} {R : xr} {n ce sl : Nat} (hce : ce + 2 ≤ 600000) (hsl : sl + 13 ≤ 7302250) (v1 : vp_in (i + 1) L) (v2 : vp_in (i + 2) L) (v3 : vp_in (i + 3) L) (v4 : vp_in (i + 4) L) (v5 : vp_in (i + 5) L) (v6 : vp_in (i + 6) L) (hJ : J μ R n) (hK : ∀ (ν : xm) (S : xr) (n' : Nat), J ν S n' → Ev E (lwC b L xs E.2.2.2) (lwY nm) 1515 [(0, .ref b), (1, .ref (E.2.2.2 + iC)), (2, .ref (E.2.2.2 + iM)), (3, .int i)] [] (xσ ν S) n' (ce + 2) (sl + 13)) : Ev E (lwC b L xs E.2.2.2) (lwY nm) 697 [(0, .ref b), (1, .ref (E.2.2.2 + iC)), (2, .ref (E.2.2.2 + iM)), (3, .int i)] [] (xσ μ R) n ce sl := by
  obtain ⟨hF, hn⟩ := HJ μ R n hJ
  obtain ⟨a1, ha1⟩ : ∃ a, xs (i + 1).toNatClampNeg = a := ⟨_, rfl⟩
  obtain ⟨a2, ha2⟩ : ∃ a, xs (i + 2).toNatClampNeg = a := ⟨_, rfl⟩
  have HS := HS μ R n a1 a2 hJ
  obtain ⟨q, hq, q2, hq2, hr, hJ2⟩ := HS
  refine ev_aload_n 1 dL_law_697 rfl rfl ?_
  refine ev_aload_n 0 dL_law_698 rfl rfl ?_
  refine ev_iload_n 3 dL_law_699 rfl rfl ?_
  refine ev_iconst (v := 1) dL_law_700 (by decide) ?_
  refine ev_iadd dL_law_701 ?_
  refine ev_sld v1 ha1 dL_law_702 ?_
  refine ev_aload_n 0 dL_law_703 rfl rfl ?_
  refine ev_iload_n 3 dL_law_704 rfl rfl ?_
  refine ev_iconst (v := 2) dL_law_705 (by decide) ?_
  refine ev_iadd dL_law_706 ?_
  refine ev_sld v2 ha2 dL_law_707 ?_
  refine ev_callV (ci := 11) (As := [.int a1, .int a2]) (rest := []) 2 (kX11_hand (E := E) (d := 2) (QQ := (fun v τ n' => v = some (.int q.1) ∧ τ = xσ q.2 R ∧ n = n')) (Nat.le_refl _) hF hq (⟨rfl, rfl, rfl⟩)) my_X11_hand ⟨m_822, m_823, m_824⟩ cl_11 kd_0 (xl hF rfl) rfl rfl (Nat.le_of_ble_eq_true rfl) (Nat.le_of_ble_eq_true rfl) (Nat.le_of_ble_eq_true rfl) (Nat.le_trans (Nat.le_add_right _ _) hce) (Nat.le_trans (Nat.le_add_right _ _) hsl) dL_law_708 (fun v τ n' hv => ?_)
  obtain ⟨rfl, rfl, rfl⟩ := hv
  have hF1 := hF
  show Ev E (lwC b L xs E.2.2.2) (lwY nm) 711 [(0, .ref b), (1, .ref (E.2.2.2 + iC)), (2, .ref (E.2.2.2 + iM)), (3, .int i)] [.int q.1] (xσ q.2 R) n ce sl
  refine ev_aload_n 2 dL_law_711 rfl rfl ?_
  refine ev_aload_n 0 dL_law_712 rfl rfl ?_
  refine ev_iload_n 3 dL_law_713 rfl rfl ?_
  refine ev_iconst (v := 1) dL_law_714 (by decide) ?_
  refine ev_iadd dL_law_715 ?_
  refine ev_sld v1 ha1 dL_law_716 ?_
  refine ev_aload_n 0 dL_law_717 rfl rfl ?_
  refine ev_iload_n 3 dL_law_718 rfl rfl ?_
  refine ev_iconst (v := 2) dL_law_719 (by decide) ?_
  refine ev_iadd dL_law_720 ?_
  refine ev_sld v2 ha2 dL_law_721 ?_
  refine ev_callV (ci := 12) (As := [.int a1, .int a2]) (rest := [.int q.1]) 2 (kX12_hand (E := E) (d := 2) (QQ := (fun v τ n' => v = some (.int q2.1) ∧ τ = xσ q2.2 R ∧ n = n')) (Nat.le_refl _) hF1 hq2 (⟨rfl, rfl, rfl⟩)) my_X12_hand ⟨m_1672, m_1673, m_1674⟩ cl_12 kd_61 (xl hF1 rfl) rfl rfl (Nat.le_of_ble_eq_true rfl) (Nat.le_of_ble_eq_true rfl) (Nat.le_of_ble_eq_true rfl) (Nat.le_trans (Nat.le_add_right _ _) hce) (Nat.le_trans (Nat.le_add_right _ _) hsl) dL_law_722 (fun v τ n' hv => ?_)
  obtain ⟨rfl, rfl, rfl⟩ := hv
  show Ev E (lwC b L xs E.2.2.2) (lwY nm) 725 [(0, .ref b), (1, .ref (E.2.2.2 + iC)), (2, .ref (E.2.2.2 + iM)), (3, .int i)] [.int q2.1, .int q.1] (xσ q2.2 R) n ce sl
  exact ev_icmp_eq (tgt := 1515) dL_law_725 (by decide) (fun _ => ev_widen (Nat.le_add_right _ _) (Nat.le_add_right _ _) (hK _ _ _ hJ2)) (fun hne => absurd hr.symm hne)
set_option maxHeartbeats 4000000 in
set_option maxRecDepth 100000 in
theorem lwc_14 {E : xE} {b L : Nat} {xs : Nat → Int32} {nm : String} {J : xm → xr → Nat → Prop} (HS : lwS_14 J) (HJ : ∀ μ R n, J μ R n → xFin R n ∧ ∃ k, n = 107 + 2 * k) {i : Int32} {μ : xm} {R : xr} {n ce sl : Nat} (hce : ce + 2 ≤ 600000) (hsl : sl + 13 ≤ 7302250) (v1 : vp_in (i + 1) L) (v2 : vp_in (i + 2) L) (v3 : vp_in (i + 3) L) (v4 : vp_in (i + 4) L) (v5 : vp_in (i + 5) L) (v6 : vp_in (i + 6) L) (hJ : J μ R n) (hK : ∀ (ν : xm) (S : xr) (n' : Nat), J ν S n' → Ev E (lwC b L xs E.2.2.2) (lwY nm) 1515 [(0, .ref b), (1, .ref (E.2.2.2 + iC)), (2, .ref (E.2.2.2 + iM)), (3, .int i)] [] (xσ ν S) n' (ce + 2) (sl + 13)) : Ev E (lwC b L xs E.2.2.2) (lwY nm) 730 [(0, .ref b), (1, .ref (E.2.2.2 + iC)), (2, .ref (E.2.2.2 + iM)), (3, .int i)] [] (xσ μ R) n ce sl := by
  obtain ⟨hF, hn⟩ := HJ μ R n hJ
  obtain ⟨a1, ha1⟩ : ∃ a, xs (i + 1).toNatClampNeg = a := ⟨_, rfl⟩
  obtain ⟨a2, ha2⟩ : ∃ a, xs (i + 2).toNatClampNeg = a := ⟨_, rfl⟩
  have HS := HS μ R n a1 a2 hJ
  obtain ⟨q, hq, q2, hq2, hr, hJ2⟩ := HS
  refine ev_aload_n 1 dL_law_730 rfl rfl ?_
  refine ev_aload_n 0 dL_law_731 rfl rfl ?_
  refine ev_iload_n 3 dL_law_732 rfl rfl ?_
  refine ev_iconst (v := 1) dL_law_733 (by decide) ?_
  refine ev_iadd dL_law_734 ?_
  refine ev_sld v1 ha1 dL_law_735 ?_
  refine ev_aload_n 0 dL_law_736 rfl rfl ?_
  refine ev_iload_n 3 dL_law_737 rfl rfl ?_
  refine ev_iconst (v := 2) dL_law_738 (by decide) ?_
  refine ev_iadd dL_law_739 ?_
  refine ev_sld v2 ha2 dL_law_740 ?_
  refine ev_callV (ci := 11) (As := [.int a1, .int a2]) (rest := []) 2 (kX11_cut (E := E) (d := 2) (QQ := (fun v τ n' => v = some (.int q.1) ∧ τ = xσ q.2 R ∧ n = n')) (Nat.le_refl _) hF hq (⟨rfl, rfl, rfl⟩)) my_X11_cut ⟨m_830, m_831, m_832⟩ cl_11 kd_0 (xl hF rfl) rfl rfl (Nat.le_of_ble_eq_true rfl) (Nat.le_of_ble_eq_true rfl) (Nat.le_of_ble_eq_true rfl) (Nat.le_trans (Nat.le_add_right _ _) hce) (Nat.le_trans (Nat.le_add_right _ _) hsl) dL_law_741 (fun v τ n' hv => ?_)
  obtain ⟨rfl, rfl, rfl⟩ := hv
  have hF1 := hF
  show Ev E (lwC b L xs E.2.2.2) (lwY nm) 744 [(0, .ref b), (1, .ref (E.2.2.2 + iC)), (2, .ref (E.2.2.2 + iM)), (3, .int i)] [.int q.1] (xσ q.2 R) n ce sl
  refine ev_aload_n 2 dL_law_744 rfl rfl ?_
  refine ev_aload_n 0 dL_law_745 rfl rfl ?_
  refine ev_iload_n 3 dL_law_746 rfl rfl ?_
  refine ev_iconst (v := 1) dL_law_747 (by decide) ?_
  refine ev_iadd dL_law_748 ?_
  refine ev_sld v1 ha1 dL_law_749 ?_
  refine ev_aload_n 0 dL_law_750 rfl rfl ?_
  refine ev_iload_n 3 dL_law_751 rfl rfl ?_
  refine ev_iconst (v := 2) dL_law_752 (by decide) ?_
  refine ev_iadd dL_law_753 ?_
  refine ev_sld v2 ha2 dL_law_754 ?_
  refine ev_callV (ci := 12) (As := [.int a1, .int a2]) (rest := [.int q.1]) 2 (kX12_cut (E := E) (d := 2) (QQ := (fun v τ n' => v = some (.int q2.1) ∧ τ = xσ q2.2 R ∧ n = n')) (Nat.le_refl _) hF1 hq2 (⟨rfl, rfl, rfl⟩)) my_X12_cut ⟨m_1676, m_1677, m_1678⟩ cl_12 kd_61 (xl hF1 rfl) rfl rfl (Nat.le_of_ble_eq_true rfl) (Nat.le_of_ble_eq_true rfl) (Nat.le_of_ble_eq_true rfl) (Nat.le_trans (Nat.le_add_right _ _) hce) (Nat.le_trans (Nat.le_add_right _ _) hsl) dL_law_755 (fun v τ n' hv => ?_)
  obtain ⟨rfl, rfl, rfl⟩ := hv
  show Ev E (lwC b L xs E.2.2.2) (lwY nm) 758 [(0, .ref b), (1, .ref (E.2.2.2 + iC)), (2, .ref (E.2.2.2 + iM)), (3, .int i)] [.int q2.1, .int q.1] (xσ q2.2 R) n ce sl
  exact ev_icmp_eq (tgt := 1515) dL_law_758 (by decide) (fun _ => ev_widen (Nat.le_add_right _ _) (Nat.le_add_right _ _) (hK _ _ _ hJ2)) (fun hne => absurd hr.symm hne)
set_option maxHeartbeats 4000000 in
set_option maxRecDepth 100000 in
theorem lwc_15 {E : xE} {b L : Nat} {xs : Nat → Int32} {nm : String} {J : xm → xr → Nat → Prop} (HS : lwS_15 J) (HJ : ∀ μ R n, J μ R n → xFin R n ∧ ∃ k, n = 107 + 2 * k) {i : Int32} {μ : xm} {R : xr} {n ce sl : Nat} (hce : ce + 2 ≤ 600000) (hsl : sl + 13 ≤ 7302250) (v1 : vp_in (i + 1) L) (v2 : vp_in (i + 2) L) (v3 : vp_in (i + 3) L) (v4 : vp_in (i + 4) L) (v5 : vp_in (i + 5) L) (v6 : vp_in (i + 6) L) (hJ : J μ R n) (hK : ∀ (ν : xm) (S : xr) (n' : Nat), J ν S n' → Ev E (lwC b L xs E.2.2.2) (lwY nm) 1515 [(0, .ref b), (1, .ref (E.2.2.2 + iC)), (2, .ref (E.2.2.2 + iM)), (3, .int i)] [] (xσ ν S) n' (ce + 2) (sl + 13)) : Ev E (lwC b L xs E.2.2.2) (lwY nm) 763 [(0, .ref b), (1, .ref (E.2.2.2 + iC)), (2, .ref (E.2.2.2 + iM)), (3, .int i)] [] (xσ μ R) n ce sl := by
  obtain ⟨hF, hn⟩ := HJ μ R n hJ
  obtain ⟨a1, ha1⟩ : ∃ a, xs (i + 1).toNatClampNeg = a := ⟨_, rfl⟩
  obtain ⟨a2, ha2⟩ : ∃ a, xs (i + 2).toNatClampNeg = a := ⟨_, rfl⟩
  obtain ⟨a3, ha3⟩ : ∃ a, xs (i + 3).toNatClampNeg = a := ⟨_, rfl⟩
  have HS := HS μ R n a1 a2 a3 hJ
  obtain ⟨q, hq, q2, hq2, hr, hJ2⟩ := HS
  refine ev_aload_n 1 dL_law_763 rfl rfl ?_
  refine ev_aload_n 0 dL_law_764 rfl rfl ?_
  refine ev_iload_n 3 dL_law_765 rfl rfl ?_
  refine ev_iconst (v := 1) dL_law_766 (by decide) ?_
  refine ev_iadd dL_law_767 ?_
  refine ev_sld v1 ha1 dL_law_768 ?_
  refine ev_aload_n 0 dL_law_769 rfl rfl ?_
  refine ev_iload_n 3 dL_law_770 rfl rfl ?_
  refine ev_iconst (v := 2) dL_law_771 (by decide) ?_
  refine ev_iadd dL_law_772 ?_
  refine ev_sld v2 ha2 dL_law_773 ?_
  refine ev_aload_n 0 dL_law_774 rfl rfl ?_
  refine ev_iload_n 3 dL_law_775 rfl rfl ?_
  refine ev_iconst (v := 3) dL_law_776 (by decide) ?_
  refine ev_iadd dL_law_777 ?_
  refine ev_sld v3 ha3 dL_law_778 ?_
  refine ev_callV (ci := 11) (As := [.int a1, .int a2, .int a3]) (rest := []) 3 (kX11_take (E := E) (d := 2) (QQ := (fun v τ n' => v = some (.int q.1) ∧ τ = xσ q.2 R ∧ n = n')) (Nat.le_refl _) hF hq (⟨rfl, rfl, rfl⟩)) my_X11_take ⟨m_839, m_840, m_841⟩ cl_11 kd_0 (xl hF rfl) rfl rfl (Nat.le_of_ble_eq_true rfl) (Nat.le_of_ble_eq_true rfl) (Nat.le_of_ble_eq_true rfl) (Nat.le_trans (Nat.le_add_right _ _) hce) (Nat.le_trans (Nat.le_add_right _ _) hsl) dL_law_779 (fun v τ n' hv => ?_)
  obtain ⟨rfl, rfl, rfl⟩ := hv
  have hF1 := hF
  show Ev E (lwC b L xs E.2.2.2) (lwY nm) 782 [(0, .ref b), (1, .ref (E.2.2.2 + iC)), (2, .ref (E.2.2.2 + iM)), (3, .int i)] [.int q.1] (xσ q.2 R) n ce sl
  refine ev_aload_n 2 dL_law_782 rfl rfl ?_
  refine ev_aload_n 0 dL_law_783 rfl rfl ?_
  refine ev_iload_n 3 dL_law_784 rfl rfl ?_
  refine ev_iconst (v := 1) dL_law_785 (by decide) ?_
  refine ev_iadd dL_law_786 ?_
  refine ev_sld v1 ha1 dL_law_787 ?_
  refine ev_aload_n 0 dL_law_788 rfl rfl ?_
  refine ev_iload_n 3 dL_law_789 rfl rfl ?_
  refine ev_iconst (v := 2) dL_law_790 (by decide) ?_
  refine ev_iadd dL_law_791 ?_
  refine ev_sld v2 ha2 dL_law_792 ?_
  refine ev_aload_n 0 dL_law_793 rfl rfl ?_
  refine ev_iload_n 3 dL_law_794 rfl rfl ?_
  refine ev_iconst (v := 3) dL_law_795 (by decide) ?_
  refine ev_iadd dL_law_796 ?_
  refine ev_sld v3 ha3 dL_law_797 ?_
  refine ev_callV (ci := 12) (As := [.int a1, .int a2, .int a3]) (rest := [.int q.1]) 3 (kX12_take (E := E) (d := 2) (QQ := (fun v τ n' => v = some (.int q2.1) ∧ τ = xσ q2.2 R ∧ n = n')) (Nat.le_refl _) hF1 hq2 (⟨rfl, rfl, rfl⟩)) my_X12_take ⟨m_1680, m_1681, m_1682⟩ cl_12 kd_61 (xl hF1 rfl) rfl rfl (Nat.le_of_ble_eq_true rfl) (Nat.le_of_ble_eq_true rfl) (Nat.le_of_ble_eq_true rfl) (Nat.le_trans (Nat.le_add_right _ _) hce) (Nat.le_trans (Nat.le_add_right _ _) hsl) dL_law_798 (fun v τ n' hv => ?_)
  obtain ⟨rfl, rfl, rfl⟩ := hv
  show Ev E (lwC b L xs E.2.2.2) (lwY nm) 801 [(0, .ref b), (1, .ref (E.2.2.2 + iC)), (2, .ref (E.2.2.2 + iM)), (3, .int i)] [.int q2.1, .int q.1] (xσ q2.2 R) n ce sl
  exact ev_icmp_eq (tgt := 1515) dL_law_801 (by decide) (fun _ => ev_widen (Nat.le_add_right _ _) (Nat.le_add_right _ _) (hK _ _ _ hJ2)) (fun hne => absurd hr.symm hne)
set_option maxHeartbeats 4000000 in
set_option maxRecDepth 100000 in
theorem lwc_16 {E : xE} {b L : Nat} {xs : Nat → Int32} {nm : String} {J : xm → xr → Nat → Prop} (HS : lwS_16 J) (HJ : ∀ μ R n, J μ R n → xFin R n ∧ ∃ k, n = 107 + 2 * k) {i : Int32} {μ : xm} {R : xr} {n ce sl : Nat} (hce : ce + 2 ≤ 600000) (hsl : sl + 13 ≤ 7302250) (v1 : vp_in (i + 1) L) (v2 : vp_in (i + 2) L) (v3 : vp_in (i + 3) L) (v4 : vp_in (i + 4) L) (v5 : vp_in (i + 5) L) (v6 : vp_in (i + 6) L) (hJ : J μ R n) (hK : ∀ (ν : xm) (S : xr) (n' : Nat), J ν S n' → Ev E (lwC b L xs E.2.2.2) (lwY nm) 1515 [(0, .ref b), (1, .ref (E.2.2.2 + iC)), (2, .ref (E.2.2.2 + iM)), (3, .int i)] [] (xσ ν S) n' (ce + 2) (sl + 13)) : Ev E (lwC b L xs E.2.2.2) (lwY nm) 806 [(0, .ref b), (1, .ref (E.2.2.2 + iC)), (2, .ref (E.2.2.2 + iM)), (3, .int i)] [] (xσ μ R) n ce sl := by
  obtain ⟨hF, hn⟩ := HJ μ R n hJ
  obtain ⟨a1, ha1⟩ : ∃ a, xs (i + 1).toNatClampNeg = a := ⟨_, rfl⟩
  obtain ⟨a2, ha2⟩ : ∃ a, xs (i + 2).toNatClampNeg = a := ⟨_, rfl⟩
  have HS := HS μ R n a1 a2 hJ
  obtain ⟨q, hq, q2, hq2, hr, hJ2⟩ := HS
  refine ev_aload_n 1 dL_law_806 rfl rfl ?_
  refine ev_aload_n 0 dL_law_807 rfl rfl ?_
  refine ev_iload_n 3 dL_law_808 rfl rfl ?_
  refine ev_iconst (v := 1) dL_law_809 (by decide) ?_
  refine ev_iadd dL_law_810 ?_
  refine ev_sld v1 ha1 dL_law_811 ?_
  refine ev_aload_n 0 dL_law_812 rfl rfl ?_
  refine ev_iload_n 3 dL_law_813 rfl rfl ?_
  refine ev_iconst (v := 2) dL_law_814 (by decide) ?_
  refine ev_iadd dL_law_815 ?_
  refine ev_sld v2 ha2 dL_law_816 ?_
  refine ev_callV (ci := 11) (As := [.int a1, .int a2]) (rest := []) 2 (kX11_owed (E := E) (d := 3) (QQ := (fun v τ n' => v = some (.int q) ∧ τ = xσ μ R ∧ n = n')) (Nat.le_refl _) hF hq (⟨rfl, rfl, rfl⟩)) my_X11_owed ⟨m_862, m_863, m_864⟩ cl_11 kd_0 (xl hF rfl) rfl rfl (Nat.le_of_ble_eq_true rfl) (Nat.le_of_ble_eq_true rfl) (Nat.le_of_ble_eq_true rfl) (Nat.le_trans (Nat.le_add_right _ _) hce) (Nat.le_trans (Nat.le_add_right _ _) hsl) dL_law_817 (fun v τ n' hv => ?_)
  obtain ⟨rfl, rfl, rfl⟩ := hv
  have hF1 := hF
  show Ev E (lwC b L xs E.2.2.2) (lwY nm) 820 [(0, .ref b), (1, .ref (E.2.2.2 + iC)), (2, .ref (E.2.2.2 + iM)), (3, .int i)] [.int q] (xσ μ R) n ce sl
  refine ev_aload_n 2 dL_law_820 rfl rfl ?_
  refine ev_aload_n 0 dL_law_821 rfl rfl ?_
  refine ev_iload_n 3 dL_law_822 rfl rfl ?_
  refine ev_iconst (v := 1) dL_law_823 (by decide) ?_
  refine ev_iadd dL_law_824 ?_
  refine ev_sld v1 ha1 dL_law_825 ?_
  refine ev_aload_n 0 dL_law_826 rfl rfl ?_
  refine ev_iload_n 3 dL_law_827 rfl rfl ?_
  refine ev_iconst (v := 2) dL_law_828 (by decide) ?_
  refine ev_iadd dL_law_829 ?_
  refine ev_sld v2 ha2 dL_law_830 ?_
  refine ev_callV (ci := 12) (As := [.int a1, .int a2]) (rest := [.int q]) 2 (kX12_owed (E := E) (d := 2) (QQ := (fun v τ n' => v = some (.int q2) ∧ τ = xσ μ R ∧ n = n')) (Nat.le_refl _) hF1 hq2 (⟨rfl, rfl, rfl⟩)) my_X12_owed ⟨m_1684, m_1685, m_1686⟩ cl_12 kd_61 (xl hF1 rfl) rfl rfl (Nat.le_of_ble_eq_true rfl) (Nat.le_of_ble_eq_true rfl) (Nat.le_of_ble_eq_true rfl) (Nat.le_trans (Nat.le_add_right _ _) hce) (Nat.le_trans (Nat.le_add_right _ _) hsl) dL_law_831 (fun v τ n' hv => ?_)
  obtain ⟨rfl, rfl, rfl⟩ := hv
  show Ev E (lwC b L xs E.2.2.2) (lwY nm) 834 [(0, .ref b), (1, .ref (E.2.2.2 + iC)), (2, .ref (E.2.2.2 + iM)), (3, .int i)] [.int q2, .int q] (xσ μ R) n ce sl
  exact ev_icmp_eq (tgt := 1515) dL_law_834 (by decide) (fun _ => ev_widen (Nat.le_add_right _ _) (Nat.le_add_right _ _) (hK _ _ _ hJ2)) (fun hne => absurd hr.symm hne)
set_option maxHeartbeats 4000000 in
set_option maxRecDepth 100000 in
theorem lwc_17 {E : xE} {b L : Nat} {xs : Nat → Int32} {nm : String} {J : xm → xr → Nat → Prop} (HS : lwS_17 J) (HJ : ∀ μ R n, J μ R n → xFin R n ∧ ∃ k, n = 107 + 2 * k) {i : Int32} {μ : xm} {R : xr} {n ce sl : Nat} (hce : ce + 2 ≤ 600000) (hsl : sl + 13 ≤ 7302250) (v1 : vp_in (i + 1) L) (v2 : vp_in (i + 2) L) (v3 : vp_in (i + 3) L) (v4 : vp_in (i + 4) L) (v5 : vp_in (i + 5) L) (v6 : vp_in (i + 6) L) (hJ : J μ R n) (hK : ∀ (ν : xm) (S : xr) (n' : Nat), J ν S n' → Ev E (lwC b L xs E.2.2.2) (lwY nm) 1515 [(0, .ref b), (1, .ref (E.2.2.2 + iC)), (2, .ref (E.2.2.2 + iM)), (3, .int i)] [] (xσ ν S) n' (ce + 2) (sl + 13)) : Ev E (lwC b L xs E.2.2.2) (lwY nm) 839 [(0, .ref b), (1, .ref (E.2.2.2 + iC)), (2, .ref (E.2.2.2 + iM)), (3, .int i)] [] (xσ μ R) n ce sl := by
  obtain ⟨hF, hn⟩ := HJ μ R n hJ
  obtain ⟨a1, ha1⟩ : ∃ a, xs (i + 1).toNatClampNeg = a := ⟨_, rfl⟩
  obtain ⟨a2, ha2⟩ : ∃ a, xs (i + 2).toNatClampNeg = a := ⟨_, rfl⟩
  have HS := HS μ R n a1 a2 hJ
  obtain ⟨q, hq, q2, hq2, hr, hJ2⟩ := HS
  refine ev_aload_n 1 dL_law_839 rfl rfl ?_
  refine ev_aload_n 0 dL_law_840 rfl rfl ?_
  refine ev_iload_n 3 dL_law_841 rfl rfl ?_
  refine ev_iconst (v := 1) dL_law_842 (by decide) ?_
  refine ev_iadd dL_law_843 ?_
  refine ev_sld v1 ha1 dL_law_844 ?_
  refine ev_aload_n 0 dL_law_845 rfl rfl ?_
  refine ev_iload_n 3 dL_law_846 rfl rfl ?_
  refine ev_iconst (v := 2) dL_law_847 (by decide) ?_
  refine ev_iadd dL_law_848 ?_
  refine ev_sld v2 ha2 dL_law_849 ?_
  refine ev_callV (ci := 11) (As := [.int a1, .int a2]) (rest := []) 2 (kX11_called (E := E) (d := 4) (QQ := (fun v τ n' => v = some (.long q.1) ∧ τ = xσ q.2 R ∧ n = n')) (Nat.le_refl _) hF hq (⟨rfl, rfl, rfl⟩)) my_X11_called ⟨m_871, m_872, m_873⟩ cl_11 kd_0 (xl hF rfl) rfl rfl (Nat.le_of_ble_eq_true rfl) (Nat.le_of_ble_eq_true rfl) (Nat.le_of_ble_eq_true rfl) (Nat.le_trans (Nat.le_add_right _ _) hce) (Nat.le_trans (Nat.le_add_right _ _) hsl) dL_law_850 (fun v τ n' hv => ?_)
  obtain ⟨rfl, rfl, rfl⟩ := hv
  have hF1 := hF
  show Ev E (lwC b L xs E.2.2.2) (lwY nm) 853 [(0, .ref b), (1, .ref (E.2.2.2 + iC)), (2, .ref (E.2.2.2 + iM)), (3, .int i)] [.long q.1] (xσ q.2 R) n ce sl
  refine ev_aload_n 2 dL_law_853 rfl rfl ?_
  refine ev_aload_n 0 dL_law_854 rfl rfl ?_
  refine ev_iload_n 3 dL_law_855 rfl rfl ?_
  refine ev_iconst (v := 1) dL_law_856 (by decide) ?_
  refine ev_iadd dL_law_857 ?_
  refine ev_sld v1 ha1 dL_law_858 ?_
  refine ev_aload_n 0 dL_law_859 rfl rfl ?_
  refine ev_iload_n 3 dL_law_860 rfl rfl ?_
  refine ev_iconst (v := 2) dL_law_861 (by decide) ?_
  refine ev_iadd dL_law_862 ?_
  refine ev_sld v2 ha2 dL_law_863 ?_
  refine ev_callV (ci := 12) (As := [.int a1, .int a2]) (rest := [.long q.1]) 2 (kX12_called (E := E) (d := 2) (QQ := (fun v τ n' => v = some (.long q2.1) ∧ τ = xσ q2.2 R ∧ n = n')) (Nat.le_refl _) hF1 hq2 (⟨rfl, rfl, rfl⟩)) my_X12_called ⟨m_1688, m_1689, m_1690⟩ cl_12 kd_61 (xl hF1 rfl) rfl rfl (Nat.le_of_ble_eq_true rfl) (Nat.le_of_ble_eq_true rfl) (Nat.le_of_ble_eq_true rfl) (Nat.le_trans (Nat.le_add_right _ _) hce) (Nat.le_trans (Nat.le_add_right _ _) hsl) dL_law_864 (fun v τ n' hv => ?_)
  obtain ⟨rfl, rfl, rfl⟩ := hv
  show Ev E (lwC b L xs E.2.2.2) (lwY nm) 867 [(0, .ref b), (1, .ref (E.2.2.2 + iC)), (2, .ref (E.2.2.2 + iM)), (3, .int i)] [.long q2.1, .long q.1] (xσ q2.2 R) n ce sl
  refine ev_lcmp dL_law_867 ?_
  exact ev_if_eq (tgt := 1515) dL_law_868 (by decide) (fun _ => ev_widen (Nat.le_add_right _ _) (Nat.le_add_right _ _) (hK _ _ _ hJ2)) (fun hne => absurd (by rw [hr]; exact lg_cmp_self _) hne)
set_option maxHeartbeats 4000000 in
set_option maxRecDepth 100000 in
theorem lwc_18 {E : xE} {b L : Nat} {xs : Nat → Int32} {nm : String} {J : xm → xr → Nat → Prop} (HS : lwS_18 J) (HJ : ∀ μ R n, J μ R n → xFin R n ∧ ∃ k, n = 107 + 2 * k) {i : Int32} {μ : xm} {R : xr} {n ce sl : Nat} (hce : ce + 2 ≤ 600000) (hsl : sl + 13 ≤ 7302250) (v1 : vp_in (i + 1) L) (v2 : vp_in (i + 2) L) (v3 : vp_in (i + 3) L) (v4 : vp_in (i + 4) L) (v5 : vp_in (i + 5) L) (v6 : vp_in (i + 6) L) (hJ : J μ R n) (hK : ∀ (ν : xm) (S : xr) (n' : Nat), J ν S n' → Ev E (lwC b L xs E.2.2.2) (lwY nm) 1515 [(0, .ref b), (1, .ref (E.2.2.2 + iC)), (2, .ref (E.2.2.2 + iM)), (3, .int i)] [] (xσ ν S) n' (ce + 2) (sl + 13)) : Ev E (lwC b L xs E.2.2.2) (lwY nm) 873 [(0, .ref b), (1, .ref (E.2.2.2 + iC)), (2, .ref (E.2.2.2 + iM)), (3, .int i)] [] (xσ μ R) n ce sl := by
  obtain ⟨hF, hn⟩ := HJ μ R n hJ
  have HS := HS μ R n  hJ
  obtain ⟨q, hq, q2, hq2, hr, hJ2⟩ := HS
  refine ev_aload_n 1 dL_law_873 rfl rfl ?_
  refine ev_callV (ci := 11) (As := []) (rest := []) 0 (kX11_round (E := E) (d := 6) (QQ := (fun v τ n' => v = some (.int q.1) ∧ τ = xσ q.2 R ∧ n = n')) (Nat.le_refl _) hF hq (⟨rfl, rfl, rfl⟩)) my_X11_round ⟨m_888, m_889, m_890⟩ cl_11 kd_0 (xl hF rfl) rfl rfl (Nat.le_of_ble_eq_true rfl) (Nat.le_of_ble_eq_true rfl) (Nat.le_of_ble_eq_true rfl) (Nat.le_trans (Nat.le_add_right _ _) hce) (Nat.le_trans (Nat.le_add_right _ _) hsl) dL_law_874 (fun v τ n' hv => ?_)
  obtain ⟨rfl, rfl, rfl⟩ := hv
  have hF1 := hF
  show Ev E (lwC b L xs E.2.2.2) (lwY nm) 877 [(0, .ref b), (1, .ref (E.2.2.2 + iC)), (2, .ref (E.2.2.2 + iM)), (3, .int i)] [.int q.1] (xσ q.2 R) n ce sl
  refine ev_aload_n 2 dL_law_877 rfl rfl ?_
  refine ev_callV (ci := 12) (As := []) (rest := [.int q.1]) 0 (kX12_round (E := E) (d := 4) (QQ := (fun v τ n' => v = some (.int q2.1) ∧ τ = xσ q2.2 R ∧ n = n')) (Nat.le_refl _) hF1 hq2 (⟨rfl, rfl, rfl⟩)) my_X12_round ⟨m_1697, m_1698, m_1699⟩ cl_12 kd_61 (xl hF1 rfl) rfl rfl (Nat.le_of_ble_eq_true rfl) (Nat.le_of_ble_eq_true rfl) (Nat.le_of_ble_eq_true rfl) (Nat.le_trans (Nat.le_add_right _ _) hce) (Nat.le_trans (Nat.le_add_right _ _) hsl) dL_law_878 (fun v τ n' hv => ?_)
  obtain ⟨rfl, rfl, rfl⟩ := hv
  show Ev E (lwC b L xs E.2.2.2) (lwY nm) 881 [(0, .ref b), (1, .ref (E.2.2.2 + iC)), (2, .ref (E.2.2.2 + iM)), (3, .int i)] [.int q2.1, .int q.1] (xσ q2.2 R) n ce sl
  exact ev_icmp_eq (tgt := 1515) dL_law_881 (by decide) (fun _ => ev_widen (Nat.le_add_right _ _) (Nat.le_add_right _ _) (hK _ _ _ hJ2)) (fun hne => absurd hr.symm hne)
set_option maxHeartbeats 4000000 in
set_option maxRecDepth 100000 in
theorem lwc_19 {E : xE} {b L : Nat} {xs : Nat → Int32} {nm : String} {J : xm → xr → Nat → Prop} (HS : lwS_19 J) (HJ : ∀ μ R n, J μ R n → xFin R n ∧ ∃ k, n = 107 + 2 * k) {i : Int32} {μ : xm} {R : xr} {n ce sl : Nat} (hce : ce + 2 ≤ 600000) (hsl : sl + 13 ≤ 7302250) (v1 : vp_in (i + 1) L) (v2 : vp_in (i + 2) L) (v3 : vp_in (i + 3) L) (v4 : vp_in (i + 4) L) (v5 : vp_in (i + 5) L) (v6 : vp_in (i + 6) L) (hJ : J μ R n) (hK : ∀ (ν : xm) (S : xr) (n' : Nat), J ν S n' → Ev E (lwC b L xs E.2.2.2) (lwY nm) 1515 [(0, .ref b), (1, .ref (E.2.2.2 + iC)), (2, .ref (E.2.2.2 + iM)), (3, .int i)] [] (xσ ν S) n' (ce + 2) (sl + 13)) : Ev E (lwC b L xs E.2.2.2) (lwY nm) 886 [(0, .ref b), (1, .ref (E.2.2.2 + iC)), (2, .ref (E.2.2.2 + iM)), (3, .int i)] [] (xσ μ R) n ce sl := by
  obtain ⟨hF, hn⟩ := HJ μ R n hJ
  have HS := HS μ R n  hJ
  obtain ⟨q, hq, q2, hq2, hr, hJ2⟩ := HS
  refine ev_aload_n 1 dL_law_886 rfl rfl ?_
  refine ev_callV (ci := 11) (As := []) (rest := []) 0 (kX11_takings (E := E) (d := 3) (QQ := (fun v τ n' => v = some (.int q.1) ∧ τ = xσ q.2 R ∧ n = n')) (Nat.le_refl _) hF hq (⟨rfl, rfl, rfl⟩)) my_X11_takings ⟨m_945, m_946, m_947⟩ cl_11 kd_0 (xl hF rfl) rfl rfl (Nat.le_of_ble_eq_true rfl) (Nat.le_of_ble_eq_true rfl) (Nat.le_of_ble_eq_true rfl) (Nat.le_trans (Nat.le_add_right _ _) hce) (Nat.le_trans (Nat.le_add_right _ _) hsl) dL_law_887 (fun v τ n' hv => ?_)
  obtain ⟨rfl, rfl, rfl⟩ := hv
  have hF1 := hF
  show Ev E (lwC b L xs E.2.2.2) (lwY nm) 890 [(0, .ref b), (1, .ref (E.2.2.2 + iC)), (2, .ref (E.2.2.2 + iM)), (3, .int i)] [.int q.1] (xσ q.2 R) n ce sl
  refine ev_aload_n 2 dL_law_890 rfl rfl ?_
  refine ev_callV (ci := 12) (As := []) (rest := [.int q.1]) 0 (kX12_takings (E := E) (d := 4) (QQ := (fun v τ n' => v = some (.int q2.1) ∧ τ = xσ q2.2 R ∧ n = n')) (Nat.le_refl _) hF1 hq2 (⟨rfl, rfl, rfl⟩)) my_X12_takings ⟨m_1722, m_1723, m_1724⟩ cl_12 kd_61 (xl hF1 rfl) rfl rfl (Nat.le_of_ble_eq_true rfl) (Nat.le_of_ble_eq_true rfl) (Nat.le_of_ble_eq_true rfl) (Nat.le_trans (Nat.le_add_right _ _) hce) (Nat.le_trans (Nat.le_add_right _ _) hsl) dL_law_891 (fun v τ n' hv => ?_)
  obtain ⟨rfl, rfl, rfl⟩ := hv
  show Ev E (lwC b L xs E.2.2.2) (lwY nm) 894 [(0, .ref b), (1, .ref (E.2.2.2 + iC)), (2, .ref (E.2.2.2 + iM)), (3, .int i)] [.int q2.1, .int q.1] (xσ q2.2 R) n ce sl
  exact ev_icmp_eq (tgt := 1515) dL_law_894 (by decide) (fun _ => ev_widen (Nat.le_add_right _ _) (Nat.le_add_right _ _) (hK _ _ _ hJ2)) (fun hne => absurd hr.symm hne)
set_option maxHeartbeats 4000000 in
set_option maxRecDepth 100000 in
theorem lwc_20 {E : xE} {b L : Nat} {xs : Nat → Int32} {nm : String} {J : xm → xr → Nat → Prop} (HS : lwS_20 J) (HJ : ∀ μ R n, J μ R n → xFin R n ∧ ∃ k, n = 107 + 2 * k) {i : Int32} {μ : xm} {R : xr} {n ce sl : Nat} (hce : ce + 2 ≤ 600000) (hsl : sl + 13 ≤ 7302250) (v1 : vp_in (i + 1) L) (v2 : vp_in (i + 2) L) (v3 : vp_in (i + 3) L) (v4 : vp_in (i + 4) L) (v5 : vp_in (i + 5) L) (v6 : vp_in (i + 6) L) (hJ : J μ R n) (hK : ∀ (ν : xm) (S : xr) (n' : Nat), J ν S n' → Ev E (lwC b L xs E.2.2.2) (lwY nm) 1515 [(0, .ref b), (1, .ref (E.2.2.2 + iC)), (2, .ref (E.2.2.2 + iM)), (3, .int i)] [] (xσ ν S) n' (ce + 2) (sl + 13)) : Ev E (lwC b L xs E.2.2.2) (lwY nm) 899 [(0, .ref b), (1, .ref (E.2.2.2 + iC)), (2, .ref (E.2.2.2 + iM)), (3, .int i)] [] (xσ μ R) n ce sl := by
  obtain ⟨hF, hn⟩ := HJ μ R n hJ
  obtain ⟨a1, ha1⟩ : ∃ a, xs (i + 1).toNatClampNeg = a := ⟨_, rfl⟩
  obtain ⟨a2, ha2⟩ : ∃ a, xs (i + 2).toNatClampNeg = a := ⟨_, rfl⟩
  obtain ⟨a3, ha3⟩ : ∃ a, xs (i + 3).toNatClampNeg = a := ⟨_, rfl⟩
  have HS := HS μ R n a1 a2 a3 hJ
  obtain ⟨q, hq, q2, hq2, hr, hJ2⟩ := HS
  refine ev_aload_n 1 dL_law_899 rfl rfl ?_
  refine ev_aload_n 0 dL_law_900 rfl rfl ?_
  refine ev_iload_n 3 dL_law_901 rfl rfl ?_
  refine ev_iconst (v := 1) dL_law_902 (by decide) ?_
  refine ev_iadd dL_law_903 ?_
  refine ev_sld v1 ha1 dL_law_904 ?_
  refine ev_aload_n 0 dL_law_905 rfl rfl ?_
  refine ev_iload_n 3 dL_law_906 rfl rfl ?_
  refine ev_iconst (v := 2) dL_law_907 (by decide) ?_
  refine ev_iadd dL_law_908 ?_
  refine ev_sld v2 ha2 dL_law_909 ?_
  refine ev_aload_n 0 dL_law_910 rfl rfl ?_
  refine ev_iload_n 3 dL_law_911 rfl rfl ?_
  refine ev_iconst (v := 3) dL_law_912 (by decide) ?_
  refine ev_iadd dL_law_913 ?_
  refine ev_sld v3 ha3 dL_law_914 ?_
  refine ev_callV (ci := 11) (As := [.int a1, .int a2, .int a3]) (rest := []) 3 (kX11_end (E := E) (d := 2) (QQ := (fun v τ n' => v = some (.int q.1) ∧ τ = xσ q.2 R ∧ n = n')) (Nat.le_refl _) hF hq (⟨rfl, rfl, rfl⟩)) my_X11_end ⟨m_954, m_955, m_956⟩ cl_11 kd_0 (xl hF rfl) rfl rfl (Nat.le_of_ble_eq_true rfl) (Nat.le_of_ble_eq_true rfl) (Nat.le_of_ble_eq_true rfl) (Nat.le_trans (Nat.le_add_right _ _) hce) (Nat.le_trans (Nat.le_add_right _ _) hsl) dL_law_915 (fun v τ n' hv => ?_)
  obtain ⟨rfl, rfl, rfl⟩ := hv
  have hF1 := hF
  show Ev E (lwC b L xs E.2.2.2) (lwY nm) 918 [(0, .ref b), (1, .ref (E.2.2.2 + iC)), (2, .ref (E.2.2.2 + iM)), (3, .int i)] [.int q.1] (xσ q.2 R) n ce sl
  refine ev_aload_n 2 dL_law_918 rfl rfl ?_
  refine ev_aload_n 0 dL_law_919 rfl rfl ?_
  refine ev_iload_n 3 dL_law_920 rfl rfl ?_
  refine ev_iconst (v := 1) dL_law_921 (by decide) ?_
  refine ev_iadd dL_law_922 ?_
  refine ev_sld v1 ha1 dL_law_923 ?_
  refine ev_aload_n 0 dL_law_924 rfl rfl ?_
  refine ev_iload_n 3 dL_law_925 rfl rfl ?_
  refine ev_iconst (v := 2) dL_law_926 (by decide) ?_
  refine ev_iadd dL_law_927 ?_
  refine ev_sld v2 ha2 dL_law_928 ?_
  refine ev_aload_n 0 dL_law_929 rfl rfl ?_
  refine ev_iload_n 3 dL_law_930 rfl rfl ?_
  refine ev_iconst (v := 3) dL_law_931 (by decide) ?_
  refine ev_iadd dL_law_932 ?_
  refine ev_sld v3 ha3 dL_law_933 ?_
  refine ev_callV (ci := 12) (As := [.int a1, .int a2, .int a3]) (rest := [.int q.1]) 3 (kX12_end (E := E) (d := 1) (QQ := (fun v τ n' => v = some (.int q2.1) ∧ τ = xσ q2.2 R ∧ n = n')) (Nat.le_refl _) hF1 hq2 (⟨rfl, rfl, rfl⟩)) my_X12_end ⟨m_1726, m_1727, m_1728⟩ cl_12 kd_61 (xl hF1 rfl) rfl rfl (Nat.le_of_ble_eq_true rfl) (Nat.le_of_ble_eq_true rfl) (Nat.le_of_ble_eq_true rfl) (Nat.le_trans (Nat.le_add_right _ _) hce) (Nat.le_trans (Nat.le_add_right _ _) hsl) dL_law_934 (fun v τ n' hv => ?_)
  obtain ⟨rfl, rfl, rfl⟩ := hv
  show Ev E (lwC b L xs E.2.2.2) (lwY nm) 937 [(0, .ref b), (1, .ref (E.2.2.2 + iC)), (2, .ref (E.2.2.2 + iM)), (3, .int i)] [.int q2.1, .int q.1] (xσ q2.2 R) n ce sl
  exact ev_icmp_eq (tgt := 1515) dL_law_937 (by decide) (fun _ => ev_widen (Nat.le_add_right _ _) (Nat.le_add_right _ _) (hK _ _ _ hJ2)) (fun hne => absurd hr.symm hne)
set_option maxHeartbeats 4000000 in
set_option maxRecDepth 100000 in
theorem lwc_21 {E : xE} {b L : Nat} {xs : Nat → Int32} {nm : String} {J : xm → xr → Nat → Prop} (HS : lwS_21 J) (HJ : ∀ μ R n, J μ R n → xFin R n ∧ ∃ k, n = 107 + 2 * k) {i : Int32} {μ : xm} {R : xr} {n ce sl : Nat} (hce : ce + 2 ≤ 600000) (hsl : sl + 13 ≤ 7302250) (v1 : vp_in (i + 1) L) (v2 : vp_in (i + 2) L) (v3 : vp_in (i + 3) L) (v4 : vp_in (i + 4) L) (v5 : vp_in (i + 5) L) (v6 : vp_in (i + 6) L) (hJ : J μ R n) (hK : ∀ (ν : xm) (S : xr) (n' : Nat), J ν S n' → Ev E (lwC b L xs E.2.2.2) (lwY nm) 1515 [(0, .ref b), (1, .ref (E.2.2.2 + iC)), (2, .ref (E.2.2.2 + iM)), (3, .int i)] [] (xσ ν S) n' (ce + 2) (sl + 13)) : Ev E (lwC b L xs E.2.2.2) (lwY nm) 942 [(0, .ref b), (1, .ref (E.2.2.2 + iC)), (2, .ref (E.2.2.2 + iM)), (3, .int i)] [] (xσ μ R) n ce sl := by
  obtain ⟨hF, hn⟩ := HJ μ R n hJ
  obtain ⟨a1, ha1⟩ : ∃ a, xs (i + 1).toNatClampNeg = a := ⟨_, rfl⟩
  obtain ⟨a2, ha2⟩ : ∃ a, xs (i + 2).toNatClampNeg = a := ⟨_, rfl⟩
  obtain ⟨a3, ha3⟩ : ∃ a, xs (i + 3).toNatClampNeg = a := ⟨_, rfl⟩
  have HS := HS μ R n a1 a2 a3 hJ
  obtain ⟨q, hq, q2, hq2, hr, hJ2⟩ := HS
  refine ev_aload_n 1 dL_law_942 rfl rfl ?_
  refine ev_aload_n 0 dL_law_943 rfl rfl ?_
  refine ev_iload_n 3 dL_law_944 rfl rfl ?_
  refine ev_iconst (v := 1) dL_law_945 (by decide) ?_
  refine ev_iadd dL_law_946 ?_
  refine ev_sld v1 ha1 dL_law_947 ?_
  refine ev_aload_n 0 dL_law_948 rfl rfl ?_
  refine ev_iload_n 3 dL_law_949 rfl rfl ?_
  refine ev_iconst (v := 2) dL_law_950 (by decide) ?_
  refine ev_iadd dL_law_951 ?_
  refine ev_sld v2 ha2 dL_law_952 ?_
  refine ev_aload_n 0 dL_law_953 rfl rfl ?_
  refine ev_iload_n 3 dL_law_954 rfl rfl ?_
  refine ev_iconst (v := 3) dL_law_955 (by decide) ?_
  refine ev_iadd dL_law_956 ?_
  refine ev_sld v3 ha3 dL_law_957 ?_
  refine ev_callV (ci := 11) (As := [.int a1, .int a2, .int a3]) (rest := []) 3 (kX11_bridge (E := E) (d := 1) (QQ := (fun v τ n' => v = some (.int q.1) ∧ τ = xσ q.2 R ∧ n = n')) (Nat.le_refl _) hF hq (⟨rfl, rfl, rfl⟩)) my_X11_bridge ⟨m_963, m_964, m_965⟩ cl_11 kd_0 (xl hF rfl) rfl rfl (Nat.le_of_ble_eq_true rfl) (Nat.le_of_ble_eq_true rfl) (Nat.le_of_ble_eq_true rfl) (Nat.le_trans (Nat.le_add_right _ _) hce) (Nat.le_trans (Nat.le_add_right _ _) hsl) dL_law_958 (fun v τ n' hv => ?_)
  obtain ⟨rfl, rfl, rfl⟩ := hv
  have hF1 := hF
  show Ev E (lwC b L xs E.2.2.2) (lwY nm) 961 [(0, .ref b), (1, .ref (E.2.2.2 + iC)), (2, .ref (E.2.2.2 + iM)), (3, .int i)] [.int q.1] (xσ q.2 R) n ce sl
  refine ev_aload_n 2 dL_law_961 rfl rfl ?_
  refine ev_aload_n 0 dL_law_962 rfl rfl ?_
  refine ev_iload_n 3 dL_law_963 rfl rfl ?_
  refine ev_iconst (v := 1) dL_law_964 (by decide) ?_
  refine ev_iadd dL_law_965 ?_
  refine ev_sld v1 ha1 dL_law_966 ?_
  refine ev_aload_n 0 dL_law_967 rfl rfl ?_
  refine ev_iload_n 3 dL_law_968 rfl rfl ?_
  refine ev_iconst (v := 2) dL_law_969 (by decide) ?_
  refine ev_iadd dL_law_970 ?_
  refine ev_sld v2 ha2 dL_law_971 ?_
  refine ev_aload_n 0 dL_law_972 rfl rfl ?_
  refine ev_iload_n 3 dL_law_973 rfl rfl ?_
  refine ev_iconst (v := 3) dL_law_974 (by decide) ?_
  refine ev_iadd dL_law_975 ?_
  refine ev_sld v3 ha3 dL_law_976 ?_
  refine ev_callV (ci := 12) (As := [.int a1, .int a2, .int a3]) (rest := [.int q.1]) 3 (kX12_bridge (E := E) (d := 1) (QQ := (fun v τ n' => v = some (.int q2.1) ∧ τ = xσ q2.2 R ∧ n = n')) (Nat.le_refl _) hF1 hq2 (⟨rfl, rfl, rfl⟩)) my_X12_bridge ⟨m_1730, m_1731, m_1732⟩ cl_12 kd_61 (xl hF1 rfl) rfl rfl (Nat.le_of_ble_eq_true rfl) (Nat.le_of_ble_eq_true rfl) (Nat.le_of_ble_eq_true rfl) (Nat.le_trans (Nat.le_add_right _ _) hce) (Nat.le_trans (Nat.le_add_right _ _) hsl) dL_law_977 (fun v τ n' hv => ?_)
  obtain ⟨rfl, rfl, rfl⟩ := hv
  show Ev E (lwC b L xs E.2.2.2) (lwY nm) 980 [(0, .ref b), (1, .ref (E.2.2.2 + iC)), (2, .ref (E.2.2.2 + iM)), (3, .int i)] [.int q2.1, .int q.1] (xσ q2.2 R) n ce sl
  exact ev_icmp_eq (tgt := 1515) dL_law_980 (by decide) (fun _ => ev_widen (Nat.le_add_right _ _) (Nat.le_add_right _ _) (hK _ _ _ hJ2)) (fun hne => absurd hr.symm hne)
set_option maxHeartbeats 4000000 in
set_option maxRecDepth 100000 in
theorem lwc_22 {E : xE} {b L : Nat} {xs : Nat → Int32} {nm : String} {J : xm → xr → Nat → Prop} (HS : lwS_22 J) (HJ : ∀ μ R n, J μ R n → xFin R n ∧ ∃ k, n = 107 + 2 * k) {i : Int32} {μ : xm} {R : xr} {n ce sl : Nat} (hce : ce + 2 ≤ 600000) (hsl : sl + 13 ≤ 7302250) (v1 : vp_in (i + 1) L) (v2 : vp_in (i + 2) L) (v3 : vp_in (i + 3) L) (v4 : vp_in (i + 4) L) (v5 : vp_in (i + 5) L) (v6 : vp_in (i + 6) L) (hJ : J μ R n) (hK : ∀ (ν : xm) (S : xr) (n' : Nat), J ν S n' → Ev E (lwC b L xs E.2.2.2) (lwY nm) 1515 [(0, .ref b), (1, .ref (E.2.2.2 + iC)), (2, .ref (E.2.2.2 + iM)), (3, .int i)] [] (xσ ν S) n' (ce + 2) (sl + 13)) : Ev E (lwC b L xs E.2.2.2) (lwY nm) 985 [(0, .ref b), (1, .ref (E.2.2.2 + iC)), (2, .ref (E.2.2.2 + iM)), (3, .int i)] [] (xσ μ R) n ce sl := by
  obtain ⟨hF, hn⟩ := HJ μ R n hJ
  obtain ⟨a1, ha1⟩ : ∃ a, xs (i + 1).toNatClampNeg = a := ⟨_, rfl⟩
  obtain ⟨a2, ha2⟩ : ∃ a, xs (i + 2).toNatClampNeg = a := ⟨_, rfl⟩
  have HS := HS μ R n a1 a2 hJ
  obtain ⟨q, hq, q2, hq2, hr, hJ2⟩ := HS
  by_cases hz0 : a2 = 0
  · rw [if_pos hz0] at hq hq2
    refine ev_aload_n 1 dL_law_985 rfl rfl ?_
    refine ev_aload_n 0 dL_law_986 rfl rfl ?_
    refine ev_iload_n 3 dL_law_987 rfl rfl ?_
    refine ev_iconst (v := 1) dL_law_988 (by decide) ?_
    refine ev_iadd dL_law_989 ?_
    refine ev_sld v1 ha1 dL_law_990 ?_
    refine ev_aload_n 0 dL_law_991 rfl rfl ?_
    refine ev_iload_n 3 dL_law_992 rfl rfl ?_
    refine ev_iconst (v := 2) dL_law_993 (by decide) ?_
    refine ev_iadd dL_law_994 ?_
    refine ev_sld v2 ha2 dL_law_995 ?_
    refine ev_if_eq (tgt := 1003) dL_law_996 (by decide) (fun _ => ?_) (fun hz => absurd hz0 hz)
    refine ev_iconst (v := 0) dL_law_1003 (by decide) ?_
    refine ev_callV (ci := 11) (As := [.int a1, .int 0]) (rest := []) 2 (kX11_crosses (E := E) (d := 2) (QQ := (fun v τ n' => v = some (.int q.1) ∧ τ = xσ q.2 R ∧ n = n')) (Nat.le_refl _) hF hq (⟨rfl, rfl, rfl⟩)) my_X11_crosses ⟨m_971, m_972, m_973⟩ cl_11 kd_0 (xl hF rfl) rfl rfl (Nat.le_of_ble_eq_true rfl) (Nat.le_of_ble_eq_true rfl) (Nat.le_of_ble_eq_true rfl) (Nat.le_trans (Nat.le_add_right _ _) hce) (Nat.le_trans (Nat.le_add_right _ _) hsl) dL_law_1004 (fun v τ n' hv => ?_)
    obtain ⟨rfl, rfl, rfl⟩ := hv
    have hF1 := hF
    show Ev E (lwC b L xs E.2.2.2) (lwY nm) 1007 [(0, .ref b), (1, .ref (E.2.2.2 + iC)), (2, .ref (E.2.2.2 + iM)), (3, .int i)] [.int q.1] (xσ q.2 R) n ce sl
    refine ev_aload_n 2 dL_law_1007 rfl rfl ?_
    refine ev_aload_n 0 dL_law_1008 rfl rfl ?_
    refine ev_iload_n 3 dL_law_1009 rfl rfl ?_
    refine ev_iconst (v := 1) dL_law_1010 (by decide) ?_
    refine ev_iadd dL_law_1011 ?_
    refine ev_sld v1 ha1 dL_law_1012 ?_
    refine ev_aload_n 0 dL_law_1013 rfl rfl ?_
    refine ev_iload_n 3 dL_law_1014 rfl rfl ?_
    refine ev_iconst (v := 2) dL_law_1015 (by decide) ?_
    refine ev_iadd dL_law_1016 ?_
    refine ev_sld v2 ha2 dL_law_1017 ?_
    refine ev_if_eq (tgt := 1025) dL_law_1018 (by decide) (fun _ => ?_) (fun hz => absurd hz0 hz)
    refine ev_iconst (v := 0) dL_law_1025 (by decide) ?_
    refine ev_callV (ci := 12) (As := [.int a1, .int 0]) (rest := [.int q.1]) 2 (kX12_crosses (E := E) (d := 1) (QQ := (fun v τ n' => v = some (.int q2.1) ∧ τ = xσ q2.2 R ∧ n = n')) (Nat.le_refl _) hF1 hq2 (⟨rfl, rfl, rfl⟩)) my_X12_crosses ⟨m_1734, m_1735, m_1736⟩ cl_12 kd_61 (xl hF1 rfl) rfl rfl (Nat.le_of_ble_eq_true rfl) (Nat.le_of_ble_eq_true rfl) (Nat.le_of_ble_eq_true rfl) (Nat.le_trans (Nat.le_add_right _ _) hce) (Nat.le_trans (Nat.le_add_right _ _) hsl) dL_law_1026 (fun v τ n' hv => ?_)
    obtain ⟨rfl, rfl, rfl⟩ := hv
    show Ev E (lwC b L xs E.2.2.2) (lwY nm) 1029 [(0, .ref b), (1, .ref (E.2.2.2 + iC)), (2, .ref (E.2.2.2 + iM)), (3, .int i)] [.int q2.1, .int q.1] (xσ q2.2 R) n ce sl
    exact ev_icmp_eq (tgt := 1515) dL_law_1029 (by decide) (fun _ => ev_widen (Nat.le_add_right _ _) (Nat.le_add_right _ _) (hK _ _ _ hJ2)) (fun hne => absurd hr.symm hne)
  · rw [if_neg hz0] at hq hq2
    refine ev_aload_n 1 dL_law_985 rfl rfl ?_
    refine ev_aload_n 0 dL_law_986 rfl rfl ?_
    refine ev_iload_n 3 dL_law_987 rfl rfl ?_
    refine ev_iconst (v := 1) dL_law_988 (by decide) ?_
    refine ev_iadd dL_law_989 ?_
    refine ev_sld v1 ha1 dL_law_990 ?_
    refine ev_aload_n 0 dL_law_991 rfl rfl ?_
    refine ev_iload_n 3 dL_law_992 rfl rfl ?_
    refine ev_iconst (v := 2) dL_law_993 (by decide) ?_
    refine ev_iadd dL_law_994 ?_
    refine ev_sld v2 ha2 dL_law_995 ?_
    refine ev_if_eq (tgt := 1003) dL_law_996 (by decide) (fun hz => absurd hz hz0) (fun _ => ?_)
    refine ev_iconst (v := 1) dL_law_999 (by decide) ?_
    refine ev_goto (tgt := 1004) dL_law_1000 (by decide) ?_
    refine ev_callV (ci := 11) (As := [.int a1, .int 1]) (rest := []) 2 (kX11_crosses (E := E) (d := 2) (QQ := (fun v τ n' => v = some (.int q.1) ∧ τ = xσ q.2 R ∧ n = n')) (Nat.le_refl _) hF hq (⟨rfl, rfl, rfl⟩)) my_X11_crosses ⟨m_971, m_972, m_973⟩ cl_11 kd_0 (xl hF rfl) rfl rfl (Nat.le_of_ble_eq_true rfl) (Nat.le_of_ble_eq_true rfl) (Nat.le_of_ble_eq_true rfl) (Nat.le_trans (Nat.le_add_right _ _) hce) (Nat.le_trans (Nat.le_add_right _ _) hsl) dL_law_1004 (fun v τ n' hv => ?_)
    obtain ⟨rfl, rfl, rfl⟩ := hv
    have hF1 := hF
    show Ev E (lwC b L xs E.2.2.2) (lwY nm) 1007 [(0, .ref b), (1, .ref (E.2.2.2 + iC)), (2, .ref (E.2.2.2 + iM)), (3, .int i)] [.int q.1] (xσ q.2 R) n ce sl
    refine ev_aload_n 2 dL_law_1007 rfl rfl ?_
    refine ev_aload_n 0 dL_law_1008 rfl rfl ?_
    refine ev_iload_n 3 dL_law_1009 rfl rfl ?_
    refine ev_iconst (v := 1) dL_law_1010 (by decide) ?_
    refine ev_iadd dL_law_1011 ?_
    refine ev_sld v1 ha1 dL_law_1012 ?_
    refine ev_aload_n 0 dL_law_1013 rfl rfl ?_
    refine ev_iload_n 3 dL_law_1014 rfl rfl ?_
    refine ev_iconst (v := 2) dL_law_1015 (by decide) ?_
    refine ev_iadd dL_law_1016 ?_
    refine ev_sld v2 ha2 dL_law_1017 ?_
    refine ev_if_eq (tgt := 1025) dL_law_1018 (by decide) (fun hz => absurd hz hz0) (fun _ => ?_)
    refine ev_iconst (v := 1) dL_law_1021 (by decide) ?_
    refine ev_goto (tgt := 1026) dL_law_1022 (by decide) ?_
    refine ev_callV (ci := 12) (As := [.int a1, .int 1]) (rest := [.int q.1]) 2 (kX12_crosses (E := E) (d := 1) (QQ := (fun v τ n' => v = some (.int q2.1) ∧ τ = xσ q2.2 R ∧ n = n')) (Nat.le_refl _) hF1 hq2 (⟨rfl, rfl, rfl⟩)) my_X12_crosses ⟨m_1734, m_1735, m_1736⟩ cl_12 kd_61 (xl hF1 rfl) rfl rfl (Nat.le_of_ble_eq_true rfl) (Nat.le_of_ble_eq_true rfl) (Nat.le_of_ble_eq_true rfl) (Nat.le_trans (Nat.le_add_right _ _) hce) (Nat.le_trans (Nat.le_add_right _ _) hsl) dL_law_1026 (fun v τ n' hv => ?_)
    obtain ⟨rfl, rfl, rfl⟩ := hv
    show Ev E (lwC b L xs E.2.2.2) (lwY nm) 1029 [(0, .ref b), (1, .ref (E.2.2.2 + iC)), (2, .ref (E.2.2.2 + iM)), (3, .int i)] [.int q2.1, .int q.1] (xσ q2.2 R) n ce sl
    exact ev_icmp_eq (tgt := 1515) dL_law_1029 (by decide) (fun _ => ev_widen (Nat.le_add_right _ _) (Nat.le_add_right _ _) (hK _ _ _ hJ2)) (fun hne => absurd hr.symm hne)
set_option maxHeartbeats 4000000 in
set_option maxRecDepth 100000 in
theorem lwc_23 {E : xE} {b L : Nat} {xs : Nat → Int32} {nm : String} {J : xm → xr → Nat → Prop} (HS : lwS_23 J) (HJ : ∀ μ R n, J μ R n → xFin R n ∧ ∃ k, n = 107 + 2 * k) {i : Int32} {μ : xm} {R : xr} {n ce sl : Nat} (hce : ce + 2 ≤ 600000) (hsl : sl + 13 ≤ 7302250) (v1 : vp_in (i + 1) L) (v2 : vp_in (i + 2) L) (v3 : vp_in (i + 3) L) (v4 : vp_in (i + 4) L) (v5 : vp_in (i + 5) L) (v6 : vp_in (i + 6) L) (hJ : J μ R n) (hK : ∀ (ν : xm) (S : xr) (n' : Nat), J ν S n' → Ev E (lwC b L xs E.2.2.2) (lwY nm) 1515 [(0, .ref b), (1, .ref (E.2.2.2 + iC)), (2, .ref (E.2.2.2 + iM)), (3, .int i)] [] (xσ ν S) n' (ce + 2) (sl + 13)) : Ev E (lwC b L xs E.2.2.2) (lwY nm) 1034 [(0, .ref b), (1, .ref (E.2.2.2 + iC)), (2, .ref (E.2.2.2 + iM)), (3, .int i)] [] (xσ μ R) n ce sl := by
  obtain ⟨hF, hn⟩ := HJ μ R n hJ
  obtain ⟨a1, ha1⟩ : ∃ a, xs (i + 1).toNatClampNeg = a := ⟨_, rfl⟩
  obtain ⟨a2, ha2⟩ : ∃ a, xs (i + 2).toNatClampNeg = a := ⟨_, rfl⟩
  obtain ⟨a3, ha3⟩ : ∃ a, xs (i + 3).toNatClampNeg = a := ⟨_, rfl⟩
  have HS := HS μ R n a1 a2 a3 hJ
  obtain ⟨q, hq, q2, hq2, hr, hJ2⟩ := HS
  refine ev_aload_n 1 dL_law_1034 rfl rfl ?_
  refine ev_aload_n 0 dL_law_1035 rfl rfl ?_
  refine ev_iload_n 3 dL_law_1036 rfl rfl ?_
  refine ev_iconst (v := 1) dL_law_1037 (by decide) ?_
  refine ev_iadd dL_law_1038 ?_
  refine ev_sld v1 ha1 dL_law_1039 ?_
  refine ev_aload_n 0 dL_law_1040 rfl rfl ?_
  refine ev_iload_n 3 dL_law_1041 rfl rfl ?_
  refine ev_iconst (v := 2) dL_law_1042 (by decide) ?_
  refine ev_iadd dL_law_1043 ?_
  refine ev_sld v2 ha2 dL_law_1044 ?_
  refine ev_aload_n 0 dL_law_1045 rfl rfl ?_
  refine ev_iload_n 3 dL_law_1046 rfl rfl ?_
  refine ev_iconst (v := 3) dL_law_1047 (by decide) ?_
  refine ev_iadd dL_law_1048 ?_
  refine ev_sld v3 ha3 dL_law_1049 ?_
  refine ev_callV (ci := 11) (As := [.int a1, .int a2, .int a3]) (rest := []) 3 (kX11_lateIf (E := E) (d := 4) (QQ := (fun v τ n' => v = some (.int q) ∧ τ = xσ μ R ∧ n = n')) (Nat.le_refl _) hF hq (⟨rfl, rfl, rfl⟩)) my_X11_lateIf ⟨m_983, m_984, m_985⟩ cl_11 kd_0 (xl hF rfl) rfl rfl (Nat.le_of_ble_eq_true rfl) (Nat.le_of_ble_eq_true rfl) (Nat.le_of_ble_eq_true rfl) (Nat.le_trans (Nat.le_add_right _ _) hce) (Nat.le_trans (Nat.le_add_right _ _) hsl) dL_law_1050 (fun v τ n' hv => ?_)
  obtain ⟨rfl, rfl, rfl⟩ := hv
  have hF1 := hF
  show Ev E (lwC b L xs E.2.2.2) (lwY nm) 1053 [(0, .ref b), (1, .ref (E.2.2.2 + iC)), (2, .ref (E.2.2.2 + iM)), (3, .int i)] [.int q] (xσ μ R) n ce sl
  refine ev_aload_n 2 dL_law_1053 rfl rfl ?_
  refine ev_aload_n 0 dL_law_1054 rfl rfl ?_
  refine ev_iload_n 3 dL_law_1055 rfl rfl ?_
  refine ev_iconst (v := 1) dL_law_1056 (by decide) ?_
  refine ev_iadd dL_law_1057 ?_
  refine ev_sld v1 ha1 dL_law_1058 ?_
  refine ev_aload_n 0 dL_law_1059 rfl rfl ?_
  refine ev_iload_n 3 dL_law_1060 rfl rfl ?_
  refine ev_iconst (v := 2) dL_law_1061 (by decide) ?_
  refine ev_iadd dL_law_1062 ?_
  refine ev_sld v2 ha2 dL_law_1063 ?_
  refine ev_aload_n 0 dL_law_1064 rfl rfl ?_
  refine ev_iload_n 3 dL_law_1065 rfl rfl ?_
  refine ev_iconst (v := 3) dL_law_1066 (by decide) ?_
  refine ev_iadd dL_law_1067 ?_
  refine ev_sld v3 ha3 dL_law_1068 ?_
  refine ev_callV (ci := 12) (As := [.int a1, .int a2, .int a3]) (rest := [.int q]) 3 (kX12_lateIf (E := E) (d := 3) (QQ := (fun v τ n' => v = some (.int q2) ∧ τ = xσ μ R ∧ n = n')) (Nat.le_refl _) hF1 hq2 (⟨rfl, rfl, rfl⟩)) my_X12_lateIf ⟨m_1742, m_1743, m_1744⟩ cl_12 kd_61 (xl hF1 rfl) rfl rfl (Nat.le_of_ble_eq_true rfl) (Nat.le_of_ble_eq_true rfl) (Nat.le_of_ble_eq_true rfl) (Nat.le_trans (Nat.le_add_right _ _) hce) (Nat.le_trans (Nat.le_add_right _ _) hsl) dL_law_1069 (fun v τ n' hv => ?_)
  obtain ⟨rfl, rfl, rfl⟩ := hv
  show Ev E (lwC b L xs E.2.2.2) (lwY nm) 1072 [(0, .ref b), (1, .ref (E.2.2.2 + iC)), (2, .ref (E.2.2.2 + iM)), (3, .int i)] [.int q2, .int q] (xσ μ R) n ce sl
  exact ev_icmp_eq (tgt := 1515) dL_law_1072 (by decide) (fun _ => ev_widen (Nat.le_add_right _ _) (Nat.le_add_right _ _) (hK _ _ _ hJ2)) (fun hne => absurd hr.symm hne)
set_option maxHeartbeats 4000000 in
set_option maxRecDepth 100000 in
theorem lwc_24 {E : xE} {b L : Nat} {xs : Nat → Int32} {nm : String} {J : xm → xr → Nat → Prop} (HS : lwS_24 J) (HJ : ∀ μ R n, J μ R n → xFin R n ∧ ∃ k, n = 107 + 2 * k) {i : Int32} {μ : xm} {R : xr} {n ce sl : Nat} (hce : ce + 2 ≤ 600000) (hsl : sl + 13 ≤ 7302250) (v1 : vp_in (i + 1) L) (v2 : vp_in (i + 2) L) (v3 : vp_in (i + 3) L) (v4 : vp_in (i + 4) L) (v5 : vp_in (i + 5) L) (v6 : vp_in (i + 6) L) (hJ : J μ R n) (hK : ∀ (ν : xm) (S : xr) (n' : Nat), J ν S n' → Ev E (lwC b L xs E.2.2.2) (lwY nm) 1515 [(0, .ref b), (1, .ref (E.2.2.2 + iC)), (2, .ref (E.2.2.2 + iM)), (3, .int i)] [] (xσ ν S) n' (ce + 2) (sl + 13)) : Ev E (lwC b L xs E.2.2.2) (lwY nm) 1077 [(0, .ref b), (1, .ref (E.2.2.2 + iC)), (2, .ref (E.2.2.2 + iM)), (3, .int i)] [] (xσ μ R) n ce sl := by
  obtain ⟨hF, hn⟩ := HJ μ R n hJ
  obtain ⟨a1, ha1⟩ : ∃ a, xs (i + 1).toNatClampNeg = a := ⟨_, rfl⟩
  obtain ⟨a2, ha2⟩ : ∃ a, xs (i + 2).toNatClampNeg = a := ⟨_, rfl⟩
  obtain ⟨a3, ha3⟩ : ∃ a, xs (i + 3).toNatClampNeg = a := ⟨_, rfl⟩
  have HS := HS μ R n a1 a2 a3 hJ
  obtain ⟨q, hq, q2, hq2, hr, hJ2⟩ := HS
  refine ev_aload_n 1 dL_law_1077 rfl rfl ?_
  refine ev_aload_n 0 dL_law_1078 rfl rfl ?_
  refine ev_iload_n 3 dL_law_1079 rfl rfl ?_
  refine ev_iconst (v := 1) dL_law_1080 (by decide) ?_
  refine ev_iadd dL_law_1081 ?_
  refine ev_sld v1 ha1 dL_law_1082 ?_
  refine ev_aload_n 0 dL_law_1083 rfl rfl ?_
  refine ev_iload_n 3 dL_law_1084 rfl rfl ?_
  refine ev_iconst (v := 2) dL_law_1085 (by decide) ?_
  refine ev_iadd dL_law_1086 ?_
  refine ev_sld v2 ha2 dL_law_1087 ?_
  refine ev_aload_n 0 dL_law_1088 rfl rfl ?_
  refine ev_iload_n 3 dL_law_1089 rfl rfl ?_
  refine ev_iconst (v := 3) dL_law_1090 (by decide) ?_
  refine ev_iadd dL_law_1091 ?_
  refine ev_sld v3 ha3 dL_law_1092 ?_
  refine ev_callV (ci := 11) (As := [.int a1, .int a2, .int a3]) (rest := []) 3 (kX11_hang (E := E) (d := 5) (QQ := (fun v τ n' => v = some (.long q.1) ∧ τ = xσ q.2 R ∧ n = n')) (Nat.le_refl _) hF hq (⟨rfl, rfl, rfl⟩)) my_X11_hang ⟨m_1030, m_1031, m_1032⟩ cl_11 kd_0 (xl hF rfl) rfl rfl (Nat.le_of_ble_eq_true rfl) (Nat.le_of_ble_eq_true rfl) (Nat.le_of_ble_eq_true rfl) (Nat.le_trans (Nat.le_add_right _ _) hce) (Nat.le_trans (Nat.le_add_right _ _) hsl) dL_law_1093 (fun v τ n' hv => ?_)
  obtain ⟨rfl, rfl, rfl⟩ := hv
  have hF1 := hF
  show Ev E (lwC b L xs E.2.2.2) (lwY nm) 1096 [(0, .ref b), (1, .ref (E.2.2.2 + iC)), (2, .ref (E.2.2.2 + iM)), (3, .int i)] [.long q.1] (xσ q.2 R) n ce sl
  refine ev_aload_n 2 dL_law_1096 rfl rfl ?_
  refine ev_aload_n 0 dL_law_1097 rfl rfl ?_
  refine ev_iload_n 3 dL_law_1098 rfl rfl ?_
  refine ev_iconst (v := 1) dL_law_1099 (by decide) ?_
  refine ev_iadd dL_law_1100 ?_
  refine ev_sld v1 ha1 dL_law_1101 ?_
  refine ev_aload_n 0 dL_law_1102 rfl rfl ?_
  refine ev_iload_n 3 dL_law_1103 rfl rfl ?_
  refine ev_iconst (v := 2) dL_law_1104 (by decide) ?_
  refine ev_iadd dL_law_1105 ?_
  refine ev_sld v2 ha2 dL_law_1106 ?_
  refine ev_aload_n 0 dL_law_1107 rfl rfl ?_
  refine ev_iload_n 3 dL_law_1108 rfl rfl ?_
  refine ev_iconst (v := 3) dL_law_1109 (by decide) ?_
  refine ev_iadd dL_law_1110 ?_
  refine ev_sld v3 ha3 dL_law_1111 ?_
  refine ev_callV (ci := 12) (As := [.int a1, .int a2, .int a3]) (rest := [.long q.1]) 3 (kX12_hang (E := E) (d := 4) (QQ := (fun v τ n' => v = some (.long q2.1) ∧ τ = xσ q2.2 R ∧ n = n')) (Nat.le_refl _) hF1 hq2 (⟨rfl, rfl, rfl⟩)) my_X12_hang ⟨m_1773, m_1774, m_1775⟩ cl_12 kd_61 (xl hF1 rfl) rfl rfl (Nat.le_of_ble_eq_true rfl) (Nat.le_of_ble_eq_true rfl) (Nat.le_of_ble_eq_true rfl) (Nat.le_trans (Nat.le_add_right _ _) hce) (Nat.le_trans (Nat.le_add_right _ _) hsl) dL_law_1112 (fun v τ n' hv => ?_)
  obtain ⟨rfl, rfl, rfl⟩ := hv
  show Ev E (lwC b L xs E.2.2.2) (lwY nm) 1115 [(0, .ref b), (1, .ref (E.2.2.2 + iC)), (2, .ref (E.2.2.2 + iM)), (3, .int i)] [.long q2.1, .long q.1] (xσ q2.2 R) n ce sl
  refine ev_lcmp dL_law_1115 ?_
  exact ev_if_eq (tgt := 1515) dL_law_1116 (by decide) (fun _ => ev_widen (Nat.le_add_right _ _) (Nat.le_add_right _ _) (hK _ _ _ hJ2)) (fun hne => absurd (by rw [hr]; exact lg_cmp_self _) hne)
set_option maxHeartbeats 4000000 in
set_option maxRecDepth 100000 in
theorem lwc_25 {E : xE} {b L : Nat} {xs : Nat → Int32} {nm : String} {J : xm → xr → Nat → Prop} (HS : lwS_25 J) (HJ : ∀ μ R n, J μ R n → xFin R n ∧ ∃ k, n = 107 + 2 * k) {i : Int32} {μ : xm} {R : xr} {n ce sl : Nat} (hce : ce + 2 ≤ 600000) (hsl : sl + 13 ≤ 7302250) (v1 : vp_in (i + 1) L) (v2 : vp_in (i + 2) L) (v3 : vp_in (i + 3) L) (v4 : vp_in (i + 4) L) (v5 : vp_in (i + 5) L) (v6 : vp_in (i + 6) L) (hJ : J μ R n) (hK : ∀ (ν : xm) (S : xr) (n' : Nat), J ν S n' → Ev E (lwC b L xs E.2.2.2) (lwY nm) 1515 [(0, .ref b), (1, .ref (E.2.2.2 + iC)), (2, .ref (E.2.2.2 + iM)), (3, .int i)] [] (xσ ν S) n' (ce + 2) (sl + 13)) : Ev E (lwC b L xs E.2.2.2) (lwY nm) 1121 [(0, .ref b), (1, .ref (E.2.2.2 + iC)), (2, .ref (E.2.2.2 + iM)), (3, .int i)] [] (xσ μ R) n ce sl := by
  obtain ⟨hF, hn⟩ := HJ μ R n hJ
  obtain ⟨a1, ha1⟩ : ∃ a, xs (i + 1).toNatClampNeg = a := ⟨_, rfl⟩
  obtain ⟨a2, ha2⟩ : ∃ a, xs (i + 2).toNatClampNeg = a := ⟨_, rfl⟩
  obtain ⟨a3, ha3⟩ : ∃ a, xs (i + 3).toNatClampNeg = a := ⟨_, rfl⟩
  obtain ⟨a4, ha4⟩ : ∃ a, xs (i + 4).toNatClampNeg = a := ⟨_, rfl⟩
  have HS := HS μ R n a1 a2 a3 a4 hJ
  obtain ⟨q, hq, q2, hq2, hr, hJ2⟩ := HS
  refine ev_aload_n 1 dL_law_1121 rfl rfl ?_
  refine ev_aload_n 0 dL_law_1122 rfl rfl ?_
  refine ev_iload_n 3 dL_law_1123 rfl rfl ?_
  refine ev_iconst (v := 1) dL_law_1124 (by decide) ?_
  refine ev_iadd dL_law_1125 ?_
  refine ev_sld v1 ha1 dL_law_1126 ?_
  refine ev_aload_n 0 dL_law_1127 rfl rfl ?_
  refine ev_iload_n 3 dL_law_1128 rfl rfl ?_
  refine ev_iconst (v := 2) dL_law_1129 (by decide) ?_
  refine ev_iadd dL_law_1130 ?_
  refine ev_sld v2 ha2 dL_law_1131 ?_
  refine ev_aload_n 0 dL_law_1132 rfl rfl ?_
  refine ev_iload_n 3 dL_law_1133 rfl rfl ?_
  refine ev_iconst (v := 3) dL_law_1134 (by decide) ?_
  refine ev_iadd dL_law_1135 ?_
  refine ev_sld v3 ha3 dL_law_1136 ?_
  refine ev_aload_n 0 dL_law_1137 rfl rfl ?_
  refine ev_iload_n 3 dL_law_1138 rfl rfl ?_
  refine ev_iconst (v := 4) dL_law_1139 (by decide) ?_
  refine ev_iadd dL_law_1140 ?_
  refine ev_sld v4 ha4 dL_law_1141 ?_
  refine ev_callV (ci := 11) (As := [.int a1, .int a2, .int a3, .int a4]) (rest := []) 4 (kX11_cost (E := E) (d := 5) (QQ := (fun v τ n' => v = some (.long q) ∧ τ = xσ μ R ∧ n = n')) (Nat.le_refl _) hF hq (⟨rfl, rfl, rfl⟩)) my_X11_cost ⟨m_1046, m_1047, m_1048⟩ cl_11 kd_0 (xl hF rfl) rfl rfl (Nat.le_of_ble_eq_true rfl) (Nat.le_of_ble_eq_true rfl) (Nat.le_of_ble_eq_true rfl) (Nat.le_trans (Nat.le_add_right _ _) hce) (Nat.le_trans (Nat.le_add_right _ _) hsl) dL_law_1142 (fun v τ n' hv => ?_)
  obtain ⟨rfl, rfl, rfl⟩ := hv
  have hF1 := hF
  show Ev E (lwC b L xs E.2.2.2) (lwY nm) 1145 [(0, .ref b), (1, .ref (E.2.2.2 + iC)), (2, .ref (E.2.2.2 + iM)), (3, .int i)] [.long q] (xσ μ R) n ce sl
  refine ev_aload_n 2 dL_law_1145 rfl rfl ?_
  refine ev_aload_n 0 dL_law_1146 rfl rfl ?_
  refine ev_iload_n 3 dL_law_1147 rfl rfl ?_
  refine ev_iconst (v := 1) dL_law_1148 (by decide) ?_
  refine ev_iadd dL_law_1149 ?_
  refine ev_sld v1 ha1 dL_law_1150 ?_
  refine ev_aload_n 0 dL_law_1151 rfl rfl ?_
  refine ev_iload_n 3 dL_law_1152 rfl rfl ?_
  refine ev_iconst (v := 2) dL_law_1153 (by decide) ?_
  refine ev_iadd dL_law_1154 ?_
  refine ev_sld v2 ha2 dL_law_1155 ?_
  refine ev_aload_n 0 dL_law_1156 rfl rfl ?_
  refine ev_iload_n 3 dL_law_1157 rfl rfl ?_
  refine ev_iconst (v := 3) dL_law_1158 (by decide) ?_
  refine ev_iadd dL_law_1159 ?_
  refine ev_sld v3 ha3 dL_law_1160 ?_
  refine ev_aload_n 0 dL_law_1161 rfl rfl ?_
  refine ev_iload_n 3 dL_law_1162 rfl rfl ?_
  refine ev_iconst (v := 4) dL_law_1163 (by decide) ?_
  refine ev_iadd dL_law_1164 ?_
  refine ev_sld v4 ha4 dL_law_1165 ?_
  refine ev_callV (ci := 12) (As := [.int a1, .int a2, .int a3, .int a4]) (rest := [.long q]) 4 (kX12_cost (E := E) (d := 4) (QQ := (fun v τ n' => v = some (.long q2) ∧ τ = xσ μ R ∧ n = n')) (Nat.le_refl _) hF1 hq2 (⟨rfl, rfl, rfl⟩)) my_X12_cost ⟨m_1781, m_1782, m_1783⟩ cl_12 kd_61 (xl hF1 rfl) rfl rfl (Nat.le_of_ble_eq_true rfl) (Nat.le_of_ble_eq_true rfl) (Nat.le_of_ble_eq_true rfl) (Nat.le_trans (Nat.le_add_right _ _) hce) (Nat.le_trans (Nat.le_add_right _ _) hsl) dL_law_1166 (fun v τ n' hv => ?_)
  obtain ⟨rfl, rfl, rfl⟩ := hv
  show Ev E (lwC b L xs E.2.2.2) (lwY nm) 1169 [(0, .ref b), (1, .ref (E.2.2.2 + iC)), (2, .ref (E.2.2.2 + iM)), (3, .int i)] [.long q2, .long q] (xσ μ R) n ce sl
  refine ev_lcmp dL_law_1169 ?_
  exact ev_if_eq (tgt := 1515) dL_law_1170 (by decide) (fun _ => ev_widen (Nat.le_add_right _ _) (Nat.le_add_right _ _) (hK _ _ _ hJ2)) (fun hne => absurd (by rw [hr]; exact lg_cmp_self _) hne)
set_option maxHeartbeats 4000000 in
set_option maxRecDepth 100000 in
theorem lwc_26 {E : xE} {b L : Nat} {xs : Nat → Int32} {nm : String} {J : xm → xr → Nat → Prop} (HS : lwS_26 J) (HJ : ∀ μ R n, J μ R n → xFin R n ∧ ∃ k, n = 107 + 2 * k) {i : Int32} {μ : xm} {R : xr} {n ce sl : Nat} (hce : ce + 2 ≤ 600000) (hsl : sl + 13 ≤ 7302250) (v1 : vp_in (i + 1) L) (v2 : vp_in (i + 2) L) (v3 : vp_in (i + 3) L) (v4 : vp_in (i + 4) L) (v5 : vp_in (i + 5) L) (v6 : vp_in (i + 6) L) (hJ : J μ R n) (hK : ∀ (ν : xm) (S : xr) (n' : Nat), J ν S n' → Ev E (lwC b L xs E.2.2.2) (lwY nm) 1515 [(0, .ref b), (1, .ref (E.2.2.2 + iC)), (2, .ref (E.2.2.2 + iM)), (3, .int i)] [] (xσ ν S) n' (ce + 2) (sl + 13)) : Ev E (lwC b L xs E.2.2.2) (lwY nm) 1175 [(0, .ref b), (1, .ref (E.2.2.2 + iC)), (2, .ref (E.2.2.2 + iM)), (3, .int i)] [] (xσ μ R) n ce sl := by
  obtain ⟨hF, hn⟩ := HJ μ R n hJ
  obtain ⟨a1, ha1⟩ : ∃ a, xs (i + 1).toNatClampNeg = a := ⟨_, rfl⟩
  obtain ⟨a2, ha2⟩ : ∃ a, xs (i + 2).toNatClampNeg = a := ⟨_, rfl⟩
  obtain ⟨a3, ha3⟩ : ∃ a, xs (i + 3).toNatClampNeg = a := ⟨_, rfl⟩
  have HS := HS μ R n a1 a2 a3 hJ
  obtain ⟨q, hq, q2, hq2, hr, hJ2⟩ := HS
  refine ev_aload_n 1 dL_law_1175 rfl rfl ?_
  refine ev_aload_n 0 dL_law_1176 rfl rfl ?_
  refine ev_iload_n 3 dL_law_1177 rfl rfl ?_
  refine ev_iconst (v := 1) dL_law_1178 (by decide) ?_
  refine ev_iadd dL_law_1179 ?_
  refine ev_sld v1 ha1 dL_law_1180 ?_
  refine ev_aload_n 0 dL_law_1181 rfl rfl ?_
  refine ev_iload_n 3 dL_law_1182 rfl rfl ?_
  refine ev_iconst (v := 2) dL_law_1183 (by decide) ?_
  refine ev_iadd dL_law_1184 ?_
  refine ev_sld v2 ha2 dL_law_1185 ?_
  refine ev_aload_n 0 dL_law_1186 rfl rfl ?_
  refine ev_iload_n 3 dL_law_1187 rfl rfl ?_
  refine ev_iconst (v := 3) dL_law_1188 (by decide) ?_
  refine ev_iadd dL_law_1189 ?_
  refine ev_sld v3 ha3 dL_law_1190 ?_
  refine ev_callV (ci := 11) (As := [.int a1, .int a2, .int a3]) (rest := []) 3 (kX11_out (E := E) (d := 5) (QQ := (fun v τ n' => v = some (.int q) ∧ τ = xσ μ R ∧ n = n')) (Nat.le_refl _) hF hq (⟨rfl, rfl, rfl⟩)) my_X11_out ⟨m_1065, m_1066, m_1067⟩ cl_11 kd_0 (xl hF rfl) rfl rfl (Nat.le_of_ble_eq_true rfl) (Nat.le_of_ble_eq_true rfl) (Nat.le_of_ble_eq_true rfl) (Nat.le_trans (Nat.le_add_right _ _) hce) (Nat.le_trans (Nat.le_add_right _ _) hsl) dL_law_1191 (fun v τ n' hv => ?_)
  obtain ⟨rfl, rfl, rfl⟩ := hv
  have hF1 := hF
  show Ev E (lwC b L xs E.2.2.2) (lwY nm) 1194 [(0, .ref b), (1, .ref (E.2.2.2 + iC)), (2, .ref (E.2.2.2 + iM)), (3, .int i)] [.int q] (xσ μ R) n ce sl
  refine ev_aload_n 2 dL_law_1194 rfl rfl ?_
  refine ev_aload_n 0 dL_law_1195 rfl rfl ?_
  refine ev_iload_n 3 dL_law_1196 rfl rfl ?_
  refine ev_iconst (v := 1) dL_law_1197 (by decide) ?_
  refine ev_iadd dL_law_1198 ?_
  refine ev_sld v1 ha1 dL_law_1199 ?_
  refine ev_aload_n 0 dL_law_1200 rfl rfl ?_
  refine ev_iload_n 3 dL_law_1201 rfl rfl ?_
  refine ev_iconst (v := 2) dL_law_1202 (by decide) ?_
  refine ev_iadd dL_law_1203 ?_
  refine ev_sld v2 ha2 dL_law_1204 ?_
  refine ev_aload_n 0 dL_law_1205 rfl rfl ?_
  refine ev_iload_n 3 dL_law_1206 rfl rfl ?_
  refine ev_iconst (v := 3) dL_law_1207 (by decide) ?_
  refine ev_iadd dL_law_1208 ?_
  refine ev_sld v3 ha3 dL_law_1209 ?_
  refine ev_callV (ci := 12) (As := [.int a1, .int a2, .int a3]) (rest := [.int q]) 3 (kX12_out (E := E) (d := 4) (QQ := (fun v τ n' => v = some (.int q2) ∧ τ = xσ μ R ∧ n = n')) (Nat.le_refl _) hF1 hq2 (⟨rfl, rfl, rfl⟩)) my_X12_out ⟨m_1801, m_1802, m_1803⟩ cl_12 kd_61 (xl hF1 rfl) rfl rfl (Nat.le_of_ble_eq_true rfl) (Nat.le_of_ble_eq_true rfl) (Nat.le_of_ble_eq_true rfl) (Nat.le_trans (Nat.le_add_right _ _) hce) (Nat.le_trans (Nat.le_add_right _ _) hsl) dL_law_1210 (fun v τ n' hv => ?_)
  obtain ⟨rfl, rfl, rfl⟩ := hv
  show Ev E (lwC b L xs E.2.2.2) (lwY nm) 1213 [(0, .ref b), (1, .ref (E.2.2.2 + iC)), (2, .ref (E.2.2.2 + iM)), (3, .int i)] [.int q2, .int q] (xσ μ R) n ce sl
  exact ev_icmp_eq (tgt := 1515) dL_law_1213 (by decide) (fun _ => ev_widen (Nat.le_add_right _ _) (Nat.le_add_right _ _) (hK _ _ _ hJ2)) (fun hne => absurd hr.symm hne)
set_option maxHeartbeats 4000000 in
set_option maxRecDepth 100000 in
theorem lwc_27 {E : xE} {b L : Nat} {xs : Nat → Int32} {nm : String} {J : xm → xr → Nat → Prop} (HS : lwS_27 J) (HJ : ∀ μ R n, J μ R n → xFin R n ∧ ∃ k, n = 107 + 2 * k) {i : Int32} {μ : xm} {R : xr} {n ce sl : Nat} (hce : ce + 2 ≤ 600000) (hsl : sl + 13 ≤ 7302250) (v1 : vp_in (i + 1) L) (v2 : vp_in (i + 2) L) (v3 : vp_in (i + 3) L) (v4 : vp_in (i + 4) L) (v5 : vp_in (i + 5) L) (v6 : vp_in (i + 6) L) (hJ : J μ R n) (hK : ∀ (ν : xm) (S : xr) (n' : Nat), J ν S n' → Ev E (lwC b L xs E.2.2.2) (lwY nm) 1515 [(0, .ref b), (1, .ref (E.2.2.2 + iC)), (2, .ref (E.2.2.2 + iM)), (3, .int i)] [] (xσ ν S) n' (ce + 2) (sl + 13)) : Ev E (lwC b L xs E.2.2.2) (lwY nm) 1218 [(0, .ref b), (1, .ref (E.2.2.2 + iC)), (2, .ref (E.2.2.2 + iM)), (3, .int i)] [] (xσ μ R) n ce sl := by
  obtain ⟨hF, hn⟩ := HJ μ R n hJ
  obtain ⟨a1, ha1⟩ : ∃ a, xs (i + 1).toNatClampNeg = a := ⟨_, rfl⟩
  obtain ⟨a2, ha2⟩ : ∃ a, xs (i + 2).toNatClampNeg = a := ⟨_, rfl⟩
  obtain ⟨a3, ha3⟩ : ∃ a, xs (i + 3).toNatClampNeg = a := ⟨_, rfl⟩
  obtain ⟨a4, ha4⟩ : ∃ a, xs (i + 4).toNatClampNeg = a := ⟨_, rfl⟩
  obtain ⟨a5, ha5⟩ : ∃ a, xs (i + 5).toNatClampNeg = a := ⟨_, rfl⟩
  obtain ⟨a6, ha6⟩ : ∃ a, xs (i + 6).toNatClampNeg = a := ⟨_, rfl⟩
  have HS := HS μ R n a1 a2 a3 a4 a5 a6 hJ
  obtain ⟨q, hq, q2, hq2, hr, hJ2⟩ := HS
  refine ev_aload_n 1 dL_law_1218 rfl rfl ?_
  refine ev_aload_n 0 dL_law_1219 rfl rfl ?_
  refine ev_iload_n 3 dL_law_1220 rfl rfl ?_
  refine ev_iconst (v := 1) dL_law_1221 (by decide) ?_
  refine ev_iadd dL_law_1222 ?_
  refine ev_sld v1 ha1 dL_law_1223 ?_
  refine ev_aload_n 0 dL_law_1224 rfl rfl ?_
  refine ev_iload_n 3 dL_law_1225 rfl rfl ?_
  refine ev_iconst (v := 2) dL_law_1226 (by decide) ?_
  refine ev_iadd dL_law_1227 ?_
  refine ev_sld v2 ha2 dL_law_1228 ?_
  refine ev_aload_n 0 dL_law_1229 rfl rfl ?_
  refine ev_iload_n 3 dL_law_1230 rfl rfl ?_
  refine ev_iconst (v := 3) dL_law_1231 (by decide) ?_
  refine ev_iadd dL_law_1232 ?_
  refine ev_sld v3 ha3 dL_law_1233 ?_
  refine ev_aload_n 0 dL_law_1234 rfl rfl ?_
  refine ev_iload_n 3 dL_law_1235 rfl rfl ?_
  refine ev_iconst (v := 4) dL_law_1236 (by decide) ?_
  refine ev_iadd dL_law_1237 ?_
  refine ev_sld v4 ha4 dL_law_1238 ?_
  refine ev_aload_n 0 dL_law_1239 rfl rfl ?_
  refine ev_iload_n 3 dL_law_1240 rfl rfl ?_
  refine ev_iconst (v := 5) dL_law_1241 (by decide) ?_
  refine ev_iadd dL_law_1242 ?_
  refine ev_sld v5 ha5 dL_law_1243 ?_
  refine ev_aload_n 0 dL_law_1244 rfl rfl ?_
  refine ev_iload_n 3 dL_law_1245 rfl rfl ?_
  refine ev_bipush (v := 6) dL_law_1246 (by decide) ?_
  refine ev_iadd dL_law_1248 ?_
  refine ev_sld v6 ha6 dL_law_1249 ?_
  refine ev_callV (ci := 11) (As := [.int a1, .int a2, .int a3, .int a4, .int a5, .int a6]) (rest := []) 6 (kX11_two (E := E) (d := 6) (QQ := (fun v τ n' => v = some (.long q) ∧ τ = xσ μ R ∧ n = n')) (Nat.le_refl _) hF hq (⟨rfl, rfl, rfl⟩)) my_X11_two ⟨m_1069, m_1070, m_1071⟩ cl_11 kd_0 (xl hF rfl) rfl rfl (Nat.le_of_ble_eq_true rfl) (Nat.le_of_ble_eq_true rfl) (Nat.le_of_ble_eq_true rfl) (Nat.le_trans (Nat.le_add_right _ _) hce) (Nat.le_trans (Nat.le_add_right _ _) hsl) dL_law_1250 (fun v τ n' hv => ?_)
  obtain ⟨rfl, rfl, rfl⟩ := hv
  have hF1 := hF
  show Ev E (lwC b L xs E.2.2.2) (lwY nm) 1253 [(0, .ref b), (1, .ref (E.2.2.2 + iC)), (2, .ref (E.2.2.2 + iM)), (3, .int i)] [.long q] (xσ μ R) n ce sl
  refine ev_aload_n 2 dL_law_1253 rfl rfl ?_
  refine ev_aload_n 0 dL_law_1254 rfl rfl ?_
  refine ev_iload_n 3 dL_law_1255 rfl rfl ?_
  refine ev_iconst (v := 1) dL_law_1256 (by decide) ?_
  refine ev_iadd dL_law_1257 ?_
  refine ev_sld v1 ha1 dL_law_1258 ?_
  refine ev_aload_n 0 dL_law_1259 rfl rfl ?_
  refine ev_iload_n 3 dL_law_1260 rfl rfl ?_
  refine ev_iconst (v := 2) dL_law_1261 (by decide) ?_
  refine ev_iadd dL_law_1262 ?_
  refine ev_sld v2 ha2 dL_law_1263 ?_
  refine ev_aload_n 0 dL_law_1264 rfl rfl ?_
  refine ev_iload_n 3 dL_law_1265 rfl rfl ?_
  refine ev_iconst (v := 3) dL_law_1266 (by decide) ?_
  refine ev_iadd dL_law_1267 ?_
  refine ev_sld v3 ha3 dL_law_1268 ?_
  refine ev_aload_n 0 dL_law_1269 rfl rfl ?_
  refine ev_iload_n 3 dL_law_1270 rfl rfl ?_
  refine ev_iconst (v := 4) dL_law_1271 (by decide) ?_
  refine ev_iadd dL_law_1272 ?_
  refine ev_sld v4 ha4 dL_law_1273 ?_
  refine ev_aload_n 0 dL_law_1274 rfl rfl ?_
  refine ev_iload_n 3 dL_law_1275 rfl rfl ?_
  refine ev_iconst (v := 5) dL_law_1276 (by decide) ?_
  refine ev_iadd dL_law_1277 ?_
  refine ev_sld v5 ha5 dL_law_1278 ?_
  refine ev_aload_n 0 dL_law_1279 rfl rfl ?_
  refine ev_iload_n 3 dL_law_1280 rfl rfl ?_
  refine ev_bipush (v := 6) dL_law_1281 (by decide) ?_
  refine ev_iadd dL_law_1283 ?_
  refine ev_sld v6 ha6 dL_law_1284 ?_
  refine ev_callV (ci := 12) (As := [.int a1, .int a2, .int a3, .int a4, .int a5, .int a6]) (rest := [.long q]) 6 (kX12_two (E := E) (d := 4) (QQ := (fun v τ n' => v = some (.long q2) ∧ τ = xσ μ R ∧ n = n')) (Nat.le_refl _) hF1 hq2 (⟨rfl, rfl, rfl⟩)) my_X12_two ⟨m_1805, m_1806, m_1807⟩ cl_12 kd_61 (xl hF1 rfl) rfl rfl (Nat.le_of_ble_eq_true rfl) (Nat.le_of_ble_eq_true rfl) (Nat.le_of_ble_eq_true rfl) (Nat.le_trans (Nat.le_add_right _ _) hce) (Nat.le_trans (Nat.le_add_right _ _) hsl) dL_law_1285 (fun v τ n' hv => ?_)
  obtain ⟨rfl, rfl, rfl⟩ := hv
  show Ev E (lwC b L xs E.2.2.2) (lwY nm) 1288 [(0, .ref b), (1, .ref (E.2.2.2 + iC)), (2, .ref (E.2.2.2 + iM)), (3, .int i)] [.long q2, .long q] (xσ μ R) n ce sl
  refine ev_lcmp dL_law_1288 ?_
  exact ev_if_eq (tgt := 1515) dL_law_1289 (by decide) (fun _ => ev_widen (Nat.le_add_right _ _) (Nat.le_add_right _ _) (hK _ _ _ hJ2)) (fun hne => absurd (by rw [hr]; exact lg_cmp_self _) hne)
set_option maxHeartbeats 4000000 in
set_option maxRecDepth 100000 in
theorem lwc_28 {E : xE} {b L : Nat} {xs : Nat → Int32} {nm : String} {J : xm → xr → Nat → Prop} (HS : lwS_28 J) (HJ : ∀ μ R n, J μ R n → xFin R n ∧ ∃ k, n = 107 + 2 * k) {i : Int32} {μ : xm} {R : xr} {n ce sl : Nat} (hce : ce + 2 ≤ 600000) (hsl : sl + 13 ≤ 7302250) (v1 : vp_in (i + 1) L) (v2 : vp_in (i + 2) L) (v3 : vp_in (i + 3) L) (v4 : vp_in (i + 4) L) (v5 : vp_in (i + 5) L) (v6 : vp_in (i + 6) L) (hJ : J μ R n) (hK : ∀ (ν : xm) (S : xr) (n' : Nat), J ν S n' → Ev E (lwC b L xs E.2.2.2) (lwY nm) 1515 [(0, .ref b), (1, .ref (E.2.2.2 + iC)), (2, .ref (E.2.2.2 + iM)), (3, .int i)] [] (xσ ν S) n' (ce + 2) (sl + 13)) : Ev E (lwC b L xs E.2.2.2) (lwY nm) 1294 [(0, .ref b), (1, .ref (E.2.2.2 + iC)), (2, .ref (E.2.2.2 + iM)), (3, .int i)] [] (xσ μ R) n ce sl := by
  obtain ⟨hF, hn⟩ := HJ μ R n hJ
  obtain ⟨a1, ha1⟩ : ∃ a, xs (i + 1).toNatClampNeg = a := ⟨_, rfl⟩
  obtain ⟨a2, ha2⟩ : ∃ a, xs (i + 2).toNatClampNeg = a := ⟨_, rfl⟩
  obtain ⟨a3, ha3⟩ : ∃ a, xs (i + 3).toNatClampNeg = a := ⟨_, rfl⟩
  obtain ⟨a4, ha4⟩ : ∃ a, xs (i + 4).toNatClampNeg = a := ⟨_, rfl⟩
  obtain ⟨a5, ha5⟩ : ∃ a, xs (i + 5).toNatClampNeg = a := ⟨_, rfl⟩
  have HS := HS μ R n a1 a2 a3 a4 a5 hJ
  obtain ⟨q, hq, q2, hq2, hr, hJ2⟩ := HS
  refine ev_aload_n 1 dL_law_1294 rfl rfl ?_
  refine ev_aload_n 0 dL_law_1295 rfl rfl ?_
  refine ev_iload_n 3 dL_law_1296 rfl rfl ?_
  refine ev_iconst (v := 1) dL_law_1297 (by decide) ?_
  refine ev_iadd dL_law_1298 ?_
  refine ev_sld v1 ha1 dL_law_1299 ?_
  refine ev_aload_n 0 dL_law_1300 rfl rfl ?_
  refine ev_iload_n 3 dL_law_1301 rfl rfl ?_
  refine ev_iconst (v := 2) dL_law_1302 (by decide) ?_
  refine ev_iadd dL_law_1303 ?_
  refine ev_sld v2 ha2 dL_law_1304 ?_
  refine ev_aload_n 0 dL_law_1305 rfl rfl ?_
  refine ev_iload_n 3 dL_law_1306 rfl rfl ?_
  refine ev_iconst (v := 3) dL_law_1307 (by decide) ?_
  refine ev_iadd dL_law_1308 ?_
  refine ev_sld v3 ha3 dL_law_1309 ?_
  refine ev_aload_n 0 dL_law_1310 rfl rfl ?_
  refine ev_iload_n 3 dL_law_1311 rfl rfl ?_
  refine ev_iconst (v := 4) dL_law_1312 (by decide) ?_
  refine ev_iadd dL_law_1313 ?_
  refine ev_sld v4 ha4 dL_law_1314 ?_
  refine ev_aload_n 0 dL_law_1315 rfl rfl ?_
  refine ev_iload_n 3 dL_law_1316 rfl rfl ?_
  refine ev_iconst (v := 5) dL_law_1317 (by decide) ?_
  refine ev_iadd dL_law_1318 ?_
  refine ev_sld v5 ha5 dL_law_1319 ?_
  refine ev_callV (ci := 11) (As := [.int a1, .int a2, .int a3, .int a4, .int a5]) (rest := []) 5 (kX11_outTwo (E := E) (d := 6) (QQ := (fun v τ n' => v = some (.int q) ∧ τ = xσ μ R ∧ n = n')) (Nat.le_refl _) hF hq (⟨rfl, rfl, rfl⟩)) my_X11_outTwo ⟨m_1084, m_1085, m_1086⟩ cl_11 kd_0 (xl hF rfl) rfl rfl (Nat.le_of_ble_eq_true rfl) (Nat.le_of_ble_eq_true rfl) (Nat.le_of_ble_eq_true rfl) (Nat.le_trans (Nat.le_add_right _ _) hce) (Nat.le_trans (Nat.le_add_right _ _) hsl) dL_law_1320 (fun v τ n' hv => ?_)
  obtain ⟨rfl, rfl, rfl⟩ := hv
  have hF1 := hF
  show Ev E (lwC b L xs E.2.2.2) (lwY nm) 1323 [(0, .ref b), (1, .ref (E.2.2.2 + iC)), (2, .ref (E.2.2.2 + iM)), (3, .int i)] [.int q] (xσ μ R) n ce sl
  refine ev_aload_n 2 dL_law_1323 rfl rfl ?_
  refine ev_aload_n 0 dL_law_1324 rfl rfl ?_
  refine ev_iload_n 3 dL_law_1325 rfl rfl ?_
  refine ev_iconst (v := 1) dL_law_1326 (by decide) ?_
  refine ev_iadd dL_law_1327 ?_
  refine ev_sld v1 ha1 dL_law_1328 ?_
  refine ev_aload_n 0 dL_law_1329 rfl rfl ?_
  refine ev_iload_n 3 dL_law_1330 rfl rfl ?_
  refine ev_iconst (v := 2) dL_law_1331 (by decide) ?_
  refine ev_iadd dL_law_1332 ?_
  refine ev_sld v2 ha2 dL_law_1333 ?_
  refine ev_aload_n 0 dL_law_1334 rfl rfl ?_
  refine ev_iload_n 3 dL_law_1335 rfl rfl ?_
  refine ev_iconst (v := 3) dL_law_1336 (by decide) ?_
  refine ev_iadd dL_law_1337 ?_
  refine ev_sld v3 ha3 dL_law_1338 ?_
  refine ev_aload_n 0 dL_law_1339 rfl rfl ?_
  refine ev_iload_n 3 dL_law_1340 rfl rfl ?_
  refine ev_iconst (v := 4) dL_law_1341 (by decide) ?_
  refine ev_iadd dL_law_1342 ?_
  refine ev_sld v4 ha4 dL_law_1343 ?_
  refine ev_aload_n 0 dL_law_1344 rfl rfl ?_
  refine ev_iload_n 3 dL_law_1345 rfl rfl ?_
  refine ev_iconst (v := 5) dL_law_1346 (by decide) ?_
  refine ev_iadd dL_law_1347 ?_
  refine ev_sld v5 ha5 dL_law_1348 ?_
  refine ev_callV (ci := 12) (As := [.int a1, .int a2, .int a3, .int a4, .int a5]) (rest := [.int q]) 5 (kX12_outTwo (E := E) (d := 4) (QQ := (fun v τ n' => v = some (.int q2) ∧ τ = xσ μ R ∧ n = n')) (Nat.le_refl _) hF1 hq2 (⟨rfl, rfl, rfl⟩)) my_X12_outTwo ⟨m_1821, m_1822, m_1823⟩ cl_12 kd_61 (xl hF1 rfl) rfl rfl (Nat.le_of_ble_eq_true rfl) (Nat.le_of_ble_eq_true rfl) (Nat.le_of_ble_eq_true rfl) (Nat.le_trans (Nat.le_add_right _ _) hce) (Nat.le_trans (Nat.le_add_right _ _) hsl) dL_law_1349 (fun v τ n' hv => ?_)
  obtain ⟨rfl, rfl, rfl⟩ := hv
  show Ev E (lwC b L xs E.2.2.2) (lwY nm) 1352 [(0, .ref b), (1, .ref (E.2.2.2 + iC)), (2, .ref (E.2.2.2 + iM)), (3, .int i)] [.int q2, .int q] (xσ μ R) n ce sl
  exact ev_icmp_eq (tgt := 1515) dL_law_1352 (by decide) (fun _ => ev_widen (Nat.le_add_right _ _) (Nat.le_add_right _ _) (hK _ _ _ hJ2)) (fun hne => absurd hr.symm hne)
set_option maxHeartbeats 4000000 in
set_option maxRecDepth 100000 in
theorem lwc_29 {E : xE} {b L : Nat} {xs : Nat → Int32} {nm : String} {J : xm → xr → Nat → Prop} (HS : lwS_29 J) (HJ : ∀ μ R n, J μ R n → xFin R n ∧ ∃ k, n = 107 + 2 * k) {i : Int32} {μ : xm} {R : xr} {n ce sl : Nat} (hce : ce + 2 ≤ 600000) (hsl : sl + 13 ≤ 7302250) (v1 : vp_in (i + 1) L) (v2 : vp_in (i + 2) L) (v3 : vp_in (i + 3) L) (v4 : vp_in (i + 4) L) (v5 : vp_in (i + 5) L) (v6 : vp_in (i + 6) L) (hJ : J μ R n) (hK : ∀ (ν : xm) (S : xr) (n' : Nat), J ν S n' → Ev E (lwC b L xs E.2.2.2) (lwY nm) 1515 [(0, .ref b), (1, .ref (E.2.2.2 + iC)), (2, .ref (E.2.2.2 + iM)), (3, .int i)] [] (xσ ν S) n' (ce + 2) (sl + 13)) : Ev E (lwC b L xs E.2.2.2) (lwY nm) 1357 [(0, .ref b), (1, .ref (E.2.2.2 + iC)), (2, .ref (E.2.2.2 + iM)), (3, .int i)] [] (xσ μ R) n ce sl := by
  obtain ⟨hF, hn⟩ := HJ μ R n hJ
  obtain ⟨a1, ha1⟩ : ∃ a, xs (i + 1).toNatClampNeg = a := ⟨_, rfl⟩
  obtain ⟨a2, ha2⟩ : ∃ a, xs (i + 2).toNatClampNeg = a := ⟨_, rfl⟩
  obtain ⟨a3, ha3⟩ : ∃ a, xs (i + 3).toNatClampNeg = a := ⟨_, rfl⟩
  have HS := HS μ R n a1 a2 a3 hJ
  obtain ⟨q, hq, q2, hq2, hr, hJ2⟩ := HS
  refine ev_aload_n 1 dL_law_1357 rfl rfl ?_
  refine ev_aload_n 0 dL_law_1358 rfl rfl ?_
  refine ev_iload_n 3 dL_law_1359 rfl rfl ?_
  refine ev_iconst (v := 1) dL_law_1360 (by decide) ?_
  refine ev_iadd dL_law_1361 ?_
  refine ev_sld v1 ha1 dL_law_1362 ?_
  refine ev_aload_n 0 dL_law_1363 rfl rfl ?_
  refine ev_iload_n 3 dL_law_1364 rfl rfl ?_
  refine ev_iconst (v := 2) dL_law_1365 (by decide) ?_
  refine ev_iadd dL_law_1366 ?_
  refine ev_sld v2 ha2 dL_law_1367 ?_
  refine ev_aload_n 0 dL_law_1368 rfl rfl ?_
  refine ev_iload_n 3 dL_law_1369 rfl rfl ?_
  refine ev_iconst (v := 3) dL_law_1370 (by decide) ?_
  refine ev_iadd dL_law_1371 ?_
  refine ev_sld v3 ha3 dL_law_1372 ?_
  refine ev_callV (ci := 11) (As := [.int a1, .int a2, .int a3]) (rest := []) 3 (kX11_rest (E := E) (d := 6) (QQ := (fun v τ n' => v = some (.int q.1) ∧ τ = xσ q.2.1 q.2.2 ∧ n = n' ∧ xFin q.2.2 n)) (Nat.le_refl _) hF hq ((fun z => ⟨rfl, rfl, rfl, z⟩))) my_X11_rest ⟨m_1088, m_1089, m_1090⟩ cl_11 kd_0 (xl hF rfl) rfl rfl (Nat.le_of_ble_eq_true rfl) (Nat.le_of_ble_eq_true rfl) (Nat.le_of_ble_eq_true rfl) (Nat.le_trans (Nat.le_add_right _ _) hce) (Nat.le_trans (Nat.le_add_right _ _) hsl) dL_law_1373 (fun v τ n' hv => ?_)
  obtain ⟨rfl, rfl, rfl, hF1⟩ := hv
  show Ev E (lwC b L xs E.2.2.2) (lwY nm) 1376 [(0, .ref b), (1, .ref (E.2.2.2 + iC)), (2, .ref (E.2.2.2 + iM)), (3, .int i)] [.int q.1] (xσ q.2.1 q.2.2) n ce sl
  refine ev_aload_n 2 dL_law_1376 rfl rfl ?_
  refine ev_aload_n 0 dL_law_1377 rfl rfl ?_
  refine ev_iload_n 3 dL_law_1378 rfl rfl ?_
  refine ev_iconst (v := 1) dL_law_1379 (by decide) ?_
  refine ev_iadd dL_law_1380 ?_
  refine ev_sld v1 ha1 dL_law_1381 ?_
  refine ev_aload_n 0 dL_law_1382 rfl rfl ?_
  refine ev_iload_n 3 dL_law_1383 rfl rfl ?_
  refine ev_iconst (v := 2) dL_law_1384 (by decide) ?_
  refine ev_iadd dL_law_1385 ?_
  refine ev_sld v2 ha2 dL_law_1386 ?_
  refine ev_aload_n 0 dL_law_1387 rfl rfl ?_
  refine ev_iload_n 3 dL_law_1388 rfl rfl ?_
  refine ev_iconst (v := 3) dL_law_1389 (by decide) ?_
  refine ev_iadd dL_law_1390 ?_
  refine ev_sld v3 ha3 dL_law_1391 ?_
  refine ev_callV (ci := 12) (As := [.int a1, .int a2, .int a3]) (rest := [.int q.1]) 3 (kX12_rest (E := E) (d := 4) (QQ := (fun v τ n' => v = some (.int q2.1) ∧ τ = xσ q2.2 q.2.2 ∧ n = n')) (Nat.le_refl _) hF1 hq2 (⟨rfl, rfl, rfl⟩)) my_X12_rest ⟨m_1825, m_1826, m_1827⟩ cl_12 kd_61 (xl hF1 rfl) rfl rfl (Nat.le_of_ble_eq_true rfl) (Nat.le_of_ble_eq_true rfl) (Nat.le_of_ble_eq_true rfl) (Nat.le_trans (Nat.le_add_right _ _) hce) (Nat.le_trans (Nat.le_add_right _ _) hsl) dL_law_1392 (fun v τ n' hv => ?_)
  obtain ⟨rfl, rfl, rfl⟩ := hv
  show Ev E (lwC b L xs E.2.2.2) (lwY nm) 1395 [(0, .ref b), (1, .ref (E.2.2.2 + iC)), (2, .ref (E.2.2.2 + iM)), (3, .int i)] [.int q2.1, .int q.1] (xσ q2.2 q.2.2) n ce sl
  exact ev_icmp_eq (tgt := 1515) dL_law_1395 (by decide) (fun _ => ev_widen (Nat.le_add_right _ _) (Nat.le_add_right _ _) (hK _ _ _ hJ2)) (fun hne => absurd hr.symm hne)
set_option maxHeartbeats 4000000 in
set_option maxRecDepth 100000 in
theorem lwc_30 {E : xE} {b L : Nat} {xs : Nat → Int32} {nm : String} {J : xm → xr → Nat → Prop} (HS : lwS_30 J) (HJ : ∀ μ R n, J μ R n → xFin R n ∧ ∃ k, n = 107 + 2 * k) {i : Int32} {μ : xm} {R : xr} {n ce sl : Nat} (hce : ce + 2 ≤ 600000) (hsl : sl + 13 ≤ 7302250) (v1 : vp_in (i + 1) L) (v2 : vp_in (i + 2) L) (v3 : vp_in (i + 3) L) (v4 : vp_in (i + 4) L) (v5 : vp_in (i + 5) L) (v6 : vp_in (i + 6) L) (hJ : J μ R n) (hK : ∀ (ν : xm) (S : xr) (n' : Nat), J ν S n' → Ev E (lwC b L xs E.2.2.2) (lwY nm) 1515 [(0, .ref b), (1, .ref (E.2.2.2 + iC)), (2, .ref (E.2.2.2 + iM)), (3, .int i)] [] (xσ ν S) n' (ce + 2) (sl + 13)) : Ev E (lwC b L xs E.2.2.2) (lwY nm) 1400 [(0, .ref b), (1, .ref (E.2.2.2 + iC)), (2, .ref (E.2.2.2 + iM)), (3, .int i)] [] (xσ μ R) n ce sl := by
  obtain ⟨hF, hn⟩ := HJ μ R n hJ
  have HS := HS μ R n  hJ
  obtain ⟨q, hq, q2, hq2, hr, hJ2⟩ := HS
  refine ev_aload_n 1 dL_law_1400 rfl rfl ?_
  refine ev_callV (ci := 11) (As := []) (rest := []) 0 (kX11_lost (E := E) (d := 4) (QQ := (fun v τ n' => v = some (.int q) ∧ τ = xσ μ R ∧ n = n')) (Nat.le_refl _) hF hq (⟨rfl, rfl, rfl⟩)) my_X11_lost ⟨m_1160, m_1161, m_1162⟩ cl_11 kd_0 (xl hF rfl) rfl rfl (Nat.le_of_ble_eq_true rfl) (Nat.le_of_ble_eq_true rfl) (Nat.le_of_ble_eq_true rfl) (Nat.le_trans (Nat.le_add_right _ _) hce) (Nat.le_trans (Nat.le_add_right _ _) hsl) dL_law_1401 (fun v τ n' hv => ?_)
  obtain ⟨rfl, rfl, rfl⟩ := hv
  have hF1 := hF
  show Ev E (lwC b L xs E.2.2.2) (lwY nm) 1404 [(0, .ref b), (1, .ref (E.2.2.2 + iC)), (2, .ref (E.2.2.2 + iM)), (3, .int i)] [.int q] (xσ μ R) n ce sl
  refine ev_aload_n 2 dL_law_1404 rfl rfl ?_
  refine ev_callV (ci := 12) (As := []) (rest := [.int q]) 0 (kX12_lost (E := E) (d := 3) (QQ := (fun v τ n' => v = some (.int q2) ∧ τ = xσ μ R ∧ n = n')) (Nat.le_refl _) hF1 hq2 (⟨rfl, rfl, rfl⟩)) my_X12_lost ⟨m_1845, m_1846, m_1847⟩ cl_12 kd_61 (xl hF1 rfl) rfl rfl (Nat.le_of_ble_eq_true rfl) (Nat.le_of_ble_eq_true rfl) (Nat.le_of_ble_eq_true rfl) (Nat.le_trans (Nat.le_add_right _ _) hce) (Nat.le_trans (Nat.le_add_right _ _) hsl) dL_law_1405 (fun v τ n' hv => ?_)
  obtain ⟨rfl, rfl, rfl⟩ := hv
  show Ev E (lwC b L xs E.2.2.2) (lwY nm) 1408 [(0, .ref b), (1, .ref (E.2.2.2 + iC)), (2, .ref (E.2.2.2 + iM)), (3, .int i)] [.int q2, .int q] (xσ μ R) n ce sl
  exact ev_icmp_eq (tgt := 1515) dL_law_1408 (by decide) (fun _ => ev_widen (Nat.le_add_right _ _) (Nat.le_add_right _ _) (hK _ _ _ hJ2)) (fun hne => absurd hr.symm hne)
set_option maxHeartbeats 4000000 in
set_option maxRecDepth 100000 in
theorem lwc_31 {E : xE} {b L : Nat} {xs : Nat → Int32} {nm : String} {J : xm → xr → Nat → Prop} (HS : lwS_31 J) (HJ : ∀ μ R n, J μ R n → xFin R n ∧ ∃ k, n = 107 + 2 * k) {i : Int32} {μ : xm} {R : xr} {n ce sl : Nat} (hce : ce + 2 ≤ 600000) (hsl : sl + 13 ≤ 7302250) (v1 : vp_in (i + 1) L) (v2 : vp_in (i + 2) L) (v3 : vp_in (i + 3) L) (v4 : vp_in (i + 4) L) (v5 : vp_in (i + 5) L) (v6 : vp_in (i + 6) L) (hJ : J μ R n) (hK : ∀ (ν : xm) (S : xr) (n' : Nat), J ν S n' → Ev E (lwC b L xs E.2.2.2) (lwY nm) 1515 [(0, .ref b), (1, .ref (E.2.2.2 + iC)), (2, .ref (E.2.2.2 + iM)), (3, .int i)] [] (xσ ν S) n' (ce + 2) (sl + 13)) : Ev E (lwC b L xs E.2.2.2) (lwY nm) 1413 [(0, .ref b), (1, .ref (E.2.2.2 + iC)), (2, .ref (E.2.2.2 + iM)), (3, .int i)] [] (xσ μ R) n ce sl := by
  obtain ⟨hF, hn⟩ := HJ μ R n hJ
  obtain ⟨a1, ha1⟩ : ∃ a, xs (i + 1).toNatClampNeg = a := ⟨_, rfl⟩
  have HS := HS μ R n a1 hJ
  obtain ⟨q, hq, q2, hq2, hr, hJ2⟩ := HS
  refine ev_aload_n 1 dL_law_1413 rfl rfl ?_
  refine ev_aload_n 0 dL_law_1414 rfl rfl ?_
  refine ev_iload_n 3 dL_law_1415 rfl rfl ?_
  refine ev_iconst (v := 1) dL_law_1416 (by decide) ?_
  refine ev_iadd dL_law_1417 ?_
  refine ev_sld v1 ha1 dL_law_1418 ?_
  refine ev_callV (ci := 11) (As := [.int a1]) (rest := []) 1 (kX11_seed (E := E) (d := 1) (QQ := (fun v τ n' => v = some (.int q.1) ∧ τ = xσ q.2 R ∧ n = n')) (Nat.le_refl _) hF hq (⟨rfl, rfl, rfl⟩)) my_X11_seed ⟨m_1174, m_1175, m_1176⟩ cl_11 kd_0 (xl hF rfl) rfl rfl (Nat.le_of_ble_eq_true rfl) (Nat.le_of_ble_eq_true rfl) (Nat.le_of_ble_eq_true rfl) (Nat.le_trans (Nat.le_add_right _ _) hce) (Nat.le_trans (Nat.le_add_right _ _) hsl) dL_law_1419 (fun v τ n' hv => ?_)
  obtain ⟨rfl, rfl, rfl⟩ := hv
  have hF1 := hF
  show Ev E (lwC b L xs E.2.2.2) (lwY nm) 1422 [(0, .ref b), (1, .ref (E.2.2.2 + iC)), (2, .ref (E.2.2.2 + iM)), (3, .int i)] [.int q.1] (xσ q.2 R) n ce sl
  refine ev_aload_n 2 dL_law_1422 rfl rfl ?_
  refine ev_aload_n 0 dL_law_1423 rfl rfl ?_
  refine ev_iload_n 3 dL_law_1424 rfl rfl ?_
  refine ev_iconst (v := 1) dL_law_1425 (by decide) ?_
  refine ev_iadd dL_law_1426 ?_
  refine ev_sld v1 ha1 dL_law_1427 ?_
  refine ev_callV (ci := 12) (As := [.int a1]) (rest := [.int q.1]) 1 (kX12_seed (E := E) (d := 1) (QQ := (fun v τ n' => v = some (.int q2.1) ∧ τ = xσ q2.2 R ∧ n = n')) (Nat.le_refl _) hF1 hq2 (⟨rfl, rfl, rfl⟩)) my_X12_seed ⟨m_1849, m_1850, m_1851⟩ cl_12 kd_61 (xl hF1 rfl) rfl rfl (Nat.le_of_ble_eq_true rfl) (Nat.le_of_ble_eq_true rfl) (Nat.le_of_ble_eq_true rfl) (Nat.le_trans (Nat.le_add_right _ _) hce) (Nat.le_trans (Nat.le_add_right _ _) hsl) dL_law_1428 (fun v τ n' hv => ?_)
  obtain ⟨rfl, rfl, rfl⟩ := hv
  show Ev E (lwC b L xs E.2.2.2) (lwY nm) 1431 [(0, .ref b), (1, .ref (E.2.2.2 + iC)), (2, .ref (E.2.2.2 + iM)), (3, .int i)] [.int q2.1, .int q.1] (xσ q2.2 R) n ce sl
  exact ev_icmp_eq (tgt := 1515) dL_law_1431 (by decide) (fun _ => ev_widen (Nat.le_add_right _ _) (Nat.le_add_right _ _) (hK _ _ _ hJ2)) (fun hne => absurd hr.symm hne)
set_option maxHeartbeats 4000000 in
set_option maxRecDepth 100000 in
theorem lwc_32 {E : xE} {b L : Nat} {xs : Nat → Int32} {nm : String} {J : xm → xr → Nat → Prop} (HS : lwS_32 J) (HJ : ∀ μ R n, J μ R n → xFin R n ∧ ∃ k, n = 107 + 2 * k) {i : Int32} {μ : xm} {R : xr} {n ce sl : Nat} (hce : ce + 2 ≤ 600000) (hsl : sl + 13 ≤ 7302250) (v1 : vp_in (i + 1) L) (v2 : vp_in (i + 2) L) (v3 : vp_in (i + 3) L) (v4 : vp_in (i + 4) L) (v5 : vp_in (i + 5) L) (v6 : vp_in (i + 6) L) (hJ : J μ R n) (hK : ∀ (ν : xm) (S : xr) (n' : Nat), J ν S n' → Ev E (lwC b L xs E.2.2.2) (lwY nm) 1515 [(0, .ref b), (1, .ref (E.2.2.2 + iC)), (2, .ref (E.2.2.2 + iM)), (3, .int i)] [] (xσ ν S) n' (ce + 2) (sl + 13)) : Ev E (lwC b L xs E.2.2.2) (lwY nm) 1436 [(0, .ref b), (1, .ref (E.2.2.2 + iC)), (2, .ref (E.2.2.2 + iM)), (3, .int i)] [] (xσ μ R) n ce sl := by
  obtain ⟨hF, hn⟩ := HJ μ R n hJ
  obtain ⟨a1, ha1⟩ : ∃ a, xs (i + 1).toNatClampNeg = a := ⟨_, rfl⟩
  obtain ⟨a2, ha2⟩ : ∃ a, xs (i + 2).toNatClampNeg = a := ⟨_, rfl⟩
  have HS := HS μ R n a1 a2 hJ
  obtain ⟨q, hq, q2, hq2, hr, hJ2⟩ := HS
  refine ev_aload_n 1 dL_law_1436 rfl rfl ?_
  refine ev_aload_n 0 dL_law_1437 rfl rfl ?_
  refine ev_iload_n 3 dL_law_1438 rfl rfl ?_
  refine ev_iconst (v := 1) dL_law_1439 (by decide) ?_
  refine ev_iadd dL_law_1440 ?_
  refine ev_sld v1 ha1 dL_law_1441 ?_
  refine ev_aload_n 0 dL_law_1442 rfl rfl ?_
  refine ev_iload_n 3 dL_law_1443 rfl rfl ?_
  refine ev_iconst (v := 2) dL_law_1444 (by decide) ?_
  refine ev_iadd dL_law_1445 ?_
  refine ev_sld v2 ha2 dL_law_1446 ?_
  refine ev_callV (ci := 11) (As := [.int a1, .int a2]) (rest := []) 2 (kX11_draw (E := E) (d := 4) (QQ := (fun v τ n' => v = some (.int q.1) ∧ τ = xσ q.2 R ∧ n = n')) (Nat.le_refl _) hF hq (⟨rfl, rfl, rfl⟩)) my_X11_draw ⟨m_1183, m_1184, m_1185⟩ cl_11 kd_0 (xl hF rfl) rfl rfl (Nat.le_of_ble_eq_true rfl) (Nat.le_of_ble_eq_true rfl) (Nat.le_of_ble_eq_true rfl) (Nat.le_trans (Nat.le_add_right _ _) hce) (Nat.le_trans (Nat.le_add_right _ _) hsl) dL_law_1447 (fun v τ n' hv => ?_)
  obtain ⟨rfl, rfl, rfl⟩ := hv
  have hF1 := hF
  show Ev E (lwC b L xs E.2.2.2) (lwY nm) 1450 [(0, .ref b), (1, .ref (E.2.2.2 + iC)), (2, .ref (E.2.2.2 + iM)), (3, .int i)] [.int q.1] (xσ q.2 R) n ce sl
  refine ev_aload_n 2 dL_law_1450 rfl rfl ?_
  refine ev_aload_n 0 dL_law_1451 rfl rfl ?_
  refine ev_iload_n 3 dL_law_1452 rfl rfl ?_
  refine ev_iconst (v := 1) dL_law_1453 (by decide) ?_
  refine ev_iadd dL_law_1454 ?_
  refine ev_sld v1 ha1 dL_law_1455 ?_
  refine ev_aload_n 0 dL_law_1456 rfl rfl ?_
  refine ev_iload_n 3 dL_law_1457 rfl rfl ?_
  refine ev_iconst (v := 2) dL_law_1458 (by decide) ?_
  refine ev_iadd dL_law_1459 ?_
  refine ev_sld v2 ha2 dL_law_1460 ?_
  refine ev_callV (ci := 12) (As := [.int a1, .int a2]) (rest := [.int q.1]) 2 (kX12_draw (E := E) (d := 3) (QQ := (fun v τ n' => v = some (.int q2.1) ∧ τ = xσ q2.2 R ∧ n = n')) (Nat.le_refl _) hF1 hq2 (⟨rfl, rfl, rfl⟩)) my_X12_draw ⟨m_1854, m_1855, m_1856⟩ cl_12 kd_61 (xl hF1 rfl) rfl rfl (Nat.le_of_ble_eq_true rfl) (Nat.le_of_ble_eq_true rfl) (Nat.le_of_ble_eq_true rfl) (Nat.le_trans (Nat.le_add_right _ _) hce) (Nat.le_trans (Nat.le_add_right _ _) hsl) dL_law_1461 (fun v τ n' hv => ?_)
  obtain ⟨rfl, rfl, rfl⟩ := hv
  show Ev E (lwC b L xs E.2.2.2) (lwY nm) 1464 [(0, .ref b), (1, .ref (E.2.2.2 + iC)), (2, .ref (E.2.2.2 + iM)), (3, .int i)] [.int q2.1, .int q.1] (xσ q2.2 R) n ce sl
  exact ev_icmp_eq (tgt := 1515) dL_law_1464 (by decide) (fun _ => ev_widen (Nat.le_add_right _ _) (Nat.le_add_right _ _) (hK _ _ _ hJ2)) (fun hne => absurd hr.symm hne)
set_option maxHeartbeats 4000000 in
set_option maxRecDepth 100000 in
theorem lwc_33 {E : xE} {b L : Nat} {xs : Nat → Int32} {nm : String} {J : xm → xr → Nat → Prop} (HS : lwS_33 J) (HJ : ∀ μ R n, J μ R n → xFin R n ∧ ∃ k, n = 107 + 2 * k) {i : Int32} {μ : xm} {R : xr} {n ce sl : Nat} (hce : ce + 2 ≤ 600000) (hsl : sl + 13 ≤ 7302250) (v1 : vp_in (i + 1) L) (v2 : vp_in (i + 2) L) (v3 : vp_in (i + 3) L) (v4 : vp_in (i + 4) L) (v5 : vp_in (i + 5) L) (v6 : vp_in (i + 6) L) (hJ : J μ R n) (hK : ∀ (ν : xm) (S : xr) (n' : Nat), J ν S n' → Ev E (lwC b L xs E.2.2.2) (lwY nm) 1515 [(0, .ref b), (1, .ref (E.2.2.2 + iC)), (2, .ref (E.2.2.2 + iM)), (3, .int i)] [] (xσ ν S) n' (ce + 2) (sl + 13)) : Ev E (lwC b L xs E.2.2.2) (lwY nm) 1469 [(0, .ref b), (1, .ref (E.2.2.2 + iC)), (2, .ref (E.2.2.2 + iM)), (3, .int i)] [] (xσ μ R) n ce sl := by
  obtain ⟨hF, hn⟩ := HJ μ R n hJ
  obtain ⟨a1, ha1⟩ : ∃ a, xs (i + 1).toNatClampNeg = a := ⟨_, rfl⟩
  have HS := HS μ R n a1 hJ
  obtain ⟨q, hq, q2, hq2, hr, hJ2⟩ := HS
  refine ev_aload_n 1 dL_law_1469 rfl rfl ?_
  refine ev_aload_n 0 dL_law_1470 rfl rfl ?_
  refine ev_iload_n 3 dL_law_1471 rfl rfl ?_
  refine ev_iconst (v := 1) dL_law_1472 (by decide) ?_
  refine ev_iadd dL_law_1473 ?_
  refine ev_sld v1 ha1 dL_law_1474 ?_
  refine ev_callV (ci := 11) (As := [.int a1]) (rest := []) 1 (kX11_check (E := E) (d := 3) (QQ := (fun v τ n' => v = some (.int q.1) ∧ τ = xσ q.2 R ∧ n = n')) (Nat.le_refl _) hF hq (⟨rfl, rfl, rfl⟩)) my_X11_check ⟨m_1203, m_1204, m_1205⟩ cl_11 kd_0 (xl hF rfl) rfl rfl (Nat.le_of_ble_eq_true rfl) (Nat.le_of_ble_eq_true rfl) (Nat.le_of_ble_eq_true rfl) (Nat.le_trans (Nat.le_add_right _ _) hce) (Nat.le_trans (Nat.le_add_right _ _) hsl) dL_law_1475 (fun v τ n' hv => ?_)
  obtain ⟨rfl, rfl, rfl⟩ := hv
  have hF1 := hF
  show Ev E (lwC b L xs E.2.2.2) (lwY nm) 1478 [(0, .ref b), (1, .ref (E.2.2.2 + iC)), (2, .ref (E.2.2.2 + iM)), (3, .int i)] [.int q.1] (xσ q.2 R) n ce sl
  refine ev_aload_n 2 dL_law_1478 rfl rfl ?_
  refine ev_aload_n 0 dL_law_1479 rfl rfl ?_
  refine ev_iload_n 3 dL_law_1480 rfl rfl ?_
  refine ev_iconst (v := 1) dL_law_1481 (by decide) ?_
  refine ev_iadd dL_law_1482 ?_
  refine ev_sld v1 ha1 dL_law_1483 ?_
  refine ev_callV (ci := 12) (As := [.int a1]) (rest := [.int q.1]) 1 (kX12_check (E := E) (d := 2) (QQ := (fun v τ n' => v = some (.int q2.1) ∧ τ = xσ q2.2 R ∧ n = n')) (Nat.le_refl _) hF1 hq2 (⟨rfl, rfl, rfl⟩)) my_X12_check ⟨m_1867, m_1868, m_1869⟩ cl_12 kd_61 (xl hF1 rfl) rfl rfl (Nat.le_of_ble_eq_true rfl) (Nat.le_of_ble_eq_true rfl) (Nat.le_of_ble_eq_true rfl) (Nat.le_trans (Nat.le_add_right _ _) hce) (Nat.le_trans (Nat.le_add_right _ _) hsl) dL_law_1484 (fun v τ n' hv => ?_)
  obtain ⟨rfl, rfl, rfl⟩ := hv
  show Ev E (lwC b L xs E.2.2.2) (lwY nm) 1487 [(0, .ref b), (1, .ref (E.2.2.2 + iC)), (2, .ref (E.2.2.2 + iM)), (3, .int i)] [.int q2.1, .int q.1] (xσ q2.2 R) n ce sl
  exact ev_icmp_eq (tgt := 1515) dL_law_1487 (by decide) (fun _ => ev_widen (Nat.le_add_right _ _) (Nat.le_add_right _ _) (hK _ _ _ hJ2)) (fun hne => absurd hr.symm hne)
set_option maxHeartbeats 4000000 in
set_option maxRecDepth 100000 in
theorem lwc_34 {E : xE} {b L : Nat} {xs : Nat → Int32} {nm : String} {J : xm → xr → Nat → Prop} (HS : lwS_34 J) (HJ : ∀ μ R n, J μ R n → xFin R n ∧ ∃ k, n = 107 + 2 * k) {i : Int32} {μ : xm} {R : xr} {n ce sl : Nat} (hce : ce + 2 ≤ 600000) (hsl : sl + 13 ≤ 7302250) (v1 : vp_in (i + 1) L) (v2 : vp_in (i + 2) L) (v3 : vp_in (i + 3) L) (v4 : vp_in (i + 4) L) (v5 : vp_in (i + 5) L) (v6 : vp_in (i + 6) L) (hJ : J μ R n) (hK : ∀ (ν : xm) (S : xr) (n' : Nat), J ν S n' → Ev E (lwC b L xs E.2.2.2) (lwY nm) 1515 [(0, .ref b), (1, .ref (E.2.2.2 + iC)), (2, .ref (E.2.2.2 + iM)), (3, .int i)] [] (xσ ν S) n' (ce + 2) (sl + 13)) : Ev E (lwC b L xs E.2.2.2) (lwY nm) 1492 [(0, .ref b), (1, .ref (E.2.2.2 + iC)), (2, .ref (E.2.2.2 + iM)), (3, .int i)] [] (xσ μ R) n ce sl := by
  obtain ⟨hF, hn⟩ := HJ μ R n hJ
  obtain ⟨a1, ha1⟩ : ∃ a, xs (i + 1).toNatClampNeg = a := ⟨_, rfl⟩
  have HS := HS μ R n a1 hJ
  obtain ⟨q, hq, q2, hq2, hr, hJ2⟩ := HS
  refine ev_aload_n 1 dL_law_1492 rfl rfl ?_
  refine ev_aload_n 0 dL_law_1493 rfl rfl ?_
  refine ev_iload_n 3 dL_law_1494 rfl rfl ?_
  refine ev_iconst (v := 1) dL_law_1495 (by decide) ?_
  refine ev_iadd dL_law_1496 ?_
  refine ev_sld v1 ha1 dL_law_1497 ?_
  refine ev_callV (ci := 11) (As := [.int a1]) (rest := []) 1 (kX11_count (E := E) (d := 2) (QQ := (fun v τ n' => v = some (.int q) ∧ τ = xσ μ R ∧ n = n')) (Nat.le_refl _) hF hq (⟨rfl, rfl, rfl⟩)) my_X11_count ⟨m_1216, m_1217, m_1218⟩ cl_11 kd_0 (xl hF rfl) rfl rfl (Nat.le_of_ble_eq_true rfl) (Nat.le_of_ble_eq_true rfl) (Nat.le_of_ble_eq_true rfl) (Nat.le_trans (Nat.le_add_right _ _) hce) (Nat.le_trans (Nat.le_add_right _ _) hsl) dL_law_1498 (fun v τ n' hv => ?_)
  obtain ⟨rfl, rfl, rfl⟩ := hv
  have hF1 := hF
  show Ev E (lwC b L xs E.2.2.2) (lwY nm) 1501 [(0, .ref b), (1, .ref (E.2.2.2 + iC)), (2, .ref (E.2.2.2 + iM)), (3, .int i)] [.int q] (xσ μ R) n ce sl
  refine ev_aload_n 2 dL_law_1501 rfl rfl ?_
  refine ev_aload_n 0 dL_law_1502 rfl rfl ?_
  refine ev_iload_n 3 dL_law_1503 rfl rfl ?_
  refine ev_iconst (v := 1) dL_law_1504 (by decide) ?_
  refine ev_iadd dL_law_1505 ?_
  refine ev_sld v1 ha1 dL_law_1506 ?_
  refine ev_callV (ci := 12) (As := [.int a1]) (rest := [.int q]) 1 (kX12_count (E := E) (d := 1) (QQ := (fun v τ n' => v = some (.int q2) ∧ τ = xσ μ R ∧ n = n')) (Nat.le_refl _) hF1 hq2 (⟨rfl, rfl, rfl⟩)) my_X12_count ⟨m_1879, m_1880, m_1881⟩ cl_12 kd_61 (xl hF1 rfl) rfl rfl (Nat.le_of_ble_eq_true rfl) (Nat.le_of_ble_eq_true rfl) (Nat.le_of_ble_eq_true rfl) (Nat.le_trans (Nat.le_add_right _ _) hce) (Nat.le_trans (Nat.le_add_right _ _) hsl) dL_law_1507 (fun v τ n' hv => ?_)
  obtain ⟨rfl, rfl, rfl⟩ := hv
  show Ev E (lwC b L xs E.2.2.2) (lwY nm) 1510 [(0, .ref b), (1, .ref (E.2.2.2 + iC)), (2, .ref (E.2.2.2 + iM)), (3, .int i)] [.int q2, .int q] (xσ μ R) n ce sl
  exact ev_icmp_eq (tgt := 1515) dL_law_1510 (by decide) (fun _ => ev_widen (Nat.le_add_right _ _) (Nat.le_add_right _ _) (hK _ _ _ hJ2)) (fun hne => absurd hr.symm hne)
def lwS (J : xm → xr → Nat → Prop) : Prop := lwS_0 J ∧ lwS_1 J ∧ lwS_2 J ∧ lwS_3 J ∧ lwS_4 J ∧ lwS_5 J ∧ lwS_6 J ∧ lwS_7 J ∧ lwS_8 J ∧ lwS_9 J ∧ lwS_10 J ∧ lwS_11 J ∧ lwS_12 J ∧ lwS_13 J ∧ lwS_14 J ∧ lwS_15 J ∧ lwS_16 J ∧ lwS_17 J ∧ lwS_18 J ∧ lwS_19 J ∧ lwS_20 J ∧ lwS_21 J ∧ lwS_22 J ∧ lwS_23 J ∧ lwS_24 J ∧ lwS_25 J ∧ lwS_26 J ∧ lwS_27 J ∧ lwS_28 J ∧ lwS_29 J ∧ lwS_30 J ∧ lwS_31 J ∧ lwS_32 J ∧ lwS_33 J ∧ lwS_34 J
theorem lw_vin {t L j : Nat} (h : 7 * t + 7 ≤ L) (hL : L ≤ 3584) (hj : j ≤ 6) : vp_in (Int32.ofNat (7 * t) + Int32.ofNat j) L := by
  rw [← Int32.ofNat_add]
  intro q
  rcases q with q | q
  · rw [Int32.lt_iff_toInt_lt, Int32.toInt_ofNat_of_lt (by omega)] at q
    have : (0 : Int32).toInt = 0 := rfl
    omega
  · rw [Int32.toNatClampNeg_ofNat_of_lt (by omega)] at q
    omega
theorem lw_more {t L : Nat} (hL : L ≤ 3584) (ht : t ≤ 512) (h : ¬ (Int32.ofNat L - 7 < Int32.ofNat (7 * t))) : 7 * t + 7 ≤ L := by
  rw [Int32.lt_iff_toInt_lt, Int32.toInt_sub, Int32.toInt_ofNat_of_lt (by omega), Int32.toInt_ofNat_of_lt (by omega)] at h
  have h7 : (7 : Int32).toInt = 7 := rfl
  rw [h7, Int.bmod_eq_of_le (by omega) (by omega)] at h
  omega
set_option maxHeartbeats 4000000 in
set_option maxRecDepth 100000 in
theorem lw_loop {E : xE} {b L : Nat} {xs : Nat → Int32} {nm : String} {J : xm → xr → Nat → Prop} (HS : lwS J) (HJ : ∀ μ R n, J μ R n → xFin R n ∧ ∃ k, n = 107 + 2 * k) (hL : L ≤ 3584) : ∀ (f t : Nat) (μ : xm) (R : xr) (n : Nat), t ≤ 512 → L < 7 * t + 7 * f → J μ R n → Ev E (lwC b L xs E.2.2.2) (lwY nm) 18 [(0, .ref b), (1, .ref (E.2.2.2 + iC)), (2, .ref (E.2.2.2 + iM)), (3, .int (Int32.ofNat (7 * t)))] [] (xσ μ R) n (200 + 2 * t) (20000 + 13 * t) := by
  intro f
  induction f with
  | zero =>
    intro t μ R n ht hf hJ
    refine ev_iload_n 3 dL_law_18 rfl rfl ?_
    refine ev_aload_n 0 dL_law_19 rfl rfl ?_
    refine ev_slen dL_law_20 ?_
    refine ev_bipush (v := 7) dL_law_21 (by decide) ?_
    refine ev_isub dL_law_23 ?_
    refine ev_icmp_gt (tgt := 1521) dL_law_24 (by decide) (fun hgt => ?_) (fun hgt => absurd (lw_more hL ht hgt) (by omega))
    refine ev_iconst (v := 1) dL_law_1521 (by decide) ?_
    exact ev_law_end (by omega) (by omega) dL_law_1522
  | succ f ih =>
    intro t μ R n ht hf hJ
    refine ev_iload_n 3 dL_law_18 rfl rfl ?_
    refine ev_aload_n 0 dL_law_19 rfl rfl ?_
    refine ev_slen dL_law_20 ?_
    refine ev_bipush (v := 7) dL_law_21 (by decide) ?_
    refine ev_isub dL_law_23 ?_
    refine ev_icmp_gt (tgt := 1521) dL_law_24 (by decide) (fun hgt => ?_) (fun hgt => ?_)
    · refine ev_iconst (v := 1) dL_law_1521 (by decide) ?_
      exact ev_law_end (by omega) (by omega) dL_law_1522
    · have hm := lw_more hL ht hgt
      have v1 : vp_in (Int32.ofNat (7 * t) + 1) L := lw_vin (j := 1) hm hL (by decide)
      have v2 : vp_in (Int32.ofNat (7 * t) + 2) L := lw_vin (j := 2) hm hL (by decide)
      have v3 : vp_in (Int32.ofNat (7 * t) + 3) L := lw_vin (j := 3) hm hL (by decide)
      have v4 : vp_in (Int32.ofNat (7 * t) + 4) L := lw_vin (j := 4) hm hL (by decide)
      have v5 : vp_in (Int32.ofNat (7 * t) + 5) L := lw_vin (j := 5) hm hL (by decide)
      have v6 : vp_in (Int32.ofNat (7 * t) + 6) L := lw_vin (j := 6) hm hL (by decide)
      have v0 : vp_in (Int32.ofNat (7 * t)) L := by have h0 := lw_vin (j := 0) hm hL (by decide); simpa using h0
      have hK : ∀ (ν : xm) (S : xr) (n' : Nat), J ν S n' → Ev E (lwC b L xs E.2.2.2) (lwY nm) 1515 [(0, .ref b), (1, .ref (E.2.2.2 + iC)), (2, .ref (E.2.2.2 + iM)), (3, .int (Int32.ofNat (7 * t)))] [] (xσ ν S) n' (200 + 2 * t + 2) (20000 + 13 * t + 13) := by
        intro ν S n' hJ'
        refine ev_iinc (L' := [(3, .int (Int32.ofNat (7 * (t + 1)))), (0, .ref b), (1, .ref (E.2.2.2 + iC)), (2, .ref (E.2.2.2 + iM))]) 3 dL_law_1515 rfl (by rw [show (7 * (t + 1)) = 7 * t + 7 from rfl, Int32.ofNat_add]; rfl) (Nat.le_of_ble_eq_true rfl) rfl ?_
        refine ev_goto (tgt := 18) dL_law_1518 (by decide) ?_
        exact ev_sub [1, 2, 3, 0] rfl (ih (t + 1) ν S n' (by omega) (by omega) hJ')
      have hce : 200 + 2 * t + 2 ≤ 600000 := by omega
      have hsl : 20000 + 13 * t + 13 ≤ 7302250 := by omega
      refine ev_aload_n 0 dL_law_27 rfl rfl ?_
      refine ev_iload_n 3 dL_law_28 rfl rfl ?_
      refine ev_sld v0 rfl dL_law_29 ?_
      refine ev_bipush (v := 63) dL_law_30 (by decide) ?_
      refine ev_iand dL_law_32 ?_
      generalize xs (Int32.ofNat (7 * t)).toNatClampNeg &&& 63 = w
      by_cases w0 : w = 0
      · refine ev_switch (tgt := 188) (off := 155) dL_law_33 (xsw_in (v := 0) (by rw [w0]; rfl) (by decide +kernel)) (by decide) ?_
        exact lwc_0 HS.1 HJ hce hsl v1 v2 v3 v4 v5 v6 hJ hK
      by_cases w1 : w = 1
      · refine ev_switch (tgt := 211) (off := 178) dL_law_33 (xsw_in (v := 1) (by rw [w1]; rfl) (by decide +kernel)) (by decide) ?_
        exact lwc_1 HS.2.1 HJ hce hsl v1 v2 v3 v4 v5 v6 hJ hK
      by_cases w2 : w = 2
      · refine ev_switch (tgt := 254) (off := 221) dL_law_33 (xsw_in (v := 2) (by rw [w2]; rfl) (by decide +kernel)) (by decide) ?_
        exact lwc_2 HS.2.2.1 HJ hce hsl v1 v2 v3 v4 v5 v6 hJ hK
      by_cases w3 : w = 3
      · refine ev_switch (tgt := 297) (off := 264) dL_law_33 (xsw_in (v := 3) (by rw [w3]; rfl) (by decide +kernel)) (by decide) ?_
        exact lwc_3 HS.2.2.2.1 HJ hce hsl v1 v2 v3 v4 v5 v6 hJ hK
      by_cases w4 : w = 4
      · refine ev_switch (tgt := 340) (off := 307) dL_law_33 (xsw_in (v := 4) (by rw [w4]; rfl) (by decide +kernel)) (by decide) ?_
        exact lwc_4 HS.2.2.2.2.1 HJ hce hsl v1 v2 v3 v4 v5 v6 hJ hK
      by_cases w5 : w = 5
      · refine ev_switch (tgt := 403) (off := 370) dL_law_33 (xsw_in (v := 5) (by rw [w5]; rfl) (by decide +kernel)) (by decide) ?_
        exact lwc_5 HS.2.2.2.2.2.1 HJ hce hsl v1 v2 v3 v4 v5 v6 hJ hK
      by_cases w6 : w = 6
      · refine ev_switch (tgt := 426) (off := 393) dL_law_33 (xsw_in (v := 6) (by rw [w6]; rfl) (by decide +kernel)) (by decide) ?_
        exact lwc_6 HS.2.2.2.2.2.2.1 HJ hce hsl v1 v2 v3 v4 v5 v6 hJ hK
      by_cases w7 : w = 7
      · refine ev_switch (tgt := 449) (off := 416) dL_law_33 (xsw_in (v := 7) (by rw [w7]; rfl) (by decide +kernel)) (by decide) ?_
        exact lwc_7 HS.2.2.2.2.2.2.2.1 HJ hce hsl v1 v2 v3 v4 v5 v6 hJ hK
      by_cases w8 : w = 8
      · refine ev_switch (tgt := 492) (off := 459) dL_law_33 (xsw_in (v := 8) (by rw [w8]; rfl) (by decide +kernel)) (by decide) ?_
        exact lwc_8 HS.2.2.2.2.2.2.2.2.1 HJ hce hsl v1 v2 v3 v4 v5 v6 hJ hK
      by_cases w9 : w = 9
      · refine ev_switch (tgt := 535) (off := 502) dL_law_33 (xsw_in (v := 9) (by rw [w9]; rfl) (by decide +kernel)) (by decide) ?_
        exact lwc_9 HS.2.2.2.2.2.2.2.2.2.1 HJ hce hsl v1 v2 v3 v4 v5 v6 hJ hK
      by_cases w10 : w = 10
      · refine ev_switch (tgt := 588) (off := 555) dL_law_33 (xsw_in (v := 10) (by rw [w10]; rfl) (by decide +kernel)) (by decide) ?_
        exact lwc_10 HS.2.2.2.2.2.2.2.2.2.2.1 HJ hce hsl v1 v2 v3 v4 v5 v6 hJ hK
      by_cases w11 : w = 11
      · refine ev_switch (tgt := 641) (off := 608) dL_law_33 (xsw_in (v := 11) (by rw [w11]; rfl) (by decide +kernel)) (by decide) ?_
        exact lwc_11 HS.2.2.2.2.2.2.2.2.2.2.2.1 HJ hce hsl v1 v2 v3 v4 v5 v6 hJ hK
      by_cases w12 : w = 12
      · refine ev_switch (tgt := 664) (off := 631) dL_law_33 (xsw_in (v := 12) (by rw [w12]; rfl) (by decide +kernel)) (by decide) ?_
        exact lwc_12 HS.2.2.2.2.2.2.2.2.2.2.2.2.1 HJ hce hsl v1 v2 v3 v4 v5 v6 hJ hK
      by_cases w13 : w = 13
      · refine ev_switch (tgt := 697) (off := 664) dL_law_33 (xsw_in (v := 13) (by rw [w13]; rfl) (by decide +kernel)) (by decide) ?_
        exact lwc_13 HS.2.2.2.2.2.2.2.2.2.2.2.2.2.1 HJ hce hsl v1 v2 v3 v4 v5 v6 hJ hK
      by_cases w14 : w = 14
      · refine ev_switch (tgt := 730) (off := 697) dL_law_33 (xsw_in (v := 14) (by rw [w14]; rfl) (by decide +kernel)) (by decide) ?_
        exact lwc_14 HS.2.2.2.2.2.2.2.2.2.2.2.2.2.2.1 HJ hce hsl v1 v2 v3 v4 v5 v6 hJ hK
      by_cases w15 : w = 15
      · refine ev_switch (tgt := 763) (off := 730) dL_law_33 (xsw_in (v := 15) (by rw [w15]; rfl) (by decide +kernel)) (by decide) ?_
        exact lwc_15 HS.2.2.2.2.2.2.2.2.2.2.2.2.2.2.2.1 HJ hce hsl v1 v2 v3 v4 v5 v6 hJ hK
      by_cases w16 : w = 16
      · refine ev_switch (tgt := 806) (off := 773) dL_law_33 (xsw_in (v := 16) (by rw [w16]; rfl) (by decide +kernel)) (by decide) ?_
        exact lwc_16 HS.2.2.2.2.2.2.2.2.2.2.2.2.2.2.2.2.1 HJ hce hsl v1 v2 v3 v4 v5 v6 hJ hK
      by_cases w17 : w = 17
      · refine ev_switch (tgt := 839) (off := 806) dL_law_33 (xsw_in (v := 17) (by rw [w17]; rfl) (by decide +kernel)) (by decide) ?_
        exact lwc_17 HS.2.2.2.2.2.2.2.2.2.2.2.2.2.2.2.2.2.1 HJ hce hsl v1 v2 v3 v4 v5 v6 hJ hK
      by_cases w18 : w = 18
      · refine ev_switch (tgt := 873) (off := 840) dL_law_33 (xsw_in (v := 18) (by rw [w18]; rfl) (by decide +kernel)) (by decide) ?_
        exact lwc_18 HS.2.2.2.2.2.2.2.2.2.2.2.2.2.2.2.2.2.2.1 HJ hce hsl v1 v2 v3 v4 v5 v6 hJ hK
      by_cases w19 : w = 19
      · refine ev_switch (tgt := 886) (off := 853) dL_law_33 (xsw_in (v := 19) (by rw [w19]; rfl) (by decide +kernel)) (by decide) ?_
        exact lwc_19 HS.2.2.2.2.2.2.2.2.2.2.2.2.2.2.2.2.2.2.2.1 HJ hce hsl v1 v2 v3 v4 v5 v6 hJ hK
      by_cases w20 : w = 20
      · refine ev_switch (tgt := 899) (off := 866) dL_law_33 (xsw_in (v := 20) (by rw [w20]; rfl) (by decide +kernel)) (by decide) ?_
        exact lwc_20 HS.2.2.2.2.2.2.2.2.2.2.2.2.2.2.2.2.2.2.2.2.1 HJ hce hsl v1 v2 v3 v4 v5 v6 hJ hK
      by_cases w21 : w = 21
      · refine ev_switch (tgt := 942) (off := 909) dL_law_33 (xsw_in (v := 21) (by rw [w21]; rfl) (by decide +kernel)) (by decide) ?_
        exact lwc_21 HS.2.2.2.2.2.2.2.2.2.2.2.2.2.2.2.2.2.2.2.2.2.1 HJ hce hsl v1 v2 v3 v4 v5 v6 hJ hK
      by_cases w22 : w = 22
      · refine ev_switch (tgt := 985) (off := 952) dL_law_33 (xsw_in (v := 22) (by rw [w22]; rfl) (by decide +kernel)) (by decide) ?_
        exact lwc_22 HS.2.2.2.2.2.2.2.2.2.2.2.2.2.2.2.2.2.2.2.2.2.2.1 HJ hce hsl v1 v2 v3 v4 v5 v6 hJ hK
      by_cases w23 : w = 23
      · refine ev_switch (tgt := 1034) (off := 1001) dL_law_33 (xsw_in (v := 23) (by rw [w23]; rfl) (by decide +kernel)) (by decide) ?_
        exact lwc_23 HS.2.2.2.2.2.2.2.2.2.2.2.2.2.2.2.2.2.2.2.2.2.2.2.1 HJ hce hsl v1 v2 v3 v4 v5 v6 hJ hK
      by_cases w24 : w = 24
      · refine ev_switch (tgt := 1077) (off := 1044) dL_law_33 (xsw_in (v := 24) (by rw [w24]; rfl) (by decide +kernel)) (by decide) ?_
        exact lwc_24 HS.2.2.2.2.2.2.2.2.2.2.2.2.2.2.2.2.2.2.2.2.2.2.2.2.1 HJ hce hsl v1 v2 v3 v4 v5 v6 hJ hK
      by_cases w25 : w = 25
      · refine ev_switch (tgt := 1121) (off := 1088) dL_law_33 (xsw_in (v := 25) (by rw [w25]; rfl) (by decide +kernel)) (by decide) ?_
        exact lwc_25 HS.2.2.2.2.2.2.2.2.2.2.2.2.2.2.2.2.2.2.2.2.2.2.2.2.2.1 HJ hce hsl v1 v2 v3 v4 v5 v6 hJ hK
      by_cases w26 : w = 26
      · refine ev_switch (tgt := 1175) (off := 1142) dL_law_33 (xsw_in (v := 26) (by rw [w26]; rfl) (by decide +kernel)) (by decide) ?_
        exact lwc_26 HS.2.2.2.2.2.2.2.2.2.2.2.2.2.2.2.2.2.2.2.2.2.2.2.2.2.2.1 HJ hce hsl v1 v2 v3 v4 v5 v6 hJ hK
      by_cases w27 : w = 27
      · refine ev_switch (tgt := 1218) (off := 1185) dL_law_33 (xsw_in (v := 27) (by rw [w27]; rfl) (by decide +kernel)) (by decide) ?_
        exact lwc_27 HS.2.2.2.2.2.2.2.2.2.2.2.2.2.2.2.2.2.2.2.2.2.2.2.2.2.2.2.1 HJ hce hsl v1 v2 v3 v4 v5 v6 hJ hK
      by_cases w28 : w = 28
      · refine ev_switch (tgt := 1294) (off := 1261) dL_law_33 (xsw_in (v := 28) (by rw [w28]; rfl) (by decide +kernel)) (by decide) ?_
        exact lwc_28 HS.2.2.2.2.2.2.2.2.2.2.2.2.2.2.2.2.2.2.2.2.2.2.2.2.2.2.2.2.1 HJ hce hsl v1 v2 v3 v4 v5 v6 hJ hK
      by_cases w29 : w = 29
      · refine ev_switch (tgt := 1357) (off := 1324) dL_law_33 (xsw_in (v := 29) (by rw [w29]; rfl) (by decide +kernel)) (by decide) ?_
        exact lwc_29 HS.2.2.2.2.2.2.2.2.2.2.2.2.2.2.2.2.2.2.2.2.2.2.2.2.2.2.2.2.2.1 HJ hce hsl v1 v2 v3 v4 v5 v6 hJ hK
      by_cases w30 : w = 30
      · refine ev_switch (tgt := 1400) (off := 1367) dL_law_33 (xsw_in (v := 30) (by rw [w30]; rfl) (by decide +kernel)) (by decide) ?_
        exact lwc_30 HS.2.2.2.2.2.2.2.2.2.2.2.2.2.2.2.2.2.2.2.2.2.2.2.2.2.2.2.2.2.2.1 HJ hce hsl v1 v2 v3 v4 v5 v6 hJ hK
      by_cases w31 : w = 31
      · refine ev_switch (tgt := 1413) (off := 1380) dL_law_33 (xsw_in (v := 31) (by rw [w31]; rfl) (by decide +kernel)) (by decide) ?_
        exact lwc_31 HS.2.2.2.2.2.2.2.2.2.2.2.2.2.2.2.2.2.2.2.2.2.2.2.2.2.2.2.2.2.2.2.1 HJ hce hsl v1 v2 v3 v4 v5 v6 hJ hK
      by_cases w32 : w = 32
      · refine ev_switch (tgt := 1436) (off := 1403) dL_law_33 (xsw_in (v := 32) (by rw [w32]; rfl) (by decide +kernel)) (by decide) ?_
        exact lwc_32 HS.2.2.2.2.2.2.2.2.2.2.2.2.2.2.2.2.2.2.2.2.2.2.2.2.2.2.2.2.2.2.2.2.1 HJ hce hsl v1 v2 v3 v4 v5 v6 hJ hK
      by_cases w33 : w = 33
      · refine ev_switch (tgt := 1469) (off := 1436) dL_law_33 (xsw_in (v := 33) (by rw [w33]; rfl) (by decide +kernel)) (by decide) ?_
        exact lwc_33 HS.2.2.2.2.2.2.2.2.2.2.2.2.2.2.2.2.2.2.2.2.2.2.2.2.2.2.2.2.2.2.2.2.2.1 HJ hce hsl v1 v2 v3 v4 v5 v6 hJ hK
      by_cases w34 : w = 34
      · refine ev_switch (tgt := 1492) (off := 1459) dL_law_33 (xsw_in (v := 34) (by rw [w34]; rfl) (by decide +kernel)) (by decide) ?_
        exact lwc_34 HS.2.2.2.2.2.2.2.2.2.2.2.2.2.2.2.2.2.2.2.2.2.2.2.2.2.2.2.2.2.2.2.2.2.2 HJ hce hsl v1 v2 v3 v4 v5 v6 hJ hK
      refine ev_switch (tgt := 1515) (off := 1482) dL_law_33 (xsw_out [0, 1, 2, 3, 4, 5, 6, 7, 8, 9, 10, 11, 12, 13, 14, 15, 16, 17, 18, 19, 20, 21, 22, 23, 24, 25, 26, 27, 28, 29, 30, 31, 32, 33, 34] (List.forall_mem_cons.mpr ⟨(xne (c := 0) rfl w0), (List.forall_mem_cons.mpr ⟨(xne (c := 1) rfl w1), (List.forall_mem_cons.mpr ⟨(xne (c := 2) rfl w2), (List.forall_mem_cons.mpr ⟨(xne (c := 3) rfl w3), (List.forall_mem_cons.mpr ⟨(xne (c := 4) rfl w4), (List.forall_mem_cons.mpr ⟨(xne (c := 5) rfl w5), (List.forall_mem_cons.mpr ⟨(xne (c := 6) rfl w6), (List.forall_mem_cons.mpr ⟨(xne (c := 7) rfl w7), (List.forall_mem_cons.mpr ⟨(xne (c := 8) rfl w8), (List.forall_mem_cons.mpr ⟨(xne (c := 9) rfl w9), (List.forall_mem_cons.mpr ⟨(xne (c := 10) rfl w10), (List.forall_mem_cons.mpr ⟨(xne (c := 11) rfl w11), (List.forall_mem_cons.mpr ⟨(xne (c := 12) rfl w12), (List.forall_mem_cons.mpr ⟨(xne (c := 13) rfl w13), (List.forall_mem_cons.mpr ⟨(xne (c := 14) rfl w14), (List.forall_mem_cons.mpr ⟨(xne (c := 15) rfl w15), (List.forall_mem_cons.mpr ⟨(xne (c := 16) rfl w16), (List.forall_mem_cons.mpr ⟨(xne (c := 17) rfl w17), (List.forall_mem_cons.mpr ⟨(xne (c := 18) rfl w18), (List.forall_mem_cons.mpr ⟨(xne (c := 19) rfl w19), (List.forall_mem_cons.mpr ⟨(xne (c := 20) rfl w20), (List.forall_mem_cons.mpr ⟨(xne (c := 21) rfl w21), (List.forall_mem_cons.mpr ⟨(xne (c := 22) rfl w22), (List.forall_mem_cons.mpr ⟨(xne (c := 23) rfl w23), (List.forall_mem_cons.mpr ⟨(xne (c := 24) rfl w24), (List.forall_mem_cons.mpr ⟨(xne (c := 25) rfl w25), (List.forall_mem_cons.mpr ⟨(xne (c := 26) rfl w26), (List.forall_mem_cons.mpr ⟨(xne (c := 27) rfl w27), (List.forall_mem_cons.mpr ⟨(xne (c := 28) rfl w28), (List.forall_mem_cons.mpr ⟨(xne (c := 29) rfl w29), (List.forall_mem_cons.mpr ⟨(xne (c := 30) rfl w30), (List.forall_mem_cons.mpr ⟨(xne (c := 31) rfl w31), (List.forall_mem_cons.mpr ⟨(xne (c := 32) rfl w32), (List.forall_mem_cons.mpr ⟨(xne (c := 33) rfl w33), (List.forall_mem_cons.mpr ⟨(xne (c := 34) rfl w34), (fun _ e => absurd e List.not_mem_nil)⟩)⟩)⟩)⟩)⟩)⟩)⟩)⟩)⟩)⟩)⟩)⟩)⟩)⟩)⟩)⟩)⟩)⟩)⟩)⟩)⟩)⟩)⟩)⟩)⟩)⟩)⟩)⟩)⟩)⟩)⟩)⟩)⟩)⟩)⟩) (by decide +kernel)) (by decide) ?_
      exact ev_widen (Nat.le_add_right _ _) (Nat.le_add_right _ _) (hK _ _ _ hJ)
